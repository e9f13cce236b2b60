/-! mstep against W: a row a family -/
section MSTEP
variable {f : mFx} {w : mWd} {sc : mSc} {cc : ByteArray} {nL : Nat} {own : String} {Ts : List Cond}
theorem s_push {v : mv} {n : Nat} {x y : mC} {Ps : List Prop} (h : k_push v n x = some (y, Ps)) (hv : mOkV w sc v) (hr : ∀ H locs L st, mWk f H locs (F0 (fm f) (x.1 + n) L (mV (wad w) v :: st)) → mWk f H locs (F0 (fm f) x.1 L st)) (k : mWW f w sc nL y) : mWW f w sc nL x := by
  obtain ⟨pc, ls, st, σ⟩ := x
  cases h
  intro H locs L h1 h2 h3 h4 h5
  exact hr _ _ _ _ (k H locs L h1 h2 h3 h4 (fun u hu => by rcases List.mem_cons.mp hu with rfl | q; exact hv; exact h5 u q))
theorem s_ldi {j n : Nat} {x y : mC} {Ps : List Prop} (h : k_ldi j n x = some (y, Ps)) (hr : ∀ H locs L st (a : Int32), L[j]? = some (.val (.int a)) → mWk f H locs (F0 (fm f) (x.1 + n) L (.int a :: st)) → mWk f H locs (F0 (fm f) x.1 L st)) (k : mWW f w sc nL y) : mWW f w sc nL x := by
  obtain ⟨pc, ls, st, σ⟩ := x
  unfold k_ldi at h
  dsimp only at h
  split at h
  · rename_i z hz
    cases h
    intro H locs L h1 h2 h3 h4 h5
    obtain ⟨q1, q2⟩ := h4.2.2.2 _ _ hz
    exact hr _ _ _ _ _ q1 (k H locs L h1 h2 h3 h4 (fun u hu => by rcases List.mem_cons.mp hu with rfl | q; exact q2; exact h5 u q))
  · cases h
theorem s_ldl {j n : Nat} {x y : mC} {Ps : List Prop} (h : k_ldl j n x = some (y, Ps)) (hr : ∀ H locs L st (a : Int64), L[j]? = some (.val (.long a)) → mWk f H locs (F0 (fm f) (x.1 + n) L (.long a :: st)) → mWk f H locs (F0 (fm f) x.1 L st)) (k : mWW f w sc nL y) : mWW f w sc nL x := by
  obtain ⟨pc, ls, st, σ⟩ := x
  unfold k_ldl at h
  dsimp only at h
  split at h
  · rename_i z hz
    cases h
    intro H locs L h1 h2 h3 h4 h5
    obtain ⟨q1, q2⟩ := h4.2.2.2 _ _ hz
    exact hr _ _ _ _ _ q1 (k H locs L h1 h2 h3 h4 (fun u hu => by rcases List.mem_cons.mp hu with rfl | q; exact q2; exact h5 u q))
  · cases h
theorem s_lda {j n : Nat} {x y : mC} {Ps : List Prop} (h : k_lda j n x = some (y, Ps)) (hr : ∀ H locs L st (a : Nat), L[j]? = some (.val (.ref a)) → mWk f H locs (F0 (fm f) (x.1 + n) L (.ref a :: st)) → mWk f H locs (F0 (fm f) x.1 L st)) (k : mWW f w sc nL y) : mWW f w sc nL x := by
  obtain ⟨pc, ls, st, σ⟩ := x
  unfold k_lda at h
  dsimp only at h
  split at h
  · rename_i z hz
    cases h
    intro H locs L h1 h2 h3 h4 h5
    obtain ⟨q1, q2⟩ := h4.2.2.2 _ _ hz
    exact hr _ _ _ _ _ q1 (k H locs L h1 h2 h3 h4 (fun u hu => by rcases List.mem_cons.mp hu with rfl | q; exact q2; exact h5 u q))
  · cases h
abbrev sF1 (k : Nat) (l : List (Nat × Value)) : List (Nat × Value) := l.filter (fun q => !(q.1 == k) && !(q.1 + 1 == k && q.2.category == 2))
abbrev sF2 (k : Nat) (l : List (Nat × Value)) : List (Nat × Value) := l.filter (fun q => !(q.1 == k) && (!(q.1 == k + 1) && !(q.1 + 1 == k && q.2.category == 2)))
theorem s_sti {j n : Nat} {x y : mC} {Ps : List Prop} (h : k_sti j n x = some (y, Ps)) (hr : ∀ H locs L st lv (a : Int32), lv_has L nL lv → j < nL → (∀ L', lv_has L' nL ((j, .int a) :: sF1 j lv) → mWk f H locs (F0 (fm f) (x.1 + n) L' st)) → mWk f H locs (F0 (fm f) x.1 L (.int a :: st))) (k : mWW f w sc nL y) : mWW f w sc nL x := by
  obtain ⟨pc, ls, st, σ⟩ := x
  unfold k_sti at h
  split at h
  · rename_i pc' ls' z st' σ' e
    cases e
    cases hb : Nat.blt j ls.length with
    | false => rw [hb] at h; cases h
    | true =>
      rw [hb] at h
      cases h
      intro H locs L h1 h2 h3 h4 h5
      have hj : j < nL := by rw [← h4.2.2.1]; exact Nat.le_of_ble_eq_true hb
      exact hr _ _ _ _ _ _ (mLs_has h4) hj (fun L' hL' => k H locs L' h1 h2 h3 (mLs_st1 (v := .inl z) h4 hj (h5 _ List.mem_cons_self) hL') (fun u hu => h5 u (List.mem_cons_of_mem _ hu)))
  · cases h
theorem s_sta {j n : Nat} {x y : mC} {Ps : List Prop} (h : k_sta j n x = some (y, Ps)) (hr : ∀ H locs L st lv (a : Nat), lv_has L nL lv → j < nL → (∀ L', lv_has L' nL ((j, .ref a) :: sF1 j lv) → mWk f H locs (F0 (fm f) (x.1 + n) L' st)) → mWk f H locs (F0 (fm f) x.1 L (.ref a :: st))) (k : mWW f w sc nL y) : mWW f w sc nL x := by
  obtain ⟨pc, ls, st, σ⟩ := x
  unfold k_sta at h
  split at h
  · rename_i pc' ls' z st' σ' e
    cases e
    cases hb : Nat.blt j ls.length with
    | false => rw [hb] at h; cases h
    | true =>
      rw [hb] at h
      cases h
      intro H locs L h1 h2 h3 h4 h5
      have hj : j < nL := by rw [← h4.2.2.1]; exact Nat.le_of_ble_eq_true hb
      exact hr _ _ _ _ _ _ (mLs_has h4) hj (fun L' hL' => k H locs L' h1 h2 h3 (mLs_st1 (v := .inr (.inr z)) h4 hj (h5 _ List.mem_cons_self) hL') (fun u hu => h5 u (List.mem_cons_of_mem _ hu)))
  · cases h
theorem s_stl {j n : Nat} {x y : mC} {Ps : List Prop} (h : k_stl j n x = some (y, Ps)) (hr : ∀ H locs L st lv (a : Int64), lv_has L nL lv → j + 1 < nL → (∀ L', lv_has L' nL ((j, .long a) :: sF2 j lv) → mWk f H locs (F0 (fm f) (x.1 + n) L' st)) → mWk f H locs (F0 (fm f) x.1 L (.long a :: st))) (k : mWW f w sc nL y) : mWW f w sc nL x := by
  obtain ⟨pc, ls, st, σ⟩ := x
  unfold k_stl at h
  split at h
  · rename_i pc' ls' z st' σ' e
    cases e
    cases hb : Nat.blt (j + 1) ls.length with
    | false => rw [hb] at h; cases h
    | true =>
      rw [hb] at h
      cases h
      intro H locs L h1 h2 h3 h4 h5
      have hj : j + 1 < nL := by rw [← h4.2.2.1]; exact Nat.le_of_ble_eq_true hb
      exact hr _ _ _ _ _ _ (mLs_has h4) hj (fun L' hL' => k H locs L' h1 h2 h3 (mLs_st2 (v := .inr (.inl z)) h4 hj (h5 _ List.mem_cons_self) hL') (fun u hu => h5 u (List.mem_cons_of_mem _ hu)))
  · cases h
theorem s_ii {g : Int → Int → Int} {x y : mC} {Ps : List Prop} (h : k_ii g x = some (y, Ps)) (hok : ∀ a b, mw (g a b) = g a b) (hr : ∀ H locs L st (a b : Int), mw a = a → mw b = b → mWk f H locs (F0 (fm f) (x.1 + 1) L (.int (Int32.ofInt (g a b)) :: st)) → mWk f H locs (F0 (fm f) x.1 L (.int (Int32.ofInt b) :: .int (Int32.ofInt a) :: st))) (k : mWW f w sc nL y) : mWW f w sc nL x := by
  obtain ⟨pc, ls, st, σ⟩ := x
  unfold k_ii at h
  split at h
  · rename_i pc' ls' b a st' σ' e
    cases e
    cases h
    intro H locs L h1 h2 h3 h4 h5
    exact hr _ _ _ _ _ _ (h5 (.inl a) (List.mem_cons_of_mem _ List.mem_cons_self)) (h5 (.inl b) List.mem_cons_self) (k H locs L h1 h2 h3 h4 (fun u hu => by rcases List.mem_cons.mp hu with rfl | q; exact hok a b; exact h5 u (List.mem_cons_of_mem _ (List.mem_cons_of_mem _ q))))
  · cases h
theorem s_iid {g : Int → Int → Int} {x y : mC} {Ps : List Prop} (h : k_iid g x = some (y, Ps)) (hP : mAll Ps) (hok : ∀ a b, mw (g a b) = g a b) (hr : ∀ H locs L st (a b : Int), mw b = b → ¬ b = 0 → mWk f H locs (F0 (fm f) (x.1 + 1) L (.int (Int32.ofInt (g a b)) :: st)) → mWk f H locs (F0 (fm f) x.1 L (.int (Int32.ofInt b) :: .int (Int32.ofInt a) :: st))) (k : mWW f w sc nL y) : mWW f w sc nL x := by
  obtain ⟨pc, ls, st, σ⟩ := x
  unfold k_iid at h
  split at h
  · rename_i pc' ls' b a st' σ' e
    cases e
    cases h
    intro H locs L h1 h2 h3 h4 h5
    exact hr _ _ _ _ _ _ (h5 (.inl b) List.mem_cons_self) hP.1 (k H locs L h1 h2 h3 h4 (fun u hu => by rcases List.mem_cons.mp hu with rfl | q; exact hok a b; exact h5 u (List.mem_cons_of_mem _ (List.mem_cons_of_mem _ q))))
  · cases h
theorem s_i1 {g : Int → Int} {x y : mC} {Ps : List Prop} (h : k_i1 g x = some (y, Ps)) (hok : ∀ a, mw (g a) = g a) (hr : ∀ H locs L st (a : Int), mWk f H locs (F0 (fm f) (x.1 + 1) L (.int (Int32.ofInt (g a)) :: st)) → mWk f H locs (F0 (fm f) x.1 L (.int (Int32.ofInt a) :: st))) (k : mWW f w sc nL y) : mWW f w sc nL x := by
  obtain ⟨pc, ls, st, σ⟩ := x
  unfold k_i1 at h
  split at h
  · rename_i pc' ls' a st' σ' e
    cases e
    cases h
    intro H locs L h1 h2 h3 h4 h5
    exact hr _ _ _ _ _ (k H locs L h1 h2 h3 h4 (fun u hu => by rcases List.mem_cons.mp hu with rfl | q; exact hok a; exact h5 u (List.mem_cons_of_mem _ q)))
  · cases h
theorem s_ll {g : Int → Int → Int} {x y : mC} {Ps : List Prop} (h : k_ll g x = some (y, Ps)) (hok : ∀ a b, mx (g a b) = g a b) (hr : ∀ H locs L st (a b : Int), mWk f H locs (F0 (fm f) (x.1 + 1) L (.long (Int64.ofInt (g a b)) :: st)) → mWk f H locs (F0 (fm f) x.1 L (.long (Int64.ofInt b) :: .long (Int64.ofInt a) :: st))) (k : mWW f w sc nL y) : mWW f w sc nL x := by
  obtain ⟨pc, ls, st, σ⟩ := x
  unfold k_ll at h
  split at h
  · rename_i pc' ls' b a st' σ' e
    cases e
    cases h
    intro H locs L h1 h2 h3 h4 h5
    exact hr _ _ _ _ _ _ (k H locs L h1 h2 h3 h4 (fun u hu => by rcases List.mem_cons.mp hu with rfl | q; exact hok a b; exact h5 u (List.mem_cons_of_mem _ (List.mem_cons_of_mem _ q))))
  · cases h
theorem s_lld {g : Int → Int → Int} {x y : mC} {Ps : List Prop} (h : k_lld g x = some (y, Ps)) (hP : mAll Ps) (hok : ∀ a b, mx (g a b) = g a b) (hr : ∀ H locs L st (a b : Int), mx b = b → ¬ b = 0 → mWk f H locs (F0 (fm f) (x.1 + 1) L (.long (Int64.ofInt (g a b)) :: st)) → mWk f H locs (F0 (fm f) x.1 L (.long (Int64.ofInt b) :: .long (Int64.ofInt a) :: st))) (k : mWW f w sc nL y) : mWW f w sc nL x := by
  obtain ⟨pc, ls, st, σ⟩ := x
  unfold k_lld at h
  split at h
  · rename_i pc' ls' b a st' σ' e
    cases e
    cases h
    intro H locs L h1 h2 h3 h4 h5
    exact hr _ _ _ _ _ _ (h5 (.inr (.inl b)) List.mem_cons_self) hP.1 (k H locs L h1 h2 h3 h4 (fun u hu => by rcases List.mem_cons.mp hu with rfl | q; exact hok a b; exact h5 u (List.mem_cons_of_mem _ (List.mem_cons_of_mem _ q))))
  · cases h
theorem s_li {g : Int → Int → Int} {x y : mC} {Ps : List Prop} (h : k_li g x = some (y, Ps)) (hok : ∀ a b, mx (g a b) = g a b) (hr : ∀ H locs L st (a b : Int), mWk f H locs (F0 (fm f) (x.1 + 1) L (.long (Int64.ofInt (g a b)) :: st)) → mWk f H locs (F0 (fm f) x.1 L (.int (Int32.ofInt b) :: .long (Int64.ofInt a) :: st))) (k : mWW f w sc nL y) : mWW f w sc nL x := by
  obtain ⟨pc, ls, st, σ⟩ := x
  unfold k_li at h
  split at h
  · rename_i pc' ls' b a st' σ' e
    cases e
    cases h
    intro H locs L h1 h2 h3 h4 h5
    exact hr _ _ _ _ _ _ (k H locs L h1 h2 h3 h4 (fun u hu => by rcases List.mem_cons.mp hu with rfl | q; exact hok a b; exact h5 u (List.mem_cons_of_mem _ (List.mem_cons_of_mem _ q))))
  · cases h
end MSTEP
