/-! the class's layers: reduction -/
theorem gwd_wd (d : Nat) : gwd d = wd d := rfl
theorem d64 {d f : Nat} (h : f < 64) : (64 * d + f) / 64 = d := by omega
theorem fill_r60 {N d : Nat} (hN : 1000 ≤ N) (hd : d ≤ 6) (v : Int) (σ : mS) : f_J7_fill_53178_r60 N d v σ = some (msv σ 60 d (wd d) v) := by
  have hw := (wd_6 d (List.mem_range.mpr (by omega))).1
  unfold f_J7_fill_53178_r60
  rw [gwd_wd, show (0 : Int) = ((0 : Nat) : Int) from rfl, fill_lp (L := fun f k s => L_J7_fill_53178_r60_5 N f d v k (wd d : Int) s) (r := 60) (i := d) (n := wd d) (v := v) (fun f k s hk => by
    rw [L_J7_fill_53178_r60_5_s, gwd_wd, if_neg (by omega), if_pos (by omega), tN, mw_s (by omega)]) (fun f s => by
    rw [L_J7_fill_53178_r60_5_s, if_pos (by omega)]) (wd d) 0 N σ (by omega) (by omega), Option.bind_some]
  refine congrArg some ?_
  funext r' i' k'
  unfold msv
  by_cases e : r' = 60 ∧ i' = d ∧ k' < wd d
  · rw [if_pos e, if_pos ⟨e.1, e.2.1, Nat.zero_le _, e.2.2⟩]
  · rw [if_neg e, if_neg (fun q => e ⟨q.1, q.2.1, q.2.2.2⟩)]
/-- the numbers of a row are NUMBERS -/
def nmW (A : Nat → Int) (W : Nat) : Prop := ∀ k, k < W → 0 ≤ A k ∧ A k < 32003
theorem X11_take59 {N d f : Nat} {a : Int} {σ : mS} (hN : 1000 ≤ N) (hd : d ≤ 6) (hf : f < 64) (ha : 0 < a ∧ a < 32003) (hw : nmW (σ 59 d) (wd d)) (hr : nmW (σ 55 (64 * d + f)) (wd d)) : ∃ σ', f_X11_takeOff_r59_r55 N d (64 * d + f) a (wd d : Int) σ = some σ' ∧ fr [59] σ σ' ∧ (∀ k, k < wd d → σ' 59 d k = (σ 59 d k + (32003 - a) * σ 55 (64 * d + f) k) % 32003) := by
  have h28 := (wd_6 d (List.mem_range.mpr (by omega))).1
  obtain ⟨s1, e, h1, h2⟩ := lp_0 (L := fun g k s => L_X11_takeOff_r59_r55_10 N g d (64 * d + f) (wd d : Int) (32003 - a) k s) (I := fun k s => fr [59] σ s ∧ ∀ k', k' < wd d → s 59 d k' = if k' < k then (σ 59 d k' + (32003 - a) * σ 55 (64 * d + f) k') % 32003 else σ 59 d k') (P := fun s => fr [59] σ s ∧ ∀ k', k' < wd d → s 59 d k' = if k' < wd d then (σ 59 d k' + (32003 - a) * σ 55 (64 * d + f) k') % 32003 else σ 59 d k') (wd d) (fun g k s hk hI => by
      obtain ⟨h1, h2⟩ := hI
      left
      have hrk := hr k hk
      have hwk := hw k hk
      have hcell : s 59 d k = σ 59 d k := by rw [h2 k hk, if_neg (by omega)]
      have hm := ml_rg (show 0 ≤ 32003 - a ∧ 32003 - a < 32003 by omega) hrk
      try dsimp only
      rw [L_X11_takeOff_r59_r55_10_s, if_neg (by omega), d64 hf, gwd_wd, if_pos (by omega), tN, h1 55 _ _ (by decide), mw_s (by omega)]
      by_cases q : σ 55 (64 * d + f) k = 0
      · rw [if_pos q]
        refine ⟨s, rfl, h1, fun k' hk' => ?_⟩
        rw [h2 k' hk']
        by_cases e : k' = k
        · subst e
          rw [if_neg (by omega), if_pos (by omega), q]
          omega
        · by_cases q2 : k' < k
          · rw [if_pos q2, if_pos (by omega)]
          · rw [if_neg q2, if_neg (by omega)]
      · rw [if_neg q, if_pos (by omega), hcell, mw_id (z := (32003 - a) * σ 55 (64 * d + f) k) (by omega) (by omega), rem_md (by omega) (by omega)]
        refine ⟨_, rfl, fr_mup h1 (by decide), fun k' hk' => ?_⟩
        by_cases e : k' = k
        · subst e
          rw [mup_s, if_pos (by omega)]
        · rw [mup_k e, h2 k' hk']
          by_cases q2 : k' < k
          · rw [if_pos q2, if_pos (by omega)]
          · rw [if_neg q2, if_neg (by omega)]) (fun g s hI => by
      refine ⟨s, ?_, hI⟩
      try dsimp only
      rw [L_X11_takeOff_r59_r55_10_s, if_pos (by omega)]) (f := N) (s := σ) (by omega) ⟨fr_rfl, fun k' _ => by rw [if_neg (Nat.not_lt_zero _)]⟩
  refine ⟨s1, ?_, h1, fun k hk => by rw [h2 k hk, if_pos hk]⟩
  unfold f_X11_takeOff_r59_r55
  rw [mw_id (by omega) (by omega)]
  try dsimp only at e
  rw [e]
  rfl
theorem X11_take60 {N d f m : Nat} {a : Int} {σ : mS} (hN : 1000 ≤ N) (hd : d ≤ 6) (hf : f < 64) (hm : m ≤ wd d) (ha : 0 < a ∧ a < 32003) (hw : nmW (σ 60 d) (wd d)) (hr : nmW (σ 57 (64 * d + f)) (wd d)) : ∃ σ', f_X11_takeOff_r60_r57 N d (64 * d + f) a (m : Int) σ = some σ' ∧ fr [60] σ σ' ∧ (∀ k, k < wd d → σ' 60 d k = if k < m then (σ 60 d k + (32003 - a) * σ 57 (64 * d + f) k) % 32003 else σ 60 d k) := by
  have h28 := (wd_6 d (List.mem_range.mpr (by omega))).1
  obtain ⟨s1, e, h1, h2⟩ := lp_0 (L := fun g k s => L_X11_takeOff_r60_r57_10 N g d (64 * d + f) (m : Int) (32003 - a) k s) (I := fun k s => fr [60] σ s ∧ ∀ k', k' < wd d → s 60 d k' = if k' < k then (σ 60 d k' + (32003 - a) * σ 57 (64 * d + f) k') % 32003 else σ 60 d k') (P := fun s => fr [60] σ s ∧ ∀ k', k' < wd d → s 60 d k' = if k' < m then (σ 60 d k' + (32003 - a) * σ 57 (64 * d + f) k') % 32003 else σ 60 d k') m (fun g k s hk hI => by
      obtain ⟨h1, h2⟩ := hI
      left
      have hkW : k < wd d := by omega
      have hrk := hr k hkW
      have hwk := hw k hkW
      have hcell : s 60 d k = σ 60 d k := by rw [h2 k hkW, if_neg (by omega)]
      have hm := ml_rg (show 0 ≤ 32003 - a ∧ 32003 - a < 32003 by omega) hrk
      try dsimp only
      rw [L_X11_takeOff_r60_r57_10_s, if_neg (by omega), d64 hf, gwd_wd, if_pos (by omega), tN, h1 57 _ _ (by decide), mw_s (by omega)]
      by_cases q : σ 57 (64 * d + f) k = 0
      · rw [if_pos q]
        refine ⟨s, rfl, h1, fun k' hk' => ?_⟩
        rw [h2 k' hk']
        by_cases e : k' = k
        · subst e
          rw [if_neg (by omega), if_pos (by omega), q]
          omega
        · by_cases q2 : k' < k
          · rw [if_pos q2, if_pos (by omega)]
          · rw [if_neg q2, if_neg (by omega)]
      · rw [if_neg q, if_pos (by omega), hcell, mw_id (z := (32003 - a) * σ 57 (64 * d + f) k) (by omega) (by omega), rem_md (by omega) (by omega)]
        refine ⟨_, rfl, fr_mup h1 (by decide), fun k' hk' => ?_⟩
        by_cases e : k' = k
        · subst e
          rw [mup_s, if_pos (by omega)]
        · rw [mup_k e, h2 k' hk']
          by_cases q2 : k' < k
          · rw [if_pos q2, if_pos (by omega)]
          · rw [if_neg q2, if_neg (by omega)]) (fun g s hI => by
      refine ⟨s, ?_, hI⟩
      try dsimp only
      rw [L_X11_takeOff_r60_r57_10_s, if_pos (by omega)]) (f := N) (s := σ) (by omega) ⟨fr_rfl, fun k' _ => by rw [if_neg (Nat.not_lt_zero _)]⟩
  refine ⟨s1, ?_, h1, h2⟩
  unfold f_X11_takeOff_r60_r57
  rw [mw_id (by omega) (by omega)]
  try dsimp only at e
  rw [e]
  rfl
/-- what never changes of the layers -/
def CLy (σ : mS) : Prop := ∀ d, d ≤ 6 → σ 47 d 0 = (d : Int) ∧ σ 47 d 1 = (wd d : Int) ∧ σ 47 d 2 = (gmo d : Int)
/-- layer d bears an elimination of m free V -/
def LE (σ : mS) (d m : Nat) (V : Nat → Nat → Int) : Prop := σ 47 d 7 = (m : Int) ∧ (∀ f, f < m → nmW (σ 55 (64 * d + f)) (wd d) ∧ nmW (σ 57 (64 * d + f)) (wd d) ∧ 0 ≤ σ 58 d f ∧ ∀ g, f < g → g < wd d → σ 57 (64 * d + f) g = 0) ∧ EL V m (wd d) (fun f k => σ 55 (64 * d + f) k) (fun f g => σ 57 (64 * d + f) g) (fun f => (σ 58 d f).toNat)
theorem em_take {w a r : Int} : em ((w + (32003 - a) * r) % 32003) (w - a * r) := by
  refine em_t (em_md _) ?_
  rw [Int.sub_mul]
  have : w + (32003 * r - a * r) = w - a * r + 32003 * r := by omega
  unfold em
  rw [this]
  omega
theorem X3_reduce_eq {N d m : Nat} {V : Nat → Nat → Int} {σ : mS} (hN : 1000 ≤ N) (hd : d ≤ 6) (hC : CLy σ) (hL : LE σ d m V) (hw : nmW (σ 59 d) (wd d)) (h0 : ∀ k, k < wd d → σ 60 d k = 0) : ∃ σ' a, f_X3_reduceWork N d σ = some σ' ∧ fr [59, 60] σ σ' ∧ nmW (σ' 59 d) (wd d) ∧ nmW (σ' 60 d) (wd d) ∧ Rd (fun f k => σ 55 (64 * d + f) k) (fun f => (σ 58 d f).toNat) m (wd d) (σ 59 d) (σ' 59 d) a ∧ (∀ g, g < m → em (σ' 60 d g) (-sm (fun f => a f * σ 57 (64 * d + f) g) m)) ∧ ∀ g, m ≤ g → g < wd d → σ' 60 d g = 0 := by
  have h28 := (wd_6 d (List.mem_range.mpr (by omega))).1
  obtain ⟨h7, hrow, hE⟩ := hL
  have hmW := EL_le hE
  obtain ⟨hA, hB, hC', hD, hI⟩ := hE
  obtain ⟨s1, e, h1, h2, h3, a, h4, h5, h6⟩ := lp_0 (L := fun g k s => L_X3_reduceWork_2 N g d k s) (I := fun j s => fr [59, 60] σ s ∧ nmW (s 59 d) (wd d) ∧ nmW (s 60 d) (wd d) ∧ ∃ a : Nat → Int, Rd (fun f k => σ 55 (64 * d + f) k) (fun f => (σ 58 d f).toNat) j (wd d) (σ 59 d) (s 59 d) a ∧ (∀ g, g < m → em (s 60 d g) (-sm (fun f => a f * σ 57 (64 * d + f) g) j)) ∧ ∀ g, m ≤ g → g < wd d → s 60 d g = 0)
    (P := fun s => fr [59, 60] σ s ∧ nmW (s 59 d) (wd d) ∧ nmW (s 60 d) (wd d) ∧ ∃ a : Nat → Int, Rd (fun f k => σ 55 (64 * d + f) k) (fun f => (σ 58 d f).toNat) m (wd d) (σ 59 d) (s 59 d) a ∧ (∀ g, g < m → em (s 60 d g) (-sm (fun f => a f * σ 57 (64 * d + f) g) m)) ∧ ∀ g, m ≤ g → g < wd d → s 60 d g = 0) m (fun fu j s hj hI => by
      obtain ⟨h1, h2, h3, a, h4, h5, h6⟩ := hI
      left
      obtain ⟨r55, r57, p58, -⟩ := hrow j hj
      have hpj := (hB j hj).1
      try dsimp only at hpj
      have h58 : s 58 d j = σ 58 d j := h1 58 _ _ (by decide)
      have hpf : ∀ f, f < j → (σ 58 d f).toNat < wd d ∧ em (σ 55 (64 * d + j) ((σ 58 d f).toNat)) 0 := fun f hf => ⟨(hB f (by omega)).1, hC' f j hf hj⟩
      have nxt : ∀ (z : Int) (w2 : Nat → Int), em z (s 59 d ((σ 58 d j).toNat)) → (∀ k, k < wd d → em (w2 k) (s 59 d k - z * σ 55 (64 * d + j) k)) → Rd (fun f k => σ 55 (64 * d + f) k) (fun f => (σ 58 d f).toNat) (j + 1) (wd d) (σ 59 d) w2 (fun f => if f = j then z else a f) := fun z w2 hz hw2 => by
        have h4' : Rd (fun f k => σ 55 (64 * d + f) k) (fun f => (σ 58 d f).toNat) j (wd d) (σ 59 d) (s 59 d) (fun f => if f = j then z else a f) := ⟨fun k hk => by
          have := h4.1 k hk
          rw [sm_cg (G := fun f => (if f = j then z else a f) * σ 55 (64 * d + f) k) j (fun f hf => by rw [if_neg (by omega)])] at this
          exact this, h4.2⟩
        exact Rd_s (hB j hj).2 hpj hpf h4' (by show em (if j = j then z else a j) _; rw [if_pos rfl]; exact hz) (fun k hk => by show em (w2 k) (s 59 d k - (if j = j then z else a j) * σ 55 (64 * d + j) k); rw [if_pos rfl]; exact hw2 k hk)
      have sma : ∀ (z : Int) (g : Nat), sm (fun f => (if f = j then z else a f) * σ 57 (64 * d + f) g) (j + 1) = sm (fun f => a f * σ 57 (64 * d + f) g) j + z * σ 57 (64 * d + j) g := fun z g => by
        rw [sm_s, if_pos rfl, sm_cg (G := fun f => a f * σ 57 (64 * d + f) g) j (fun f hf => by rw [if_neg (by omega)])]
      try dsimp only
      rw [L_X3_reduceWork_2_s, h1 47 _ _ (by decide), h7, if_neg (by omega), gwd_wd, tN, h58, if_pos (by omega), mw_s (by omega)]
      by_cases q : s 59 d ((σ 58 d j).toNat) = 0
      · rw [if_pos q]
        refine ⟨s, rfl, h1, h2, h3, fun f => if f = j then 0 else a f, nxt 0 _ (by rw [q]; exact em_r _) (fun k hk => by rw [Int.zero_mul, Int.sub_zero]; exact em_r _), fun g hg => ?_, h6⟩
        rw [sma, Int.zero_mul, Int.add_zero]
        exact h5 g hg
      · have hfac := h2 _ hpj
        rw [if_neg q, if_pos (by omega), h1 47 _ _ (by decide), (hC d hd).2.1]
        obtain ⟨s2, t1, t2, t3⟩ := X11_take59 (N := N) (d := d) (f := j) (a := s 59 d ((σ 58 d j).toNat)) (σ := s) hN hd (by omega) (by omega) h2 (fun k hk => by rw [h1 55 _ _ (by decide)]; exact r55 k hk)
        obtain ⟨s3, u1, u2, u3⟩ := X11_take60 (N := N) (d := d) (f := j) (m := m) (a := s 59 d ((σ 58 d j).toNat)) (σ := s2) hN hd (by omega) hmW (by omega) (fun k hk => by rw [t2 60 _ _ (by decide)]; exact h3 k hk) (fun k hk => by rw [t2 57 _ _ (by decide), h1 57 _ _ (by decide)]; exact r57 k hk)
        rw [t1, Option.bind_some, if_pos (by omega), t2 47 _ _ (by decide), h1 47 _ _ (by decide), h7, u1, Option.bind_some]
        have c59 : ∀ k, k < wd d → s3 59 d k = (s 59 d k + (32003 - s 59 d ((σ 58 d j).toNat)) * σ 55 (64 * d + j) k) % 32003 := fun k hk => by
          rw [u2 59 _ _ (by decide), t3 k hk, h1 55 _ _ (by decide)]
        have c60 : ∀ k, k < wd d → s3 60 d k = if k < m then (s 60 d k + (32003 - s 59 d ((σ 58 d j).toNat)) * σ 57 (64 * d + j) k) % 32003 else s 60 d k := fun k hk => by
          rw [u3 k hk, t2 60 _ _ (by decide), t2 57 _ _ (by decide), h1 57 _ _ (by decide)]
        refine ⟨s3, rfl, fr_trans h1 (fr_trans (fr_sub t2 (fun r hr => by simp at hr ⊢; omega)) (fr_sub u2 (fun r hr => by simp at hr ⊢; omega))), fun k hk => by rw [c59 k hk]; exact md_lt _, fun k hk => ?_, fun f => if f = j then s 59 d ((σ 58 d j).toNat) else a f, nxt _ _ (em_r _) (fun k hk => by rw [c59 k hk]; exact em_take), fun g hg => ?_, fun g hg1 hg2 => ?_⟩
        · rw [c60 k hk]
          split
          · exact md_lt _
          · exact h3 k hk
        · rw [sma, c60 g (by omega), if_pos hg]
          refine em_t em_take ?_
          have := em_sub (h5 g hg) (em_r (s 59 d ((σ 58 d j).toNat) * σ 57 (64 * d + j) g))
          refine em_t this ?_
          have e2 : -sm (fun f => a f * σ 57 (64 * d + f) g) j - s 59 d ((σ 58 d j).toNat) * σ 57 (64 * d + j) g = -(sm (fun f => a f * σ 57 (64 * d + f) g) j + s 59 d ((σ 58 d j).toNat) * σ 57 (64 * d + j) g) := by omega
          rw [e2]
          exact em_r _
        · rw [c60 g hg2, if_neg (by omega)]
          exact h6 g hg1 hg2) (fun fu s hI => by
      refine ⟨s, ?_, hI⟩
      try dsimp only
      rw [L_X3_reduceWork_2_s, hI.1 47 _ _ (by decide), h7, if_pos (by omega)]) (f := N) (s := σ) (by omega) ⟨fr_rfl, hw, fun k hk => by rw [h0 k hk]; omega, fun _ => 0, Rd_0 _ _ _ _ _, fun g hg => by rw [h0 g (by omega)]; exact em_r _, fun g _ hg => h0 g hg⟩
  refine ⟨s1, a, ?_, h1, h2, h3, h4, h5, h6⟩
  unfold f_X3_reduceWork
  try dsimp only at e
  rw [e]
  rfl
theorem X3_first_eq {N d : Nat} {σ : mS} (hN : 1000 ≤ N) (hd : d ≤ 6) (hC : CLy σ) : ∃ v, f_X3_firstOfWork N d σ = some (v, σ) ∧ ((v = -1 ∧ ∀ k, k < wd d → σ 59 d k = 0) ∨ ∃ q : Nat, q < wd d ∧ v = (q : Int) ∧ σ 59 d q ≠ 0) := by
  have h28 := (wd_6 d (List.mem_range.mpr (by omega))).1
  obtain ⟨o, e, h⟩ := lp_0 (S := mS) (L := fun g k s => L_X3_firstOfWork_2 N g d k s) (I := fun k s => s = σ ∧ ∀ k', k' < k → σ 59 d k' = 0) (P := fun o => (o = .inr σ ∧ ∀ k, k < wd d → σ 59 d k = 0) ∨ ∃ q : Nat, q < wd d ∧ o = .inl ((q : Int), σ) ∧ σ 59 d q ≠ 0) (wd d) (fun fu k s hk hI => by
      obtain ⟨h1, h2⟩ := hI
      subst h1
      try dsimp only
      rw [L_X3_firstOfWork_2_s, (hC d hd).2.1, if_neg (by omega), gwd_wd, if_pos (by omega), tN, mw_s (by omega)]
      by_cases q : s 59 d k = 0
      · rw [if_pos q]
        refine Or.inl ⟨_, rfl, rfl, fun k' hk' => ?_⟩
        by_cases e : k' = k
        · subst e; exact q
        · exact h2 k' (by omega)
      · rw [if_neg q]
        exact Or.inr ⟨_, rfl, Or.inr ⟨k, hk, rfl, q⟩⟩) (fun fu s hI => by
      obtain ⟨h1, h2⟩ := hI
      subst h1
      try dsimp only
      rw [L_X3_firstOfWork_2_s, (hC d hd).2.1, if_pos (by omega)]
      exact ⟨_, rfl, Or.inl ⟨rfl, h2⟩⟩) (f := N) (s := σ) (by omega) ⟨rfl, fun k' h => absurd h (Nat.not_lt_zero _)⟩
  unfold f_X3_firstOfWork
  try dsimp only at e
  rw [e, Option.bind_some]
  rcases h with ⟨rfl, h⟩ | ⟨q, q1, rfl, q2⟩
  · exact ⟨-1, rfl, Or.inl ⟨rfl, h⟩⟩
  · exact ⟨(q : Int), rfl, Or.inr ⟨q, q1, rfl, q2⟩⟩
