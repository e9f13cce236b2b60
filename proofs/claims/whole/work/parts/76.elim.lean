/-! elimination by lists is an elimination -/
def vok (W : Nat) (w : List Nat) : Prop := w.length = W ∧ ∀ k, w.getD k 0 < 32003
def wv (w : List Nat) (k : Nat) : Int := (w.getD k 0 : Int)
def rr (rows : List (List Nat)) (f k : Nat) : Int := ((rows.getD f []).tail.getD k 0 : Int)
def rp (rows : List (List Nat)) (f : Nat) : Nat := (rows.getD f []).headD 0
def LR (V : Nat → Nat → Int) (m W : Nat) (rows : List (List Nat)) : Prop := rows.length = m ∧ (∀ f, f < m → vok W (rows.getD f []).tail) ∧ ∃ x, EL V m W (rr rows) x (rp rows)
theorem axp_ok : ∀ (v : Nat) (w r : List Nat), w.length = r.length → (axp v w r).length = w.length ∧ ∀ k, k < w.length → (axp v w r).getD k 0 = (w.getD k 0 + (32003 - v) * r.getD k 0) % 32003
  | _, [], [], _ => ⟨rfl, fun k h => absurd h (Nat.not_lt_zero _)⟩
  | _, [], _ :: _, h => absurd h (by simp)
  | _, _ :: _, [], h => absurd h (by simp)
  | v, a :: w, b :: r, h => by
    obtain ⟨h1, h2⟩ := axp_ok v w r (by simpa using h)
    refine ⟨by show (axp v w r).length + 1 = w.length + 1; rw [h1], fun k hk => ?_⟩
    cases k with
    | zero => rfl
    | succ k => exact h2 k (by simpa using hk)
theorem getD_out {w : List Nat} {k : Nat} (h : w.length ≤ k) : w.getD k 0 = 0 := by
  rw [List.getD_eq_getElem?_getD, List.getElem?_eq_none h]
  rfl
theorem Rd_cg {r : Nat → Nat → Int} {pv : Nat → Nat} {m W : Nat} {w w' a a' : Nat → Int} (h : Rd r pv m W w w' a) (ha : ∀ f, f < m → a f = a' f) : Rd r pv m W w w' a' := ⟨fun k hk => by
  have := h.1 k hk
  rw [sm_cg (G := fun f => a' f * r f k) m (fun f hf => by rw [ha f hf])] at this
  exact this, h.2⟩
theorem beq_0 {v : Nat} : (Nat.beq v 0 = true ∧ v = 0) ∨ (Nat.beq v 0 = false ∧ v ≠ 0) := by
  cases v with
  | zero => exact Or.inl ⟨rfl, rfl⟩
  | succ v => exact Or.inr ⟨rfl, by omega⟩
theorem red_ok {V : Nat → Nat → Int} {m W : Nat} {rows : List (List Nat)} (h : LR V m W rows) {w : Nat → Int} : ∀ (k j : Nat) (w1 : List Nat) (a : Nat → Int), j + k = m → vok W w1 → Rd (rr rows) (rp rows) j W w (wv w1) a → ∃ a', vok W (red (rows.drop j) w1) ∧ Rd (rr rows) (rp rows) m W w (wv (red (rows.drop j) w1)) a' := by
  intro k
  induction k with
  | zero =>
    intro j w1 a hj hv hR
    have : j = m := by omega
    subst this
    rw [show rows.drop j = [] from List.drop_eq_nil_of_le (by rw [h.1]; exact Nat.le_refl _)]
    exact ⟨a, hv, hR⟩
  | succ k ih =>
    intro j w1 a hj hv hR
    have hjm : j < m := by omega
    have hjl : j < rows.length := by rw [h.1]; exact hjm
    obtain ⟨hl, hrow, x, hE⟩ := h
    rw [List.drop_eq_getElem_cons hjl]
    have hg : rows[j] = rows.getD j [] := by rw [List.getD_eq_getElem?_getD, List.getElem?_eq_getElem hjl]; rfl
    rw [hg]
    unfold red
    rw [frc_eq]
    have hpj := hE.2.1 j hjm
    have hpf : ∀ f, f < j → rp rows f < W ∧ em (rr rows j (rp rows f)) 0 := fun f hf => ⟨(hE.2.1 f (by omega)).1, hE.2.2.1 f j hf hjm⟩
    generalize hvv : w1.getD ((rows.getD j []).headD 0) 0 = v
    have hvlt : v < 32003 := by rw [← hvv]; exact hv.2 _
    have hR' : Rd (rr rows) (rp rows) j W w (wv w1) (fun f => if f = j then (v : Int) else a f) := Rd_cg hR (fun f hf => by show a f = if f = j then (v : Int) else a f; rw [if_neg (by omega)])
    have haj : em ((fun f => if f = j then (v : Int) else a f) j) (wv w1 (rp rows j)) := by
      show em (if j = j then (v : Int) else a j) _
      rw [if_pos rfl]
      unfold wv rp
      rw [hvv]
      exact em_r _
    rcases beq_0 (v := v) with ⟨hb, h0⟩ | ⟨hb, h0⟩
    · rw [hb]
      refine ih (j + 1) w1 _ (by omega) hv (Rd_s hpj.2 hpj.1 hpf hR' haj (fun k hk => ?_))
      show em (wv w1 k) (wv w1 k - (if j = j then (v : Int) else a j) * rr rows j k)
      rw [if_pos rfl, h0]
      rw [show ((0 : Nat) : Int) * rr rows j k = 0 from Int.zero_mul _, Int.sub_zero]
      exact em_r _
    · rw [hb]
      show ∃ a', vok W (fcL (axp v w1 (rows.getD j []).tail) fun w' => red (rows.drop (j + 1)) w') ∧ Rd _ _ _ _ _ (wv (fcL (axp v w1 (rows.getD j []).tail) fun w' => red (rows.drop (j + 1)) w')) a'
      rw [fcL_eq]
      obtain ⟨t1, t2⟩ := hrow j hjm
      obtain ⟨p1, p2⟩ := axp_ok v w1 (rows.getD j []).tail (by rw [hv.1, t1])
      refine ih (j + 1) _ _ (by omega) ⟨by rw [p1, hv.1], fun k => ?_⟩ (Rd_s hpj.2 hpj.1 hpf hR' haj (fun k hk => ?_))
      · by_cases q : k < W
        · rw [p2 k (by rw [hv.1]; exact q)]; exact Nat.mod_lt _ (by decide)
        · rw [getD_out (by rw [p1, hv.1]; omega)]; decide
      · show em (wv (axp v w1 (rows.getD j []).tail) k) (wv w1 k - (if j = j then (v : Int) else a j) * rr rows j k)
        rw [if_pos rfl]
        unfold wv rr
        rw [p2 k (by rw [hv.1]; exact hk)]
        generalize w1.getD k 0 = A
        generalize (rows.getD j []).tail.getD k 0 = B
        unfold em
        rw [show (((A + (32003 - v) * B) % 32003 : Nat) : Int) = ((A : Int) + (32003 - (v : Int)) * (B : Int)) % 32003 from by
          rw [Int.natCast_emod, Int.natCast_add, Int.natCast_mul, Int.natCast_sub (by omega)]; rfl, Int.emod_emod, Int.sub_mul, show (A : Int) + (32003 * (B : Int) - (v : Int) * (B : Int)) = (A : Int) - (v : Int) * (B : Int) + 32003 * (B : Int) from by omega, Int.add_mul_emod_self_left]
