/-! SERIES: pure -/
def psF (m : Nat) (s : Int) (r : Nat → Int) : Nat → Nat → Int
  | 0, _ => 0
  | f + 1, k => if k < m then r k else r k + s * psF m s r f (k - m)
theorem psF_s (m : Nat) (s : Int) (r : Nat → Int) (f k : Nat) : psF m s r (f + 1) k = if k < m then r k else r k + s * psF m s r f (k - m) := rfl
/-- by 1 - s t to the m -/
def ps (m : Nat) (s : Int) (r : Nat → Int) (k : Nat) : Int := psF m s r (k + 1) k
theorem psF_f {m : Nat} (hm : 0 < m) (s : Int) (r : Nat → Int) : ∀ (f f' k : Nat), k < f → k < f' → psF m s r f k = psF m s r f' k := by
  intro f
  induction f with
  | zero => intro f' k h; exact absurd h (Nat.not_lt_zero _)
  | succ f ih =>
    intro f' k h1 h2
    obtain ⟨f', rfl⟩ : ∃ f2, f' = f2 + 1 := ⟨f' - 1, by omega⟩
    rw [psF_s, psF_s]
    by_cases q : k < m
    · rw [if_pos q, if_pos q]
    · rw [if_neg q, if_neg q, ih f' (k - m) (by omega) (by omega)]
theorem ps_lt {m : Nat} {s : Int} {r : Nat → Int} {k : Nat} (h : k < m) : ps m s r k = r k := by
  unfold ps
  rw [psF_s, if_pos h]
theorem ps_ge {m : Nat} (hm : 0 < m) {s : Int} {r : Nat → Int} {k : Nat} (h : m ≤ k) : ps m s r k = r k + s * ps m s r (k - m) := by
  unfold ps
  rw [psF_s, if_neg (by omega), psF_f hm s r k (k - m + 1) (k - m) (by omega) (by omega)]
theorem ps_swap {m m' : Nat} (hm : 0 < m) (hm' : 0 < m') (s s' : Int) (r : Nat → Int) : ∀ k, ps m s (ps m' s' r) k = ps m' s' (ps m s r) k := by
  intro k
  induction k using Nat.strongRecOn with
  | ind k ih =>
    by_cases h1 : k < m
    · rw [ps_lt h1]
      by_cases h2 : k < m'
      · rw [ps_lt h2, ps_lt h2, ps_lt h1]
      · have a : ps m' s' r k = r k + s' * ps m' s' r (k - m') := ps_ge hm' (by omega)
        have b : ps m' s' (ps m s r) k = ps m s r k + s' * ps m' s' (ps m s r) (k - m') := ps_ge hm' (by omega)
        have c : ps m s r k = r k := ps_lt h1
        have i := ih (k - m') (by omega)
        have d : ps m s (ps m' s' r) (k - m') = ps m' s' r (k - m') := ps_lt (by omega)
        rw [a, b, c, ← i, d]
    · by_cases h2 : k < m'
      · have a : ps m s (ps m' s' r) k = ps m' s' r k + s * ps m s (ps m' s' r) (k - m) := ps_ge hm (by omega)
        have b : ps m' s' r k = r k := ps_lt h2
        have c : ps m' s' (ps m s r) k = ps m s r k := ps_lt h2
        have d : ps m s r k = r k + s * ps m s r (k - m) := ps_ge hm (by omega)
        have i := ih (k - m) (by omega)
        have e : ps m' s' (ps m s r) (k - m) = ps m s r (k - m) := ps_lt (by omega)
        rw [a, b, c, d, i, e]
      · have a1 : ps m s (ps m' s' r) k = ps m' s' r k + s * ps m s (ps m' s' r) (k - m) := ps_ge hm (by omega)
        have a2 : ps m' s' r k = r k + s' * ps m' s' r (k - m') := ps_ge hm' (by omega)
        have b1 : ps m' s' (ps m s r) k = ps m s r k + s' * ps m' s' (ps m s r) (k - m') := ps_ge hm' (by omega)
        have b2 : ps m s r k = r k + s * ps m s r (k - m) := ps_ge hm (by omega)
        have i1 := ih (k - m) (by omega)
        have i2 := ih (k - m') (by omega)
        by_cases h3 : k < m + m'
        · have c1 : ps m s (ps m' s' r) (k - m') = ps m' s' r (k - m') := ps_lt (by omega)
          have c2 : ps m' s' (ps m s r) (k - m) = ps m s r (k - m) := ps_lt (by omega)
          rw [a1, a2, b1, b2, i1, c2, ← i2, c1]
          omega
        · have c1 : ps m s (ps m' s' r) (k - m') = ps m' s' r (k - m') + s * ps m s (ps m' s' r) (k - m' - m) := ps_ge hm (by omega)
          have c2 : ps m' s' (ps m s r) (k - m) = ps m s r (k - m) + s' * ps m' s' (ps m s r) (k - m - m') := ps_ge hm' (by omega)
          have i3 := ih (k - m - m') (by omega)
          rw [a1, a2, b1, b2, ← i2, i1, c1, c2, show k - m' - m = k - m - m' from by omega, i3]
          generalize ps m' s' (ps m s r) (k - m - m') = z
          generalize ps m' s' r (k - m') = u
          generalize ps m s r (k - m) = v
          rw [Int.mul_add, Int.mul_add]
          have : s * (s' * z) = s' * (s * z) := by rw [← Int.mul_assoc, Int.mul_comm s s', Int.mul_assoc]
          omega
def r0S (k : Nat) : Int := if k = 0 then 1 else 0
def roL (l : List (Nat × Int)) (r : Nat → Int) : Nat → Int := l.foldl (fun r x => ps x.1 x.2 r) r
theorem ps_cg {m : Nat} {s : Int} {r r' : Nat → Int} (h : ∀ k, r k = r' k) (k : Nat) : ps m s r k = ps m s r' k := by
  have : r = r' := funext h
  rw [this]
theorem roL_perm {l l' : List (Nat × Int)} (h : l.Perm l') : (∀ x, x ∈ l → 0 < x.1) → ∀ r, roL l r = roL l' r := by
  induction h with
  | nil => intro _ r; rfl
  | cons x _ ih => intro hp r; exact ih (fun y hy => hp y (by simp [hy])) _
  | swap x y l =>
    intro hp r
    show roL l (ps x.1 x.2 (ps y.1 y.2 r)) = roL l (ps y.1 y.2 (ps x.1 x.2 r))
    have : ps x.1 x.2 (ps y.1 y.2 r) = ps y.1 y.2 (ps x.1 x.2 r) := funext (ps_swap (hp x (by simp)) (hp y (by simp)) x.2 y.2 r)
    rw [this]
  | trans h1 h2 ih1 ih2 =>
    intro hp r
    rw [ih1 hp r, ih2 (fun x hx => hp x (h1.mem_iff.mpr hx)) r]
/-- what stands at t to the d in 1 by D -/
def oD (t : tn) (d : Nat) : Int := roL (rgl t) r0S d
theorem rgl_cj : ∀ t ∈ allT, ∀ f ∈ allT, (rgl (tco (tco f t) (tiv f))).Perm (rgl t) := by decide +kernel
theorem oD_cj {t f : tn} (ht : tok t) (hf : tok f) (d : Nat) : oD (tco (tco f t) (tiv f)) d = oD t d := by
  unfold oD
  rw [roL_perm (rgl_cj t (tok_mem.mp ht) f (tok_mem.mp hf)) (fun x hx => (rgl_rg _ (tok_mem.mp (tco_ok (tco_ok hf ht) (tiv_ok hf))) x hx).1) r0S]
theorem ps_bd {m : Nat} (hm : 0 < m) {s : Int} (hs : s = 1 ∨ s = -1) {r : Nat → Int} {B : Int} (h : ∀ k, k ≤ 200 → -B ≤ r k ∧ r k ≤ B) : ∀ k, k ≤ 200 → -(B * (k + 1)) ≤ ps m s r k ∧ ps m s r k ≤ B * (k + 1) := by
  intro k
  induction k using Nat.strongRecOn with
  | ind k ih =>
    intro hk
    have hb := h k hk
    have hB : 0 ≤ B := by omega
    have e1 : B * ((k : Int) + 1) = B * k + B := by rw [Int.mul_add, Int.mul_one]
    have hBk : 0 ≤ B * (k : Int) := Int.mul_nonneg hB (by omega)
    by_cases q : k < m
    · rw [ps_lt q, e1]; omega
    · rw [ps_ge hm (by omega)]
      have hi := ih (k - m) (by omega) (by omega)
      have e2 : B * (((k - m : Nat) : Int) + 1) ≤ B * k := Int.mul_le_mul_of_nonneg_left (by omega) hB
      rw [e1]
      rcases hs with rfl | rfl <;> omega
theorem ps_bd2 {m : Nat} (hm : 0 < m) {s : Int} (hs : s = 1 ∨ s = -1) {r : Nat → Int} {B : Int} (h : ∀ k, k ≤ 200 → -B ≤ r k ∧ r k ≤ B) : ∀ k, k ≤ 200 → -(B * 201) ≤ ps m s r k ∧ ps m s r k ≤ B * 201 := by
  intro k hk
  have h1 := ps_bd hm hs h k hk
  have hB : 0 ≤ B := by have := h 0 (by omega); omega
  have : B * ((k : Int) + 1) ≤ B * 201 := Int.mul_le_mul_of_nonneg_left (by omega) hB
  omega
def p201 : Nat → Int
  | 0 => 1
  | n + 1 => p201 n * 201
theorem roL_bd : ∀ (l : List (Nat × Int)) (j : Nat) (r : Nat → Int), (∀ x, x ∈ l → 0 < x.1 ∧ (x.2 = 1 ∨ x.2 = -1)) → (∀ k, k ≤ 200 → -p201 j ≤ r k ∧ r k ≤ p201 j) → ∀ k, k ≤ 200 → -p201 (j + l.length) ≤ roL l r k ∧ roL l r k ≤ p201 (j + l.length)
  | [], j, r, _, h => h
  | x :: l, j, r, hx, h => by
    have hxx := hx x (by simp)
    have := roL_bd l (j + 1) (ps x.1 x.2 r) (fun y hy => hx y (by simp [hy])) (ps_bd2 hxx.1 hxx.2 h)
    rw [show j + (x :: l).length = j + 1 + l.length from by simp; omega]
    exact this
theorem r0S_bd : ∀ k, k ≤ 200 → -p201 0 ≤ r0S k ∧ r0S k ≤ p201 0 := fun k _ => by
  unfold r0S
  show -1 ≤ _ ∧ _ ≤ 1
  split <;> omega
theorem p201_le {j : Nat} (h : j ≤ 3) : p201 j ≤ 8120601 := by
  have : j = 0 ∨ j = 1 ∨ j = 2 ∨ j = 3 := by omega
  rcases this with rfl | rfl | rfl | rfl <;> decide
theorem oD_bd {t : tn} (ht : tok t) {d : Nat} (hd : d ≤ 200) : -8120601 ≤ oD t d ∧ oD t d ≤ 8120601 := by
  have h := roL_bd (rgl t) 0 r0S (fun x hx => ⟨(rgl_rg t (tok_mem.mp ht) x hx).1, (rgl_rg t (tok_mem.mp ht) x hx).2.2⟩) r0S_bd d hd
  have := p201_le (j := 0 + (rgl t).length) (by have := (rgl_ok t (tok_mem.mp ht)).1; omega)
  unfold oD
  omega
-- classes: each element is of one
theorem clo_all {E : Nat → tn} {n : Nat} (H : GP E n) : ∀ j, j ≤ n → ∀ g, g < j → (clo E n j).1 g ≠ -1 := by
  intro j
  induction j with
  | zero => intro _ g h; exact absurd h (Nat.not_lt_zero _)
  | succ j ih =>
    intro hj g hg
    rw [clo_s]
    by_cases e : (clo E n j).1 j = -1
    · rw [if_pos e]
      try dsimp only
      by_cases hb : cjb E n j g = true
      · rw [if_pos hb]; omega
      · rw [if_neg hb]
        by_cases eg : g = j
        · subst eg
          exact absurd (cjb_ok.mpr ⟨0, H.1, gcj_0 H (by omega)⟩) hb
        · exact ih (by omega) g (by omega)
    · rw [if_neg e]
      by_cases eg : g = j
      · subst eg; exact e
      · exact ih (by omega) g (by omega)
def cln (E : Nat → tn) (n g : Nat) : Nat := ((clo E n n).1 g).toNat
theorem cln_ok {E : Nat → tn} {n g : Nat} (H : GP E n) (hg : g < n) : (clo E n n).1 g = (cln E n g : Int) ∧ cln E n g < (clo E n n).2 := by
  have h1 := clo_all H n (Nat.le_refl _) g hg
  unfold cln
  rcases clo_rg (E := E) (n := n) n g with h | h <;> omega
/-- sums by classes -/
theorem cls_sum {E : Nat → tn} {n c l : Nat} {F : Nat → Int} (H : GP E n) (hl : l < n) (hlc : ∀ k, k < n → ((clo E n n).1 k = (c : Int) ↔ cjb E n l k = true)) (hF : ∀ f, f < n → F (gcj E n f l) = F l) : sm (fun g => if cln E n g < c + 1 then F g else 0) n = sm (fun g => if cln E n g < c then F g else 0) n + (ct (cjb E n l) n : Int) * F l := by
  rw [← sm_ct, ← sm_add]
  refine sm_cg n (fun g hg => ?_)
  have h1 := (cln_ok H hg).1
  have h2 := hlc g hg
  by_cases e : cln E n g = c
  · have hb := h2.mp (by rw [h1, e])
    obtain ⟨f, f1, f2⟩ := cjb_ok.mp hb
    rw [if_pos (by omega), if_neg (by omega), if_pos hb, Int.zero_add, ← f2, hF f f1]
  · have hb : ¬ cjb E n l g = true := fun z => e (by have := h2.mpr z; omega)
    rw [if_neg hb, Int.add_zero]
    by_cases q : cln E n g < c
    · rw [if_pos (by omega), if_pos q]
    · rw [if_neg (by omega), if_neg q]
theorem o_div_gen {a b : Int} (ha : -1000000000 ≤ a) (ha2 : a ≤ 1000000000) (hb : 0 < b) (hb2 : b < 2147483648) : o_div a b = a.tdiv b := by
  unfold o_div
  have h1 : (Int32.ofInt a).toInt = a := Int32.toInt_ofInt_of_le (by omega) (by omega)
  have h2 : (Int32.ofInt b).toInt = b := Int32.toInt_ofInt_of_le (by omega) (by omega)
  rw [Int32.toInt_div, h1, h2]
  have h3 := Int.natAbs_tdiv a b
  have h4 : (a.tdiv b).natAbs ≤ a.natAbs := by rw [h3]; exact Nat.div_le_self _ _
  exact Int.bmod_eq_of_le (by omega) (by omega)
theorem o_ldiv_gen {a b : Int} (ha : -1000000000 ≤ a) (ha2 : a ≤ 1000000000) (hb : 0 < b) (hb2 : b < 2147483648) : o_ldiv a b = a.tdiv b ∧ mw (a.tdiv b) = a.tdiv b := by
  unfold o_ldiv
  have h1 : (Int64.ofInt a).toInt = a := Int64.toInt_ofInt_of_le (by omega) (by omega)
  have h2 : (Int64.ofInt b).toInt = b := Int64.toInt_ofInt_of_le (by omega) (by omega)
  rw [Int64.toInt_div, h1, h2]
  have h3 := Int.natAbs_tdiv a b
  have h4 : (a.tdiv b).natAbs ≤ a.natAbs := by rw [h3]; exact Nat.div_le_self _ _
  exact ⟨Int.bmod_eq_of_le (by omega) (by omega), mw_id (by omega) (by omega)⟩
