/-! SIGNS: pure -/
def alb (p : Nat → Bool) : Nat → Bool
  | 0 => true
  | n + 1 => alb p n && p n
theorem alb_s (p : Nat → Bool) (n : Nat) : alb p (n + 1) = (alb p n && p n) := rfl
theorem alb_ok {p : Nat → Bool} : ∀ {n : Nat}, alb p n = true → ∀ k, k < n → p k = true
  | 0, _, k, hk => absurd hk (Nat.not_lt_zero _)
  | n + 1, h, k, hk => by
    rw [alb_s, Bool.and_eq_true] at h
    by_cases e : k = n
    · subst e; exact h.2
    · exact alb_ok h.1 k (by omega)
theorem alb_of {p : Nat → Bool} : ∀ {n : Nat}, (∀ k, k < n → p k = true) → alb p n = true
  | 0, _ => rfl
  | n + 1, h => by rw [alb_s, alb_of (fun k hk => h k (by omega)), h n (by omega)]; rfl
theorem alb_no {p : Nat → Bool} {k : Nat} (h : p k = false) : ∀ {n : Nat}, k < n → alb p n = false
  | 0, q => absurd q (Nat.not_lt_zero _)
  | n + 1, q => by
    rw [alb_s]
    by_cases e : k = n
    · subst e; rw [h, Bool.and_false]
    · rw [alb_no h (by omega), Bool.false_and]
theorem alb_cg {p q : Nat → Bool} : ∀ n, (∀ k, k < n → p k = q k) → alb p n = alb q n
  | 0, _ => rfl
  | n + 1, h => by rw [alb_s, alb_s, h n (by omega), alb_cg n (fun k hk => h k (by omega))]
/-- what the elements are given, if the turns are given v -/
def rwF (l : List be) (v : Nat → Int) : Nat → Nat → Int
  | 0, _ => 1
  | f + 1, g => if g = 0 then 1 else rwF l v f (bF l g) * v (bB l g)
def rwv (l : List be) (v : Nat → Int) (g : Nat) : Int := rwF l v g g
theorem rwF_s (l : List be) (v : Nat → Int) (f g : Nat) : rwF l v (f + 1) g = if g = 0 then 1 else rwF l v f (bF l g) * v (bB l g) := rfl
theorem rwF_eq {M : Nat → tn} {m : Nat} {l : List be} (hg : Gn M m l) (v : Nat → Int) : ∀ (f f' g : Nat), g < l.length → g ≤ f → g ≤ f' → rwF l v f g = rwF l v f' g := by
  intro f
  induction f with
  | zero =>
    intro f' g _ h1 h2
    have : g = 0 := by omega
    subst this
    cases f' with
    | zero => rfl
    | succ f' => rw [rwF_s, if_pos rfl]; rfl
  | succ f ih =>
    intro f' g hl h1 h2
    by_cases e : g = 0
    · subst e
      cases f' with
      | zero => rw [rwF_s, if_pos rfl]; rfl
      | succ f' => rw [rwF_s, rwF_s, if_pos rfl, if_pos rfl]
    · obtain ⟨f', rfl⟩ : ∃ f2, f' = f2 + 1 := ⟨f' - 1, by omega⟩
      obtain ⟨q1, -, -⟩ := hg g (by omega) hl
      rw [rwF_s, rwF_s, if_neg e, if_neg e, ih f' (bF l g) (by omega) (by omega) (by omega)]
theorem rwv_0 (l : List be) (v : Nat → Int) : rwv l v 0 = 1 := rfl
theorem rwv_s {M : Nat → tn} {m : Nat} {l : List be} (hg : Gn M m l) (v : Nat → Int) {g : Nat} (h0 : 0 < g) (hl : g < l.length) : rwv l v g = rwv l v (bF l g) * v (bB l g) := by
  unfold rwv
  obtain ⟨q1, -, -⟩ := hg g h0 hl
  obtain ⟨f, rfl⟩ : ∃ f, g = f + 1 := ⟨g - 1, by omega⟩
  rw [rwF_s, if_neg (by omega), rwF_eq hg v f (bF l (f + 1)) (bF l (f + 1)) (by omega) (by omega) (Nat.le_refl _)]
def pmv (v : Nat → Int) (m : Nat) : Prop := ∀ t, t < m → v t = 1 ∨ v t = -1
theorem rwv_pm {M : Nat → tn} {m : Nat} {l : List be} (hg : Gn M m l) {v : Nat → Int} (hv : pmv v m) : ∀ g, g < l.length → rwv l v g = 1 ∨ rwv l v g = -1 := by
  intro g
  induction g using Nat.strongRecOn with
  | ind g ih =>
    intro hl
    by_cases e : g = 0
    · subst e; exact Or.inl rfl
    · obtain ⟨q1, q2, -⟩ := hg g (by omega) hl
      rw [rwv_s hg v (by omega) hl]
      rcases ih _ q1 (by omega) with a | a <;> rcases hv _ q2 with b | b <;> rw [a, b] <;> decide
/-- the number of the turn among the elements -/
def mel (M : Nat → tn) (l : List be) (t : Nat) : Nat := gix (bE l) l.length (M t)
def vlb (M : Nat → tn) (m : Nat) (l : List be) (v : Nat → Int) : Bool := alb (fun t => alb (fun g => decide (rwv l v (gm (bE l) l.length g (mel M l t)) = rwv l v g * v t)) l.length) m
/-- the turns are elements -/
def Hm (M : Nat → tn) (m : Nat) (l : List be) : Prop := ∀ t, t < m → mel M l t < l.length ∧ bE l (mel M l t) = M t
theorem Hm_bfs {M : Nat → tn} {m : Nat} (hM : ∀ t, t < m → tok (M t)) : Hm M m (bfs M m) := by
  intro t ht
  obtain ⟨hi, hc⟩ := bfs_ok hM
  obtain ⟨k, hk, ek⟩ := hc 0 hi.1 t ht
  rw [hi.2.1, tco_l] at ek
  unfold mel
  rw [← ek, gix_eq (GP_bfs hM) hk]
  exact ⟨hk, rfl⟩
theorem vlb_ok {M : Nat → tn} {m : Nat} {l : List be} {v : Nat → Int} (h : vlb M m l v = true) {t g : Nat} (ht : t < m) (hg : g < l.length) : rwv l v (gm (bE l) l.length g (mel M l t)) = rwv l v g * v t := by
  have := alb_ok (alb_ok h t ht) g hg
  simpa using this
theorem vlb_el {M : Nat → tn} {m : Nat} {l : List be} {v : Nat → Int} (hG : GP (bE l) l.length) (hm : Hm M m l) (h : vlb M m l v = true) {t : Nat} (ht : t < m) : rwv l v (mel M l t) = v t := by
  have := vlb_ok h ht hG.1
  rw [gm_l hG (hm t ht).1, rwv_0, Int.one_mul] at this
  exact this
/-- a sign gives products products -/
theorem vlb_mul {M : Nat → tn} {m : Nat} {l : List be} {v : Nat → Int} (hG : GP (bE l) l.length) (hn : Gn M m l) (hm : Hm M m l) (h : vlb M m l v = true) {g : Nat} (hg : g < l.length) : ∀ k, k < l.length → rwv l v (gm (bE l) l.length g k) = rwv l v g * rwv l v k := by
  intro k
  induction k using Nat.strongRecOn with
  | ind k ih =>
    intro hk
    by_cases e : k = 0
    · subst e; rw [gm_r hG hg, rwv_0, Int.mul_one]
    · obtain ⟨q1, q2, q3⟩ := hn k (by omega) hk
      have hF : bF l k < l.length := by omega
      obtain ⟨t1, t2⟩ := hm _ q2
      have e1 : gm (bE l) l.length (bF l k) (mel M l (bB l k)) = k := gm_eq hG hF t1 hk (by rw [q3, t2])
      have e2 : gm (bE l) l.length g k = gm (bE l) l.length (gm (bE l) l.length g (bF l k)) (mel M l (bB l k)) := by rw [gm_as hG hg hF t1, e1]
      rw [e2, vlb_ok h q2 (gm_ok hG hg hF).1, ih _ q1 hF, rwv_s hn v (by omega) hk, Int.mul_assoc]
theorem bOut_ext {M : Nat → tn} {m : Nat} (hM : ∀ t, t < m → tok (M t)) : ∀ (f g : Nat) (l : List be), Bi l → l.length ≤ (bOut M m f g l).length ∧ ∀ k, k < l.length → bE (bOut M m f g l) k = bE l k := by
  intro f
  induction f with
  | zero => intro g l _; exact ⟨Nat.le_refl _, fun _ _ => rfl⟩
  | succ f ih =>
    intro g l hi
    rw [bOut_s]
    by_cases hg : g < l.length
    · rw [if_pos hg]
      obtain ⟨r1, r2, r3, -⟩ := bIn_ext hM m 0 l (by omega) hi hg
      obtain ⟨q1, q2⟩ := ih (g + 1) _ r1
      exact ⟨Nat.le_trans r2 q1, fun k hk => (q2 k (Nat.lt_of_lt_of_le hk r2)).trans (r3 k hk)⟩
    · rw [if_neg hg]; exact ⟨Nat.le_refl _, fun _ _ => rfl⟩
theorem bIn_first {M : Nat → tn} {m : Nat} (hM : ∀ t, t < m → tok (M t)) : ∀ (j t : Nat) (l : List be), t + j = m → Bi l → (∀ g, g < l.length → bE l g = tid ∨ ∃ t', t' < t ∧ bE l g = M t') → ∀ t1, t ≤ t1 → t1 < m → ∃ k, k < (bIn M 0 j t l).length ∧ bE (bIn M 0 j t l) k = M t1 ∧ ∀ g, g < k → bE (bIn M 0 j t l) g = tid ∨ ∃ t', t' < t1 ∧ bE (bIn M 0 j t l) g = M t' := by
  intro j
  induction j with
  | zero => intro t l h1 _ _ t1 h2 h3; omega
  | succ j ih =>
    intro t l h1 hi hQ t1 h2 h3
    rw [bIn_s]
    have hst := Bi_st (g := 0) (t := t) hi hi.1 (hM t (by omega))
    obtain ⟨r1, r2, r3, -⟩ := bIn_ext (g := 0) hM j (t + 1) (bSt M 0 t l) (by omega) hst.1 hst.1.1
    have hQ2 : ∀ g, g < (bSt M 0 t l).length → bE (bSt M 0 t l) g = tid ∨ ∃ t', t' < t + 1 ∧ bE (bSt M 0 t l) g = M t' := by
      intro g hg
      by_cases e : g < l.length
      · rw [hst.2.2 g e]
        rcases hQ g e with q | ⟨t', q1, q2⟩
        · exact Or.inl q
        · exact Or.inr ⟨t', by omega, q2⟩
      · right
        refine ⟨t, by omega, ?_⟩
        unfold bSt at hg ⊢
        by_cases hv : fnd (bE l) (tco (bE l 0) (M t)) l.length 0 = -1
        · rw [if_pos hv] at hg ⊢
          have : g = l.length := by simp at hg; omega
          subst this
          rw [bE_last, hi.2.1, tco_l]
        · rw [if_neg hv] at hg
          omega
    by_cases e : t1 = t
    · subst e
      obtain ⟨k, hk, ek⟩ := bSt_has (M := M) (g := 0) (t := t1) (l := l)
      rw [hi.2.1, tco_l] at ek
      have hk2 : k ≤ l.length := by
        have : (bSt M 0 t1 l).length ≤ l.length + 1 := by unfold bSt; split <;> simp
        omega
      refine ⟨k, Nat.lt_of_lt_of_le hk r2, by rw [r3 k hk, ek], fun g hg => ?_⟩
      rw [r3 g (by omega), hst.2.2 g (by omega)]
      exact hQ g (by omega)
    · exact ih (t + 1) _ (by omega) hst.1 hQ2 t1 (by omega) h3
/-- what stands ahead of a turn: the one that leaves all, and turns ahead of it -/
theorem mel_first {M : Nat → tn} {m : Nat} (hM : ∀ t, t < m → tok (M t)) {t : Nat} (ht : t < m) : ∀ g, g < mel M (bfs M m) t → g = 0 ∨ ∃ t', t' < t ∧ mel M (bfs M m) t' = g := by
  intro g hg
  have hG := GP_bfs hM
  have hH := Hm_bfs hM
  have hb : bfs M m = bOut M m 48 1 (bIn M 0 m 0 b0) := rfl
  obtain ⟨r1, -, -, -⟩ := bIn_ext (g := 0) hM m 0 b0 (by omega) Bi_0 (by decide)
  obtain ⟨x1, x2⟩ := bOut_ext hM 48 1 _ r1
  obtain ⟨k, k1, k2, k3⟩ := bIn_first hM m 0 b0 (by omega) Bi_0 (fun g hg => Or.inl (by have : g = 0 := by simp [b0] at hg; exact hg
                                                                                        subst this; rfl)) t (Nat.zero_le _) ht
  rw [← hb] at x1 x2
  have hk : mel M (bfs M m) t = k := hG.2.2.2.1 _ _ (hH t ht).1 (by omega) (by rw [(hH t ht).2, x2 k k1, k2])
  rw [hk] at hg
  have e := x2 g (by omega)
  rcases k3 g hg with q | ⟨t', q1, q2⟩
  · left
    exact hG.2.2.2.1 g 0 (by omega) hG.1 (by rw [e, q, hG.2.1])
  · right
    refine ⟨t', q1, ?_⟩
    exact hG.2.2.2.1 _ _ (hH t' (by omega)).1 (by omega) (by rw [(hH t' (by omega)).2, e, q2])
-- choices, as numbers
def vC (m c t : Nat) : Int := if (c >>> (m - 1 - t)) % 2 = 0 then 1 else -1
def vR (s t : Nat) : Int := if (s >>> t) % 2 = 1 then -1 else 1
def rev (m s : Nat) : Nat := (if m = 0 then 0 else if m = 1 then s % 2 else if m = 2 then (s % 2) * 2 + s / 2 % 2 else if m = 3 then (s % 2) * 4 + s / 2 % 2 * 2 + s / 4 % 2 else (s % 2) * 8 + s / 2 % 2 * 4 + s / 4 % 2 * 2 + s / 8 % 2)
theorem rev_ok : ∀ m ∈ List.range 5, ∀ s ∈ List.range (2 ^ m), rev m s < 2 ^ m ∧ rev m (rev m s) = s ∧ ∀ t ∈ List.range m, vR s t = vC m (rev m s) t := by decide +kernel
theorem vC_ord : ∀ m ∈ List.range 5, ∀ c ∈ List.range (2 ^ m), ∀ b ∈ List.range (2 ^ m), c < b → ∃ t ∈ List.range m, (∀ t' ∈ List.range t, vC m c t' = vC m b t') ∧ vC m c t = 1 ∧ vC m b t = -1 := by decide +kernel
theorem vC_pm (m c : Nat) : pmv (vC m c) m := fun t _ => by unfold vC; split <;> simp
theorem gv_bits : ∀ m ∈ List.range 5, ∀ c ∈ List.range 16, ∀ t ∈ List.range m, decide (o_and (o_shr (c : Nat) (mw (mw ((m : Nat) - 1) - (t : Nat)))) 1 = 0) = decide ((c >>> (m - 1 - t)) % 2 = 0) := by decide +kernel
theorem sv_bits : ∀ c ∈ List.range 16, ∀ t ∈ List.range 4, decide (o_and (o_shr (c : Nat) (t : Nat)) 1 = 1) = decide ((c >>> t) % 2 = 1) := by decide +kernel
theorem shl_bits : ∀ m ∈ List.range 5, o_shl 1 (m : Nat) = ((2 ^ m : Nat) : Int) := by decide +kernel
theorem pw16 : ∀ m ∈ List.range 5, 2 ^ m ≤ 16 := by decide +kernel
/-- the row of a choice -/
def rwc (m : Nat) (l : List be) (c g : Nat) : Int := rwv l (vC m c) g
/-- rows of signs stand in the order of their choices -/
theorem rwc_ord {M : Nat → tn} {m c b : Nat} (hm : m ≤ 4) (hM : ∀ t, t < m → tok (M t)) (hc : vlb M m (bfs M m) (vC m c) = true) (hb : vlb M m (bfs M m) (vC m b) = true) (h1 : c < b) (h2 : b < 2 ^ m) : ∃ g0, g0 < (bfs M m).length ∧ (∀ g, g < g0 → rwc m (bfs M m) c g = rwc m (bfs M m) b g) ∧ rwc m (bfs M m) c g0 = 1 ∧ rwc m (bfs M m) b g0 = -1 := by
  have hG := GP_bfs hM
  have hH := Hm_bfs hM
  obtain ⟨t, t1, t2, t3, t4⟩ := vC_ord m (List.mem_range.mpr (by omega)) c (List.mem_range.mpr (by omega)) b (List.mem_range.mpr h2) h1
  have ht := List.mem_range.mp t1
  refine ⟨mel M (bfs M m) t, (hH t ht).1, fun g hg => ?_, ?_, ?_⟩
  · rcases mel_first hM ht g hg with q | ⟨t', q1, q2⟩
    · subst q; rfl
    · subst q2
      unfold rwc
      rw [vlb_el hG hH hc (by omega), vlb_el hG hH hb (by omega)]
      exact t2 t' (List.mem_range.mpr q1)
  · unfold rwc; rw [vlb_el hG hH hc ht]; exact t3
  · unfold rwc; rw [vlb_el hG hH hb ht]; exact t4
/-- the signs: choices that are signs, in their order -/
def sgs (M : Nat → tn) (m k : Nat) : List Nat := (List.range k).filter fun c => vlb M m (bfs M m) (vC m c)
theorem sgs_s (M : Nat → tn) (m k : Nat) : sgs M m (k + 1) = sgs M m k ++ if vlb M m (bfs M m) (vC m k) = true then [k] else [] := by
  unfold sgs
  rw [List.range_succ, List.filter_append]
  congr 1
  cases h : vlb M m (bfs M m) (vC m k) <;> simp [List.filter, h]
theorem sgs_le (M : Nat → tn) (m : Nat) : ∀ k, (sgs M m k).length ≤ k := fun k => by
  unfold sgs
  have := List.length_filter_le (fun c => vlb M m (bfs M m) (vC m c)) (List.range k)
  rw [List.length_range] at this
  exact this
