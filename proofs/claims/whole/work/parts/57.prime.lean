/-! every number but 0 has one that makes 1 of it -/
noncomputable def pwb : Nat → Nat → Nat → Nat → Nat := @Nat.rec (fun _ => Nat → Nat → Nat → Nat) (fun _ r _ => r) (fun _ ih e r b => ih (Nat.div e 2) (@Bool.rec (fun _ => Nat) r (Nat.mod (Nat.mul r b) 32003) (Nat.beq (Nat.mod e 2) 1)) (Nat.mod (Nat.mul b b) 32003))
noncomputable def chv (v : Nat) : Bool := Nat.beq (Nat.mod (Nat.mul (pwb 15 32001 1 v) v) 32003) 1
noncomputable def chl : Nat → Nat → Bool := @Nat.rec (fun _ => Nat → Bool) (fun _ => true) (fun _ ih v => @Bool.rec (fun _ => Bool) false (ih (Nat.add v 1)) (chv v))
noncomputable def ch2 : Nat → Nat → Bool := @Nat.rec (fun _ => Nat → Bool) (fun _ => true) (fun _ ih v => @Bool.rec (fun _ => Bool) false (ih (Nat.add v 100)) (chl 100 v))
theorem chl_ok : ∀ (j v : Nat), chl j v = true → ∀ w, v ≤ w → w < v + j → chv w = true := by
  intro j
  induction j with
  | zero => intro v _ w h1 h2; omega
  | succ j ih =>
    intro v h w h1 h2
    have h' : (@Bool.rec (fun _ => Bool) false (chl j (v + 1)) (chv v)) = true := h
    cases hc : chv v with
    | false => rw [hc] at h'; cases h'
    | true =>
      rw [hc] at h'
      by_cases e : w = v
      · rw [e]; exact hc
      · exact ih (v + 1) h' w (by omega) (by omega)
theorem ch2_ok : ∀ (j v : Nat), ch2 j v = true → ∀ w, v ≤ w → w < v + 100 * j → chv w = true := by
  intro j
  induction j with
  | zero => intro v _ w h1 h2; omega
  | succ j ih =>
    intro v h w h1 h2
    have h' : (@Bool.rec (fun _ => Bool) false (ch2 j (v + 100)) (chl 100 v)) = true := h
    cases hc : chl 100 v with
    | false => rw [hc] at h'; cases h'
    | true =>
      rw [hc] at h'
      by_cases e : w < v + 100
      · exact chl_ok 100 v hc w h1 e
      · exact ih (v + 100) h' w (by omega) (by omega)
theorem ch2_1 : ch2 320 1 = true := by decide +kernel
theorem chl_1 : chl 2 32001 = true := by decide +kernel
theorem pwb_pwm : ∀ f e r b, e < 2 ^ f → pwb f e r b = pwm f e r b := by
  intro f
  induction f with
  | zero => intro e r b _; rfl
  | succ f ih =>
    intro e r b h
    have h' : pwb (f + 1) e r b = pwb f (e / 2) (@Bool.rec (fun _ => Nat) r (r * b % 32003) (Nat.beq (e % 2) 1)) (b * b % 32003) := rfl
    rw [h', pwm_s]
    have hh : e / 2 < 2 ^ f := by rw [Nat.pow_succ] at h; omega
    rw [ih _ _ _ hh]
    by_cases e0 : e = 0
    · subst e0
      rw [if_pos rfl, show (0 : Nat) / 2 = 0 from rfl, pwm_0]
      rfl
    · rw [if_neg e0]
      by_cases q : e % 2 = 1
      · rw [if_pos q, q]; rfl
      · rw [if_neg q, show e % 2 = 0 from by omega]; rfl
theorem iv_ok {v : Nat} (h0 : 0 < v) (h : v < 32003) : iv v * v % 32003 = 1 := by
  have hc : chv v = true := by
    by_cases e : v < 32001
    · exact ch2_ok 320 1 ch2_1 v h0 (by omega)
    · exact chl_ok 2 32001 chl_1 v (by omega) (by omega)
  have h2 := Nat.eq_of_beq_eq_true hc
  have e : pwb 15 32001 1 v = iv v := pwb_pwm 15 32001 1 v (by decide)
  rw [← e]
  exact h2
