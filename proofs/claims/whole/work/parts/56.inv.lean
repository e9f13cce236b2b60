/-! what a number must be multiplied by -/
theorem pwm_0 (f r b : Nat) : pwm f 0 r b = r := by cases f with
  | zero => rfl
  | succ f => rw [pwm_s, if_pos rfl]
theorem X11_inv_lp {N : Nat} {σ : mS} : ∀ (f e r b fu : Nat), e < 2 ^ f → e < 2147483648 → r < 32003 → b < 32003 → f < fu → L_X11_inverse_11 N fu (r : Int) (b : Int) (e : Int) σ = some ((pwm f e r b : Int), σ) := by
  intro f
  induction f with
  | zero =>
    intro e r b fu h1 h2 h3 h4 h5
    obtain ⟨fu, rfl⟩ : ∃ f', fu = f' + 1 := ⟨fu - 1, by omega⟩
    have : e = 0 := by simpa using h1
    subst this
    rw [L_X11_inverse_11_s, if_pos (by decide)]
    rfl
  | succ f ih =>
    intro e r b fu h1 h2 h3 h4 h5
    obtain ⟨fu, rfl⟩ : ∃ f', fu = f' + 1 := ⟨fu - 1, by omega⟩
    rw [L_X11_inverse_11_s, pwm_s]
    by_cases e0 : e = 0
    · subst e0; rw [if_pos (by decide), if_pos rfl]
    · have hp : ∀ {x y : Nat}, x < 32003 → y < 32003 → x * y < 1024192009 := fun {x y} hx hy => by
        have := Nat.mul_le_mul (show x ≤ 32002 by omega) (show y ≤ 32002 by omega)
        omega
      have q1 := hp h3 h4
      have q2 := hp h4 h4
      have m1 : o_rem (mw ((r : Int) * (b : Int))) 32003 = ((r * b % 32003 : Nat) : Int) := by
        rw [← Int.natCast_mul, rem_md (by omega) (by omega)]; omega
      have m2 : o_rem (mw ((b : Int) * (b : Int))) 32003 = ((b * b % 32003 : Nat) : Int) := by
        rw [← Int.natCast_mul, rem_md (by omega) (by omega)]; omega
      rw [if_neg (by omega), if_neg e0, m1, m2, shr_one h2]
      have hh : e / 2 < 2 ^ f := by rw [Nat.pow_succ] at h1; omega
      by_cases q : e % 2 = 1
      · rw [if_pos ((and_one h2).mpr q), if_pos q]
        exact ih _ _ _ fu hh (by omega) (by omega) (by omega) (by omega)
      · rw [if_neg (fun y => q ((and_one h2).mp y)), if_neg q]
        exact ih _ _ _ fu hh (by omega) h3 (by omega) (by omega)
theorem X11_inverse_eq {N v : Nat} {σ : mS} (hN : 100 ≤ N) (hv : v < 32003) : f_X11_inverse N (v : Int) σ = some ((iv v : Int), σ) := by
  unfold f_X11_inverse
  rw [X11_leftOver_eq (mw_id (by omega) (by omega)), Option.bind_some]
  try dsimp only
  rw [show (v : Int) % 32003 = (v : Int) from by omega, show (1 : Int) = ((1 : Nat) : Int) from rfl, show (32001 : Int) = ((32001 : Nat) : Int) from rfl, X11_inv_lp 15 32001 1 v N (by decide) (by decide) (by decide) hv (by omega)]
  rfl
theorem X12_by_lp {N : Nat} {σ : mS} : ∀ (f e r b fu : Nat), e < 2 ^ f → e < 2147483648 → r < 32003 → b < 32003 → f < fu → L_X12_by_10 N fu (e : Int) (r : Int) (b : Int) σ = some ((pwm f e r b : Int), σ) := by
  intro f
  induction f with
  | zero =>
    intro e r b fu h1 h2 h3 h4 h5
    obtain ⟨fu, rfl⟩ : ∃ f', fu = f' + 1 := ⟨fu - 1, by omega⟩
    have : e = 0 := by simpa using h1
    subst this
    rw [L_X12_by_10_s, if_pos (by decide)]
    rfl
  | succ f ih =>
    intro e r b fu h1 h2 h3 h4 h5
    obtain ⟨fu, rfl⟩ : ∃ f', fu = f' + 1 := ⟨fu - 1, by omega⟩
    rw [L_X12_by_10_s, pwm_s]
    by_cases e0 : e = 0
    · subst e0; rw [if_pos (by decide), if_pos rfl]
    · have hp : ∀ {x y : Nat}, x < 32003 → y < 32003 → x * y < 1024192009 := fun {x y} hx hy => by
        have := Nat.mul_le_mul (show x ≤ 32002 by omega) (show y ≤ 32002 by omega)
        omega
      have q1 := hp h3 h4
      have q2 := hp h4 h4
      have m1 : o_lrem (mx ((r : Int) * (b : Int))) 32003 = ((r * b % 32003 : Nat) : Int) := by
        rw [← Int.natCast_mul, lrem_md (by omega) (by omega)]; omega
      have m2 : o_lrem (mx ((b : Int) * (b : Int))) 32003 = ((b * b % 32003 : Nat) : Int) := by
        rw [← Int.natCast_mul, lrem_md (by omega) (by omega)]; omega
      have m3 : o_div (e : Int) 2 = ((e / 2 : Nat) : Int) := by rw [o_div_eq (by omega) (by omega) (by decide) (by decide)]; omega
      have m4 : o_rem (e : Int) 2 = ((e % 2 : Nat) : Int) := by rw [o_rem_eq (by omega) (by omega) (by decide) (by decide)]; omega
      rw [if_neg (by omega), if_neg e0, m1, m2, m3, m4]
      have hh : e / 2 < 2 ^ f := by rw [Nat.pow_succ] at h1; omega
      by_cases q : e % 2 = 1
      · rw [if_pos (by omega), if_pos q]
        exact ih _ _ _ fu hh (by omega) (by omega) (by omega) (by omega)
      · rw [if_neg (by omega), if_neg q]
        exact ih _ _ _ fu hh (by omega) h3 (by omega) (by omega)
theorem X12_by_eq {N v : Nat} {σ : mS} (hN : 100 ≤ N) (hv : v < 32003) : f_X12_by N (v : Int) σ = some ((iv v : Int), σ) := by
  unfold f_X12_by
  rw [show (1 : Int) = ((1 : Nat) : Int) from rfl, show (32001 : Int) = ((32001 : Nat) : Int) from rfl, X12_by_lp 15 32001 1 v N (by decide) (by decide) (by decide) hv (by omega), Option.bind_some]
  try dsimp only
  have := iv_lt v
  rw [show pwm 15 32001 1 v = iv v from rfl, mw_id (by omega) (by omega)]
