/-! a polynomial that stays is a sum of means -/
theorem stay_mean {E : Nat → tn} {n d k : Nat} {Q : Nat → Int} (hG : GP E n) (hd : d ≤ 6) (hk : k < wd d) (hs : ∀ g, g < n → ∀ x, x < 165 → em (Q (tX (E g) x)) (tS (E g) x * Q x)) : em (Q (fst9 d + k)) (sm (fun i => Q (fst9 d + i) * mnv E n d i k) (wd d)) := by
  have hn48 := few48 hG.2.2.1 hG.2.2.2.1
  have hn0 := hG.1
  obtain ⟨kx, kd⟩ := fst_pD (show d ≤ 8 by omega) hk
  have e1 : em (sm (fun i => Q (fst9 d + i) * mnv E n d i k) (wd d)) (sm (fun i => sm (fun g => (if tX (E g) (fst9 d + i) = fst9 d + k then tS (E g) (fst9 d + i) * Q (fst9 d + i) else 0) * (iv n : Int)) n) (wd d)) := em_sm (wd d) (fun i hi => by
    unfold mnv meanM
    refine em_t (em_mul (em_r _) (em_md _)) ?_
    rw [← sm_mulr, ← sm_mul, sm_cg (G := fun g => (if tX (E g) (fst9 d + i) = fst9 d + k then tS (E g) (fst9 d + i) * Q (fst9 d + i) else 0) * (iv n : Int)) n (fun g _ => by
      by_cases q : tX (E g) (fst9 d + i) = fst9 d + k
      · rw [if_pos q, if_pos q, ← Int.mul_assoc, Int.mul_comm (Q (fst9 d + i))]
      · rw [if_neg q, if_neg q, Int.zero_mul, Int.mul_zero])]
    exact em_r _)
  rw [sm_swap] at e1
  have e2 : em (sm (fun g => sm (fun i => (if tX (E g) (fst9 d + i) = fst9 d + k then tS (E g) (fst9 d + i) * Q (fst9 d + i) else 0) * (iv n : Int)) (wd d)) n) (sm (fun _ => Q (fst9 d + k) * (iv n : Int)) n) := em_sm n (fun g hg => by
    have ht := hG.2.2.1 g hg
    obtain ⟨y, hy, ey⟩ : ∃ y, y < wd d ∧ tX (E g) (fst9 d + y) = fst9 d + k := by
      have hti := tiv_ok ht
      have hx := tX_lt hti kx
      obtain ⟨-, b, c, -⟩ := tX_1 (tiv (E g)) (tok_mem.mp hti) (fst9 d + k) (List.mem_range.mpr kx)
      rw [kd] at b
      obtain ⟨p1, p2⟩ := pD_fst (show d ≤ 8 by omega) hx b
      refine ⟨tX (tiv (E g)) (fst9 d + k) - fst9 d, p2, ?_⟩
      rw [show fst9 d + (tX (tiv (E g)) (fst9 d + k) - fst9 d) = tX (tiv (E g)) (fst9 d + k) from by omega]
      have : tiv (tiv (E g)) = E g := tco_cr hti (tiv_ok hti) ht (by rw [tiv_l hti, tiv_r ht])
      rw [this] at c
      exact c
    have hyx := (fst_pD (show d ≤ 8 by omega) hy).1
    rw [sm_one (x := y) (wd d) hy (fun i hi hne => by
      rw [if_neg (fun z => hne (by
        have hix := (fst_pD (show d ≤ 8 by omega) hi).1
        have c1 := (tX_1 (E g) (tok_mem.mp ht) (fst9 d + i) (List.mem_range.mpr hix)).2.2.1
        have c2 := (tX_1 (E g) (tok_mem.mp ht) (fst9 d + y) (List.mem_range.mpr hyx)).2.2.1
        rw [z] at c1
        rw [ey] at c2
        omega)), Int.zero_mul]), if_pos ey, ← ey]
    exact em_mul (em_sy (hs g hg _ hyx)) (em_r _))
  refine em_sy (em_t e1 (em_t e2 ?_))
  have e3 : sm (fun _ => Q (fst9 d + k) * (iv n : Int)) n = Q (fst9 d + k) * ((iv n * n : Nat) : Int) := by
    have := sm_mul (c := Q (fst9 d + k) * (iv n : Int)) (F := fun _ => 1) n
    rw [sm_n1] at this
    rw [sm_cg (G := fun _ => Q (fst9 d + k) * (iv n : Int) * 1) n (fun _ _ => (Int.mul_one _).symm), this, Int.natCast_mul, Int.mul_assoc]
  rw [e3]
  have hiv := iv_ok hn0 (show n < 32003 by omega)
  have : em ((iv n * n : Nat) : Int) 1 := by
    unfold em
    rw [show ((iv n * n : Nat) : Int) % 32003 = ((iv n * n % 32003 : Nat) : Int) from by omega, hiv]
    rfl
  have h2 := em_mul (em_r (Q (fst9 d + k))) this
  rw [Int.mul_one] at h2
  exact h2
