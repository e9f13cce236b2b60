theorem fnz_ok : ∀ w : List Nat, fnz w ≤ w.length ∧ (fnz w < w.length → w.getD (fnz w) 0 ≠ 0) ∧ (fnz w = w.length → ∀ k, w.getD k 0 = 0)
  | [] => ⟨Nat.le_refl _, fun h => absurd h (Nat.not_lt_zero _), fun _ k => getD_out (Nat.zero_le _)⟩
  | x :: l => by
    obtain ⟨h1, h2, h3⟩ := fnz_ok l
    rcases beq_0 (v := x) with ⟨hb, h0⟩ | ⟨hb, h0⟩
    · have e : fnz (x :: l) = fnz l + 1 := by
        show (Bool.rec 0 (fnz l + 1) (Nat.beq x 0) : Nat) = _
        rw [hb]
      rw [e]
      refine ⟨by simpa using h1, fun h => h2 (by simpa using h), fun h k => ?_⟩
      cases k with
      | zero => exact h0
      | succ k => exact h3 (by simpa using h) k
    · have e : fnz (x :: l) = 0 := by
        show (Bool.rec 0 (fnz l + 1) (Nat.beq x 0) : Nat) = _
        rw [hb]
      rw [e]
      exact ⟨Nat.zero_le _, fun _ => h0, fun h => absurd h (by simp)⟩
theorem getD_map0 {u : Nat → Nat} (hu : u 0 = 0) : ∀ (w : List Nat) (k : Nat), (w.map u).getD k 0 = u (w.getD k 0)
  | [], k => by
    show (0 : Nat) = u 0
    rw [hu]
  | x :: l, 0 => rfl
  | x :: l, k + 1 => getD_map0 hu l k
theorem stp_ok {V V' : Nat → Nat → Int} {m W : Nat} {rows : List (List Nat)} {w : List Nat} (h : LR V m W rows) (hv : vok W w) (hV : ∀ f, f < m → ∀ k, k < W → V' f k = V f k) (hm : ∀ k, k < W → em (V' m k) (wv w k)) : (stp rows w = none ∧ inS V m W (V' m)) ∨ ∃ r, stp rows w = some r ∧ ¬ inS V m W (V' m) ∧ LR V' (m + 1) W (rows ++ [r]) := by
  obtain ⟨a, hv', hR⟩ := red_ok h (w := V' m) m 0 w (fun _ => 0) (by omega) hv ⟨fun k hk => by show em (wv w k) (V' m k - 0); rw [Int.sub_zero]; exact em_sy (hm k hk), fun f hf => absurd hf (Nat.not_lt_zero _)⟩
  rw [List.drop_zero] at hv' hR
  obtain ⟨hl, hrow, x, hE⟩ := h
  have hdec := EL_dec hE hR
  unfold stp
  rw [fcL_eq, frc_eq]
  generalize red rows w = w' at *
  obtain ⟨n1, n2, n3⟩ := fnz_ok w'
  by_cases q : fnz w' < w'.length
  · right
    have hb : Nat.blt (fnz w') w'.length = true := Nat.ble_eq_true_of_le q
    rw [hb]
    show ∃ r, (frc (iv (w'.getD (fnz w') 0)) fun z => fcL (w'.map fun a => a * z % 32003) fun r => some (fnz w' :: r)) = some r ∧ _
    rw [frc_eq, fcL_eq]
    have hne := n2 q
    have hlt := hv'.2 (fnz w')
    have hiv := iv_ok (v := w'.getD (fnz w') 0) (by omega) hlt
    have hqW : fnz w' < W := by rw [← hv'.1]; exact q
    have hrw : ∀ k, (w'.map fun a => a * iv (w'.getD (fnz w') 0) % 32003).getD k 0 = w'.getD k 0 * iv (w'.getD (fnz w') 0) % 32003 := fun k => getD_map0 (u := fun a => a * iv (w'.getD (fnz w') 0) % 32003) (by show 0 * _ % 32003 = 0; rw [Nat.zero_mul]) w' k
    refine ⟨_, rfl, fun hin => ?_, ?_⟩
    · have h1 := hdec.mp hin (fnz w') hqW
      exact hne (by
        have := (em_0 (a := wv w' (fnz w')) ⟨by unfold wv; omega, by unfold wv; omega⟩).mp h1
        unfold wv at this
        omega)
    · generalize hz : iv (w'.getD (fnz w') 0) = z at *
      generalize hr : (w'.map fun a => a * z % 32003) = r at *
      have g1 : ∀ f, f < m → (rows ++ [fnz w' :: r]).getD f [] = rows.getD f [] := fun f hf => getD_ap (by rw [hl]; exact hf)
      have g2 : (rows ++ [fnz w' :: r]).getD m [] = fnz w' :: r := by rw [← hl]; exact getD_la
      refine ⟨by simp [hl], fun f hf => ?_, fun f g => if f = m then (if g = m then (z : Int) else -(sm (fun f => a f * x f g) m) * (z : Int)) else if g = m then 0 else x f g, ?_⟩
      · by_cases e : f = m
        · rw [e, g2]
          refine ⟨by show r.length = W; rw [← hr, List.length_map, hv'.1], fun k => ?_⟩
          show r.getD k 0 < 32003
          rw [hrw]
          exact Nat.mod_lt _ (by decide)
        · rw [g1 f (by omega)]; exact hrow f (by omega)
      · refine EL_app (q := fnz w') (n := (z : Int)) (y := fun g => sm (fun f => a f * x f g) m) hE hV hR (fun g _ => em_r _) hqW ?_ (fun f hf k _ => by unfold rr; rw [g1 f hf]) (fun f hf g hg => ?_) (fun f hf => ?_) (fun f hf => by unfold rp; rw [g1 f hf]) (fun k hk => ?_) (fun g hg => ?_) ?_ (by unfold rp; rw [g2]; rfl)
        · unfold em wv
          rw [← Int.natCast_mul]
          have : ((z * w'.getD (fnz w') 0 : Nat) : Int) % 32003 = ((z * w'.getD (fnz w') 0 % 32003 : Nat) : Int) := by omega
          rw [this, hiv]
          rfl
        · try dsimp only
          rw [if_neg (by omega), if_neg (by omega)]
        · try dsimp only
          rw [if_neg (by omega), if_pos rfl]
          exact em_r _
        · unfold rr wv
          rw [g2]
          show em ((r.getD k 0 : Nat) : Int) _
          rw [hrw, Int.natCast_emod, Int.natCast_mul]
          exact em_md _
        · try dsimp only
          rw [if_pos rfl, if_neg (by omega)]
          exact em_r _
        · try dsimp only
          rw [if_pos rfl, if_pos rfl]
          exact em_r _
  · left
    have hb : Nat.blt (fnz w') w'.length = false := by
      cases hc : Nat.blt (fnz w') w'.length with
      | false => rfl
      | true => exact absurd (Nat.le_of_ble_eq_true hc) q
    rw [hb]
    refine ⟨rfl, hdec.mpr (fun k hk => ?_)⟩
    unfold wv
    rw [n3 (by omega) k]
    exact em_r _
