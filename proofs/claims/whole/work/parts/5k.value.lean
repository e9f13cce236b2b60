/-! the value at a PLACE -/
def ppw (u : Int) : Nat → Int
  | 0 => 1
  | e + 1 => ppw u e * u % 32003
theorem ppw_s (u : Int) (e : Nat) : ppw u (e + 1) = ppw u e * u % 32003 := rfl
theorem ppw_rg (u : Int) : ∀ e, 0 ≤ ppw u e ∧ ppw u e < 32003
  | 0 => by unfold ppw; omega
  | e + 1 => by rw [ppw_s]; exact md_lt _
theorem X6_letter_eq {N l : Nat} {u : Int} {σ : mS} (hN : 1000 ≤ N) (hl : l < 3) (hu : 0 ≤ u ∧ u < 32003) : ∃ σ', f_X6_fillLetterPowers N (l : Int) u σ = some σ' ∧ fr [36] σ σ' ∧ (∀ l' e, l' ≠ l → σ' 36 l' e = σ 36 l' e) ∧ ∀ e, e ≤ 8 → σ' 36 l e = ppw u e := by
  obtain ⟨s1, e, h1, h2, h3⟩ := lp_up (L := fun f k s => L_X6_fillLetterPowers_14 N f u l k s) (I := fun k s => 0 < k ∧ fr [36] σ s ∧ (∀ l' e, l' ≠ l → s 36 l' e = σ 36 l' e) ∧ ∀ e, e < k → s 36 l e = ppw u e) (P := fun s => fr [36] σ s ∧ (∀ l' e, l' ≠ l → s 36 l' e = σ 36 l' e) ∧ ∀ e, e ≤ 8 → s 36 l e = ppw u e) 9 (fun f k s hk hI => by
      obtain ⟨h0, h1, h2, h3⟩ := hI
      left
      have hp := ppw_rg u (k - 1)
      have a1 := ml_rg hp hu
      have x1 : mw ((k : Int) - 1) = ((k - 1 : Nat) : Int) := by rw [mw_id (by omega) (by omega)]; omega
      try dsimp only
      rw [L_X6_fillLetterPowers_14_s, if_neg (by omega), x1, if_pos (by omega), tN, tN, h3 (k - 1) (by omega), rem_md a1.1 (by omega), mw_s (by omega)]
      refine ⟨_, rfl, by omega, fr_mup h1 (by decide), fun l' e hl' => by rw [mup_i hl']; exact h2 l' e hl', fun e he => ?_⟩
      by_cases ek : e = k
      · subst ek
        rw [mup_s]
        obtain ⟨q, rfl⟩ : ∃ q, e = q + 1 := ⟨e - 1, by omega⟩
        rfl
      · rw [mup_k ek]; exact h3 e (by omega)) (fun f s hI => by
      refine ⟨s, ?_, hI.2.1, hI.2.2.1, fun e he => hI.2.2.2 e (by omega)⟩
      try dsimp only
      rw [L_X6_fillLetterPowers_14_s, if_pos (by omega)]) N 1 (mup σ 36 l 0 1) (by omega) (by omega) ⟨by omega, fr_mup fr_rfl (by decide), fun l' e hl' => mup_i hl', fun e he => by
        have : e = 0 := by omega
        subst this
        rw [mup_s]; rfl⟩
  refine ⟨s1, ?_, h1, h2, h3⟩
  unfold f_X6_fillLetterPowers
  rw [show (1 : Int) = ((1 : Nat) : Int) from rfl] at *
  try dsimp only at e
  rw [if_pos (by omega), tN, e]
  rfl
/-- one number's part of the value -/
def vt (Q : Nat → Int) (u v w : Int) (x : Nat) : Int := Q x * ppw u (pI x) % 32003 * ppw v (pJ x) % 32003 * ppw w (pK x) % 32003
def vl (Q : Nat → Int) (u v w : Int) : Int := sm (vt Q u v w) 165 % 32003
theorem vt_rg (Q : Nat → Int) (u v w : Int) (x : Nat) : 0 ≤ vt Q u v w x ∧ vt Q u v w x < 32003 := md_lt _
def pl3 (u v w : Int) (l : Nat) : Int := if l = 0 then u else if l = 1 then v else w
/-- of the first letters -/
def vtp (Q : Nat → Int) (u v w : Int) (x : Nat) : Nat → Int
  | 0 => Q x
  | l + 1 => vtp Q u v w x l * ppw (pl3 u v w l) (pe x l) % 32003
theorem vtp_s (Q : Nat → Int) (u v w : Int) (x l : Nat) : vtp Q u v w x (l + 1) = vtp Q u v w x l * ppw (pl3 u v w l) (pe x l) % 32003 := rfl
theorem X6_term_eq {N p x : Nat} {u v w x5 : Int} {Q : Nat → Int} {σ : mS} (hN : 1000 ≤ N) (H : CPw σ) (hx : x < 165) (hQ : 0 ≤ Q x ∧ Q x < 32003) (hL : ∀ l, l < 3 → ∀ e, e ≤ 8 → σ 36 l e = ppw (pl3 u v w l) e) : L_X6_valueAt_56 N N (p : Int) x5 (x : Int) (Q x) 0 σ = some (vt Q u v w x, σ) := by
  have h3 : vtp Q u v w x 3 = vt Q u v w x := rfl
  have hz : ∀ l m, l ≤ m → vtp Q u v w x l = 0 → vtp Q u v w x m = 0 := by
    intro l m
    induction m with
    | zero =>
      intro h1 h2
      have : l = 0 := by omega
      rw [this] at h2
      exact h2
    | succ m ih =>
      intro h1 h2
      by_cases e : l = m + 1
      · rw [e] at h2; exact h2
      · rw [vtp_s, ih (by omega) h2, Int.zero_mul]; rfl
  have hrg : ∀ l, 0 ≤ vtp Q u v w x l ∧ vtp Q u v w x l < 32003 := fun l => by
    cases l with
    | zero => exact hQ
    | succ l => exact md_lt _
  obtain ⟨o, e, h⟩ := lp2_0 (L := fun f l a s => L_X6_valueAt_56 N f (p : Int) x5 (x : Int) a l s) (I := fun l a s => a = vtp Q u v w x l ∧ s = σ) (P := fun o => o = (vtp Q u v w x 3, σ)) 3 (fun f l a s hl hI => by
      obtain ⟨h1, h2⟩ := hI
      subst h1
      subst h2
      have hpe := pe_le hx l
      have hp := (H x hx).1 l hl
      have a1 := ml_rg (hrg l) (ppw_rg (pl3 u v w l) (pe x l))
      try dsimp only
      by_cases q : vtp Q u v w x l = 0
      · right
        rw [L_X6_valueAt_56_s, if_neg (by omega), if_pos q, q]
        exact ⟨_, rfl, by rw [hz l 3 (by omega) q]⟩
      · left
        rw [L_X6_valueAt_56_s, if_neg (by omega), if_neg q, tN, tN, hp, if_pos (by omega), tN, hL l hl _ hpe, rem_md a1.1 (by omega), mw_s (by omega)]
        exact ⟨_, _, rfl, rfl, rfl⟩) (fun f a s hI => by
      obtain ⟨h1, h2⟩ := hI
      subst h1
      subst h2
      refine ⟨_, ?_, rfl⟩
      try dsimp only
      rw [L_X6_valueAt_56_s, if_pos (by omega)]) (f := N) (a := Q x) (s := σ) (by omega) ⟨rfl, rfl⟩
  try dsimp only at e
  rw [e, h, h3]
theorem X6_value_eq {N p : Nat} {u v w : Int} {Q : Nat → Int} {σ : mS} (hN : 1000 ≤ N) (H : CPw σ) (hp : p < 8) (hQ : ∀ x, x < 165 → σ 33 p x = Q x) (hnq : nm Q) (hu : mw u = u) (hv : mw v = v) (hw : mw w = w) : ∃ σ', f_X6_valueAt N (p : Int) u v w σ = some (vl Q (u % 32003) (v % 32003) (w % 32003), σ') ∧ fr [36] σ σ' := by
  obtain ⟨s1, a1, a2, a3, a4⟩ := X6_letter_eq (N := N) (l := 0) (u := u % 32003) (σ := σ) hN (by decide) (md_lt u)
  obtain ⟨s2, b1, b2, b3, b4⟩ := X6_letter_eq (N := N) (l := 1) (u := v % 32003) (σ := s1) hN (by decide) (md_lt v)
  obtain ⟨s3, c1, c2, c3, c4⟩ := X6_letter_eq (N := N) (l := 2) (u := w % 32003) (σ := s2) hN (by decide) (md_lt w)
  have f3 := fr_trans a2 (fr_trans b2 c2)
  have hL : ∀ l, l < 3 → ∀ e, e ≤ 8 → s3 36 l e = ppw (pl3 (u % 32003) (v % 32003) (w % 32003) l) e := fun l hl e he => by
    have : l = 0 ∨ l = 1 ∨ l = 2 := by omega
    rcases this with rfl | rfl | rfl
    · rw [c3 0 e (by decide), b3 0 e (by decide)]; exact a4 e he
    · rw [c3 1 e (by decide)]; exact b4 e he
    · exact c4 e he
  have H3 := CPw_ag H (ag_fr f3 (by decide))
  obtain ⟨o, e, h⟩ := lp2_0 (L := fun f x a s => L_X6_valueAt_34 N f (p : Int) a x s) (I := fun x a s => a = sm (vt Q (u % 32003) (v % 32003) (w % 32003)) x % 32003 ∧ s = s3) (P := fun o => o = (vl Q (u % 32003) (v % 32003) (w % 32003), s3)) 165 (fun f x a s hx hI => by
      obtain ⟨h1, h2⟩ := hI
      subst h1
      subst h2
      left
      have hm := md_lt (sm (vt Q (u % 32003) (v % 32003) (w % 32003)) x)
      have ht := vt_rg Q (u % 32003) (v % 32003) (w % 32003) x
      try dsimp only
      rw [L_X6_valueAt_34_s, if_neg (by omega), if_pos (by omega), tN, tN, show s 33 p x = Q x from (f3 33 _ _ (by decide)).trans (hQ x hx), X6_term_eq hN H3 hx (hnq x hx) hL, Option.bind_some, mw_s (by omega)]
      try dsimp only
      rw [rem_md (by omega) (by omega), Int.emod_add_emod]
      exact ⟨_, _, rfl, rfl, rfl⟩) (fun f a s hI => by
      obtain ⟨h1, h2⟩ := hI
      refine ⟨(a, s), ?_, ?_⟩
      · try dsimp only
        rw [L_X6_valueAt_34_s, if_pos (by omega)]
      · unfold vl
        rw [h1, h2]) (f := N) (a := 0) (s := s3) (by omega) ⟨rfl, rfl⟩
  refine ⟨s3, ?_, f3⟩
  unfold f_X6_valueAt
  try dsimp only at e
  rw [X11_leftOver_eq hu, Option.bind_some]
  try dsimp only
  rw [show (0 : Int) = ((0 : Nat) : Int) from rfl, show (1 : Int) = ((1 : Nat) : Int) from rfl, show (2 : Int) = ((2 : Nat) : Int) from rfl, a1, Option.bind_some, X11_leftOver_eq hv, Option.bind_some]
  try dsimp only
  rw [b1, Option.bind_some, X11_leftOver_eq hw, Option.bind_some]
  try dsimp only
  rw [c1, Option.bind_some, show L_X6_valueAt_34 N N (p : Int) ((0 : Nat) : Int) ((0 : Nat) : Int) s3 = L_X6_valueAt_34 N N (p : Int) 0 0 s3 from rfl, e, h]
  rfl
theorem X12_power_eq {N e : Nat} {u : Int} {σ : mS} (hN : 1000 ≤ N) (he : e ≤ 8) (hu : 0 ≤ u ∧ u < 32003) : f_X12_power N u (e : Int) σ = some (ppw u e, σ) := by
  obtain ⟨o, q, h⟩ := lp2_0 (L := fun f k a s => L_X12_power_5 N f u (e : Int) a k s) (I := fun k a s => a = ppw u k ∧ s = σ) (P := fun o => o = (ppw u e, σ)) e (fun f k a s hk hI => by
      obtain ⟨h1, h2⟩ := hI
      subst h1
      subst h2
      left
      have a1 := ml_rg (ppw_rg u k) hu
      try dsimp only
      rw [L_X12_power_5_s, if_neg (by omega), lrem_md a1.1 (by omega), mw_s (by omega)]
      exact ⟨_, _, rfl, rfl, rfl⟩) (fun f a s hI => by
      obtain ⟨h1, h2⟩ := hI
      subst h1
      subst h2
      refine ⟨_, ?_, rfl⟩
      try dsimp only
      rw [L_X12_power_5_s, if_pos (by omega)]) (f := N) (a := 1) (s := σ) (by omega) ⟨rfl, rfl⟩
  have hr := ppw_rg u e
  unfold f_X12_power
  try dsimp only at q
  rw [q, h, Option.bind_some]
  try dsimp only
  rw [mw_id (by omega) (by omega)]
def vR_ (Q : Nat → Int) (u v w : Int) (a : Nat) : Int := if dg a ≤ 8 then vt Q u v w (xa a) else 0
theorem X12_value_lp {N p : Nat} {u v w : Int} {P : Nat → Nat → Int} {σ : mS} (hN : 1000 ≤ N) (hp : p < 8) (hP : RP σ P) (hnp : nm (P p)) (hu : mw u = u) (hv : mw v = v) (hw : mw w = w) : L_X12_value_15 N N (p : Int) u v w 0 0 σ = some (sm (vt (P p) (u % 32003) (v % 32003) (w % 32003)) 165, σ) := by
  have ru := mw_rg hu
  have rv := mw_rg hv
  have rw_ := mw_rg hw
  have mu := md_lt u
  have mv_ := md_lt v
  have mw_ := md_lt w
  have hbd : ∀ a, a ≤ 729 → 0 ≤ sm (vR_ (P p) (u % 32003) (v % 32003) (w % 32003)) a ∧ sm (vR_ (P p) (u % 32003) (v % 32003) (w % 32003)) a ≤ a * 32003 := fun a ha => by
    have t : ∀ k, 0 ≤ vR_ (P p) (u % 32003) (v % 32003) (w % 32003) k ∧ vR_ (P p) (u % 32003) (v % 32003) (w % 32003) k ≤ 32003 := fun k => by
      unfold vR_
      have := vt_rg (P p) (u % 32003) (v % 32003) (w % 32003) (xa k)
      split <;> omega
    have b1 := sm_le (F := vR_ (P p) (u % 32003) (v % 32003) (w % 32003)) (B := 32003) a (fun k _ => (t k).2)
    have b2 := sm_ge (F := vR_ (P p) (u % 32003) (v % 32003) (w % 32003)) (B := 0) a (fun k _ => (t k).1)
    omega
  obtain ⟨⟨d, s⟩, e, h⟩ := tri (S := Int × mS) (N := N) (by omega) (fun f i s => L_X12_value_15 N f (p : Int) u v w s.1 i s.2) (fun f i j s => L_X12_value_25 N f (p : Int) u v w s.1 i j s.2) (fun f i j k s => L_X12_value_38 N f (p : Int) u v w s.1 i j k s.2) (fun a s => a ≤ 729 → s = (sm (vR_ (P p) (u % 32003) (v % 32003) (w % 32003)) a, σ))
    (fun f i j k s h hI => by
      have hI := hI (by omega)
      subst hI
      obtain ⟨x1, x2⟩ := xa_ijk h
      obtain ⟨w1, wI, wJ, wK⟩ := ixn_ok h
      have hb := hbd (81 * i + 9 * j + k) (by omega)
      have hrg := hnp _ w1
      have hvr : vR_ (P p) (u % 32003) (v % 32003) (w % 32003) (81 * i + 9 * j + k) = vt (P p) (u % 32003) (v % 32003) (w % 32003) (ixn i j k) := by unfold vR_; rw [x1, x2, if_pos h]
      have hvt := vt_rg (P p) (u % 32003) (v % 32003) (w % 32003) (ixn i j k)
      try dsimp only
      rw [L_X12_value_38_s, show mw (mw ((i : Int) + (j : Int)) + (k : Int)) = ((i + j + k : Nat) : Int) from (by rw [mw_id (z := (i : Int) + (j : Int)) (by omega) (by omega), mw_id (by omega) (by omega)]; omega), if_neg (by omega), X12_of_eq hp h hP, Option.bind_some, mw_s (by omega)]
      try dsimp only
      refine ⟨(sm (vR_ (P p) (u % 32003) (v % 32003) (w % 32003)) (81 * i + 9 * j + k + 1), σ), ?_, fun _ => rfl⟩
      try dsimp only
      by_cases q : P p (ixn i j k) = 0
      · rw [if_pos q, Int.add_zero, mx_id (by omega) (by omega), sm_s, hvr, show vt (P p) (u % 32003) (v % 32003) (w % 32003) (ixn i j k) = 0 from (by unfold vt; rw [q]; simp), Int.add_zero]
      · have c1 := ppw_rg (u % 32003) i
        have c2 := ppw_rg (v % 32003) j
        have c3 := ppw_rg (w % 32003) k
        have d1 := ml_rg hrg c1
        have d2 := ml_rg (md_lt (P p (ixn i j k) * ppw (u % 32003) i)) c2
        have d3 := ml_rg (md_lt (P p (ixn i j k) * ppw (u % 32003) i % 32003 * ppw (v % 32003) j)) c3
        rw [if_neg q, X12_of_eq hp h hP, Option.bind_some]
        try dsimp only
        rw [X12_left_eq (mx_small (by omega) (by omega)), Option.bind_some]
        try dsimp only
        rw [X12_power_eq hN (by omega) mu, Option.bind_some]
        try dsimp only
        rw [X12_left_eq (mx_small (by omega) (by omega)), Option.bind_some]
        try dsimp only
        rw [X12_power_eq hN (by omega) mv_, Option.bind_some]
        try dsimp only
        rw [X12_left_eq (mx_small (by omega) (by omega)), Option.bind_some]
        try dsimp only
        rw [X12_power_eq hN (by omega) mw_, Option.bind_some]
        try dsimp only
        rw [lrem_md d1.1 (by omega), lrem_md d2.1 (by omega), lrem_md d3.1 (by omega), show P p (ixn i j k) * ppw (u % 32003) i % 32003 * ppw (v % 32003) j % 32003 * ppw (w % 32003) k % 32003 = vt (P p) (u % 32003) (v % 32003) (w % 32003) (ixn i j k) from (by unfold vt; rw [wI, wJ, wK]), mx_id (by omega) (by omega), sm_s, hvr])
    (fun f i j k s h => by
      obtain ⟨d, s⟩ := s
      try dsimp only
      rw [L_X12_value_38_s, show mw (mw ((i : Int) + (j : Int)) + (k : Int)) = ((i + j + k : Nat) : Int) from (by rw [mw_id (z := (i : Int) + (j : Int)) (by omega) (by omega), mw_id (by omega) (by omega)]; omega), if_pos (by omega)])
    (fun f i j s h => by
      obtain ⟨d, s⟩ := s
      try dsimp only
      rw [L_X12_value_25_s, show mw ((i : Int) + (j : Int)) = ((i + j : Nat) : Int) from (by rw [mw_id (by omega) (by omega)]; omega), if_neg (by omega), mw_s (by omega)])
    (fun f i j s h => by
      obtain ⟨d, s⟩ := s
      try dsimp only
      rw [L_X12_value_25_s, show mw ((i : Int) + (j : Int)) = ((i + j : Nat) : Int) from (by rw [mw_id (by omega) (by omega)]; omega), if_pos (by omega)])
    (fun f i s h => by
      obtain ⟨d, s⟩ := s
      try dsimp only
      rw [L_X12_value_15_s, if_neg (by omega), mw_s (by omega)])
    (fun f s => by
      obtain ⟨d, s⟩ := s
      try dsimp only
      rw [L_X12_value_15_s, if_pos (by omega)])
    (fun a s h1 h2 hI h3 => by
      rw [hI (by omega), sm_s, show vR_ (P p) (u % 32003) (v % 32003) (w % 32003) a = 0 from (by unfold vR_; rw [if_neg (by omega)]), Int.add_zero]) (0, σ) (fun _ => rfl)
  have h := h (Nat.le_refl _)
  obtain ⟨h1, h2⟩ := Prod.mk.inj h
  try dsimp only at e
  rw [e, h1, h2]
  refine congrArg (fun z => some (z, σ)) ?_
  rw [← sm_re (F := vR_ (P p) (u % 32003) (v % 32003) (w % 32003)) (u := ax) (m := 165) (n := 729) (fun x hx => ax_lt hx) (fun x y hx hy h => ax_inj hx hy h) (fun a ha h => by
    unfold vR_
    refine if_neg (fun z => ?_)
    exact h _ (xa_lt ha z) (ax_xa ha z))]
  exact sm_cg 165 (fun x hx => by
    show vR_ (P p) (u % 32003) (v % 32003) (w % 32003) (ax x) = _
    unfold vR_
    rw [dg_ax hx, if_pos (pD_le hx), xa_ax hx])
