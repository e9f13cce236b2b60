/-! the reference's reduction: rows by all 729 numbers, of one degree -/
/-- the layer's place -/
def ly (d y : Nat) : Nat := ax (fst9 d + y)
theorem ly_lt {d y : Nat} (hd : d ≤ 8) (hy : y < wd d) : ly d y < 729 := ax_lt (fst_pD hd hy).1
theorem ly_inj {d x y : Nat} (hd : d ≤ 8) (hx : x < wd d) (hy : y < wd d) (h : ly d x = ly d y) : x = y := by
  have := ax_inj (fst_pD hd hx).1 (fst_pD hd hy).1 h
  omega
theorem ly_dg {d y : Nat} (hd : d ≤ 8) (hy : y < wd d) : dg (ly d y) = d := by
  unfold ly
  rw [dg_ax (fst_pD hd hy).1]
  exact (fst_pD hd hy).2
/-- a row of numbers that is 0 but at degree d -/
def hmW (A : Nat → Int) (d : Nat) : Prop := ∀ a, a < 729 → (0 ≤ A a ∧ A a < 32003) ∧ (dg a ≠ d → A a = 0)
/-- the reference bears an elimination of m free V -/
def RE (σ : mS) (d m : Nat) (V : Nat → Nat → Int) : Prop := σ 71 0 27 = (m : Int) ∧ (∀ f, f < m → hmW (fun a => σ 92 0 (729 * f + a)) d ∧ (∀ g, g < 30 → 0 ≤ σ 90 0 (30 * f + g) ∧ σ 90 0 (30 * f + g) < 32003) ∧ (∃ y, y < wd d ∧ σ 86 0 f = (ly d y : Int)) ∧ ∀ g, f < g → g < 30 → σ 90 0 (30 * f + g) = 0) ∧ ∃ pv : Nat → Nat, (∀ f, f < m → pv f < wd d ∧ σ 86 0 f = (ly d (pv f) : Int)) ∧ EL V m (wd d) (fun f k => σ 92 0 (729 * f + ly d k)) (fun f g => σ 90 0 (30 * f + g)) pv
theorem RE_fq {σ σ' : mS} {d m : Nat} {V : Nat → Nat → Int} {R K : List Nat} (h : RE σ d m V) (hf : fq R K σ σ') (hR : ∀ r, r ∈ [86, 90, 92] → r ∉ R) (hK : 27 ∉ K) : RE σ' d m V := by
  have e86 : ∀ k, σ' 86 0 k = σ 86 0 k := fun k => hf.1 86 _ _ (hR 86 (by decide)) (by decide)
  have e90 : ∀ k, σ' 90 0 k = σ 90 0 k := fun k => hf.1 90 _ _ (hR 90 (by decide)) (by decide)
  have e92 : ∀ k, σ' 92 0 k = σ 92 0 k := fun k => hf.1 92 _ _ (hR 92 (by decide)) (by decide)
  obtain ⟨a, b, pv, c1, c2⟩ := h
  refine ⟨by rw [hf.2 27 hK]; exact a, fun f hf' => ?_, pv, fun f hf' => by rw [e86]; exact c1 f hf', ?_⟩
  · obtain ⟨b1, b2, b3, b4⟩ := b f hf'
    refine ⟨fun x hx => ?_, fun g hg => by rw [e90]; exact b2 g hg, by rw [e86]; exact b3, fun g h1 h2 => by rw [e90]; exact b4 g h1 h2⟩
    try dsimp only
    rw [e92]
    exact b1 x hx
  · have f1 : (fun f k => σ' 92 0 (729 * f + ly d k)) = (fun f k => σ 92 0 (729 * f + ly d k)) := by funext f k; rw [e92]
    have f2 : (fun f g => σ' 90 0 (30 * f + g)) = (fun f g => σ 90 0 (30 * f + g)) := by funext f g; rw [e90]
    rw [f1, f2]
    exact c2
theorem RE_V {d m : Nat} {V V' : Nat → Nat → Int} {σ : mS} (h : RE σ d m V) (hV : ∀ f, f < m → ∀ k, k < wd d → em (V f k) (V' f k)) : RE σ d m V' := by
  obtain ⟨a, b, pv, c0, c1, c2, c3, c4, c5⟩ := h
  exact ⟨a, b, pv, c0, fun f hf k hk => em_t (c1 f hf k hk) (em_sm m (fun g hg => em_mul (em_r _) (hV g hg k hk))), c2, c3, fun g hg => inS_cg (fun f hf k hk => em_r _) (hV g hg) (c4 g hg), Ind_cg hV c5⟩
theorem em_sub1 {w a r : Int} : em ((w - a * r) % 32003) (w - a * r) := em_md _
theorem X12_less52 {N d f : Nat} {v : Int} {σ : mS} (hN : 1000 ≤ N) (hf : f < 30) (hv : 0 ≤ v ∧ v < 32003) (hw : hmW (σ 87 0) d) (hr : hmW (fun a => σ 92 0 (729 * f + a)) d) : ∃ σ', L_X12_lessens_52 N N (f : Int) v 0 σ = some σ' ∧ fr [87] σ σ' ∧ ∀ a, a < 729 → σ' 87 0 a = (σ 87 0 a - v * σ 92 0 (729 * f + a)) % 32003 := by
  obtain ⟨s1, e, h1, h2⟩ := lp_0 (L := fun g k s => L_X12_lessens_52 N g (f : Int) v k s) (I := fun k s => fr [87] σ s ∧ ∀ a, a < 729 → s 87 0 a = if a < k then (σ 87 0 a - v * σ 92 0 (729 * f + a)) % 32003 else σ 87 0 a) (P := fun s => fr [87] σ s ∧ ∀ a, a < 729 → s 87 0 a = if a < 729 then (σ 87 0 a - v * σ 92 0 (729 * f + a)) % 32003 else σ 87 0 a) 729 (fun g k s hk hI => by
      obtain ⟨h1, h2⟩ := hI
      left
      have hrk := (hr k hk).1
      have hwk := (hw k hk).1
      have hm := ml_rg hv hrk
      have x0 : mw (mw (729 * (f : Int)) + (k : Int)) = ((729 * f + k : Nat) : Int) := by rw [show mw (729 * (f : Int)) = 729 * (f : Int) from mw_id (by omega) (by omega), mw_id (by omega) (by omega)]; omega
      try dsimp only at hm hrk
      try dsimp only
      rw [L_X12_lessens_52_s, if_neg (by omega), x0, if_pos (by omega), tN, tN, h2 k hk, if_neg (by omega), h1 92 _ _ (by decide), mx_small (z := v * σ 92 0 (729 * f + k)) (by omega) (by omega), mx_small (by omega) (by omega), X12_left_eq (mx_small (by omega) (by omega)), Option.bind_some]
      try dsimp only
      rw [if_pos (by omega), mw_s (by omega)]
      refine ⟨_, rfl, fr_mup h1 (by decide), fun a ha => ?_⟩
      by_cases ea : a = k
      · subst ea; rw [mup_s, if_pos (by omega)]
      · rw [mup_k ea, h2 a ha]
        by_cases q : a < k
        · rw [if_pos q, if_pos (by omega)]
        · rw [if_neg q, if_neg (by omega)]) (fun g s hI => by
      refine ⟨s, ?_, hI⟩
      try dsimp only
      rw [L_X12_lessens_52_s, if_pos (by omega)]) (f := N) (s := σ) (by omega) ⟨fr_rfl, fun a _ => by rw [if_neg (Nat.not_lt_zero _)]⟩
  exact ⟨s1, e, h1, fun a ha => by rw [h2 a ha, if_pos ha]⟩
theorem X12_less100 {N f : Nat} {v : Int} {σ : mS} (hN : 1000 ≤ N) (hf : f < 30) (hv : 0 ≤ v ∧ v < 32003) (hw : ∀ g, g < 30 → 0 ≤ σ 91 0 g ∧ σ 91 0 g < 32003) (hr : ∀ g, g < 30 → 0 ≤ σ 90 0 (30 * f + g) ∧ σ 90 0 (30 * f + g) < 32003) : ∃ σ', L_X12_lessens_100 N N (f : Int) v 0 σ = some σ' ∧ fr [91] σ σ' ∧ ∀ g, g < 30 → σ' 91 0 g = (σ 91 0 g + v * σ 90 0 (30 * f + g)) % 32003 := by
  obtain ⟨s1, e, h1, h2⟩ := lp_0 (L := fun g k s => L_X12_lessens_100 N g (f : Int) v k s) (I := fun k s => fr [91] σ s ∧ ∀ a, a < 30 → s 91 0 a = if a < k then (σ 91 0 a + v * σ 90 0 (30 * f + a)) % 32003 else σ 91 0 a) (P := fun s => fr [91] σ s ∧ ∀ a, a < 30 → s 91 0 a = if a < 30 then (σ 91 0 a + v * σ 90 0 (30 * f + a)) % 32003 else σ 91 0 a) 30 (fun g k s hk hI => by
      obtain ⟨h1, h2⟩ := hI
      left
      have hrk := hr k hk
      have hwk := hw k hk
      have hm := ml_rg hv hrk
      have x0 : mw (mw (30 * (f : Int)) + (k : Int)) = ((30 * f + k : Nat) : Int) := by rw [show mw (30 * (f : Int)) = 30 * (f : Int) from mw_id (by omega) (by omega), mw_id (by omega) (by omega)]; omega
      try dsimp only
      rw [L_X12_lessens_100_s, if_neg (by omega), x0, if_pos (by omega), tN, tN, h2 k hk, if_neg (by omega), h1 90 _ _ (by decide), mx_small (z := v * σ 90 0 (30 * f + k)) (by omega) (by omega), mx_small (by omega) (by omega), X12_left_eq (mx_small (by omega) (by omega)), Option.bind_some]
      try dsimp only
      rw [if_pos (by omega), mw_s (by omega)]
      refine ⟨_, rfl, fr_mup h1 (by decide), fun a ha => ?_⟩
      by_cases ea : a = k
      · subst ea; rw [mup_s, if_pos (by omega)]
      · rw [mup_k ea, h2 a ha]
        by_cases q : a < k
        · rw [if_pos q, if_pos (by omega)]
        · rw [if_neg q, if_neg (by omega)]) (fun g s hI => by
      refine ⟨s, ?_, hI⟩
      try dsimp only
      rw [L_X12_lessens_100_s, if_pos (by omega)]) (f := N) (s := σ) (by omega) ⟨fr_rfl, fun a _ => by rw [if_neg (Nat.not_lt_zero _)]⟩
  exact ⟨s1, e, h1, fun a ha => by rw [h2 a ha, if_pos ha]⟩
/-- what a lessening leaves -/
def LsR (σ σ' : mS) (d m : Nat) (pv : Nat → Nat) (a : Nat → Int) : Prop := fr [87, 91] σ σ' ∧ hmW (σ' 87 0) d ∧ (∀ g, g < 30 → 0 ≤ σ' 91 0 g ∧ σ' 91 0 g < 32003) ∧ Rd (fun f k => σ 92 0 (729 * f + ly d k)) pv m (wd d) (fun k => σ 87 0 (ly d k)) (fun k => σ' 87 0 (ly d k)) a ∧ (∀ g, g < m → em (σ' 91 0 g) (sm (fun f => a f * σ 90 0 (30 * f + g)) m)) ∧ ∀ g, m ≤ g → g < 30 → σ' 91 0 g = 0
theorem X12_lessens_eq {N d m : Nat} {V : Nat → Nat → Int} {σ : mS} (hN : 1000 ≤ N) (hd : d ≤ 6) (hL : RE σ d m V) (hw : hmW (σ 87 0) d) : ∃ (σ' : mS) (pv : Nat → Nat) (a : Nat → Int) (b : Bool), f_X12_lessens N σ = some (bi b, σ') ∧ LsR σ σ' d m pv a ∧ EL V m (wd d) (fun f k => σ 92 0 (729 * f + ly d k)) (fun f g => σ 90 0 (30 * f + g)) pv ∧ (∀ f, f < m → pv f < wd d ∧ σ 86 0 f = (ly d (pv f) : Int)) ∧ (b = true ↔ ∀ k, k < wd d → σ' 87 0 (ly d k) = 0) ∧ (b = true ↔ inS V m (wd d) (fun k => σ 87 0 (ly d k))) := by
  have h28 := (wd_6 d (List.mem_range.mpr (by omega))).1
  obtain ⟨h27, hrow, pv, hpv, hEL⟩ := hL
  have hmle := EL_le hEL
  obtain ⟨hA, hB, hC', hD, hI⟩ := hEL
  -- clear the shares
  obtain ⟨s0, e0, z1, z2⟩ := lp_0 (L := fun g k s => L_X12_lessens_2 N g k s) (I := fun k s => fr [91] σ s ∧ ∀ g, g < k → s 91 0 g = 0) (P := fun s => fr [91] σ s ∧ ∀ g, g < 30 → s 91 0 g = 0) 30 (fun fu k s hk hI => by
      obtain ⟨h1, h2⟩ := hI
      left
      try dsimp only
      rw [L_X12_lessens_2_s, if_neg (by omega), if_pos (by omega), tN, mw_s (by omega)]
      refine ⟨_, rfl, fr_mup h1 (by decide), fun g hg => ?_⟩
      by_cases eg : g = k
      · subst eg; rw [mup_s]
      · rw [mup_k eg]; exact h2 g (by omega)) (fun fu s hI => by
      refine ⟨s, ?_, hI⟩
      try dsimp only
      rw [L_X12_lessens_2_s, if_pos (by omega)]) (f := N) (s := σ) (by omega) ⟨fr_rfl, fun g h => absurd h (Nat.not_lt_zero _)⟩
  obtain ⟨s1, e1, h1, h2, h3, a, h4, h5, h6⟩ := lp_0 (L := fun g k s => L_X12_lessens_23 N g k s) (I := fun j s => fr [87, 91] σ s ∧ hmW (s 87 0) d ∧ (∀ g, g < 30 → 0 ≤ s 91 0 g ∧ s 91 0 g < 32003) ∧ ∃ a : Nat → Int, Rd (fun f k => σ 92 0 (729 * f + ly d k)) pv j (wd d) (fun k => σ 87 0 (ly d k)) (fun k => s 87 0 (ly d k)) a ∧ (∀ g, g < m → em (s 91 0 g) (sm (fun f => a f * σ 90 0 (30 * f + g)) j)) ∧ ∀ g, m ≤ g → g < 30 → s 91 0 g = 0)
    (P := fun s => fr [87, 91] σ s ∧ hmW (s 87 0) d ∧ (∀ g, g < 30 → 0 ≤ s 91 0 g ∧ s 91 0 g < 32003) ∧ ∃ a : Nat → Int, Rd (fun f k => σ 92 0 (729 * f + ly d k)) pv m (wd d) (fun k => σ 87 0 (ly d k)) (fun k => s 87 0 (ly d k)) a ∧ (∀ g, g < m → em (s 91 0 g) (sm (fun f => a f * σ 90 0 (30 * f + g)) m)) ∧ ∀ g, m ≤ g → g < 30 → s 91 0 g = 0) m (fun fu j s hj hI => by
      obtain ⟨h1, h2, h3, a, h4, h5, h6⟩ := hI
      left
      obtain ⟨r92, r90, -, r90z⟩ := hrow j hj
      obtain ⟨hpj, h86⟩ := hpv j hj
      have hlj := ly_lt (show d ≤ 8 by omega) hpj
      have hpf : ∀ f, f < j → pv f < wd d ∧ em (σ 92 0 (729 * j + ly d (pv f))) 0 := fun f hf => ⟨(hB f (by omega)).1, hC' f j hf hj⟩
      have nxt : ∀ (z : Int) (w2 : Nat → Int), em z (s 87 0 (ly d (pv j))) → (∀ k, k < wd d → em (w2 k) (s 87 0 (ly d k) - z * σ 92 0 (729 * j + ly d k))) → Rd (fun f k => σ 92 0 (729 * f + ly d k)) pv (j + 1) (wd d) (fun k => σ 87 0 (ly d k)) w2 (fun f => if f = j then z else a f) := fun z w2 hz hw2 => by
        have h4' : Rd (fun f k => σ 92 0 (729 * f + ly d k)) pv j (wd d) (fun k => σ 87 0 (ly d k)) (fun k => s 87 0 (ly d k)) (fun f => if f = j then z else a f) := ⟨fun k hk => by
          have := h4.1 k hk
          rw [sm_cg (G := fun f => (if f = j then z else a f) * σ 92 0 (729 * f + ly d k)) j (fun f hf => by rw [if_neg (by omega)])] at this
          exact this, h4.2⟩
        exact Rd_s (hB j hj).2 hpj hpf h4' (by show em (if j = j then z else a j) _; rw [if_pos rfl]; exact hz) (fun k hk => by show em (w2 k) (s 87 0 (ly d k) - (if j = j then z else a j) * σ 92 0 (729 * j + ly d k)); rw [if_pos rfl]; exact hw2 k hk)
      have sma : ∀ (z : Int) (g : Nat), sm (fun f => (if f = j then z else a f) * σ 90 0 (30 * f + g)) (j + 1) = sm (fun f => a f * σ 90 0 (30 * f + g)) j + z * σ 90 0 (30 * j + g) := fun z g => by
        rw [sm_s, if_pos rfl, sm_cg (G := fun f => a f * σ 90 0 (30 * f + g)) j (fun f hf => by rw [if_neg (by omega)])]
      try dsimp only
      rw [L_X12_lessens_23_s, h1 71 _ _ (by decide), h27, if_neg (by omega), tN, h1 86 _ _ (by decide), h86, if_pos (by omega), tN, mw_s (by omega)]
      by_cases q : s 87 0 (ly d (pv j)) = 0
      · rw [if_pos q]
        refine ⟨s, rfl, h1, h2, h3, fun f => if f = j then 0 else a f, nxt 0 _ (by rw [q]; exact em_r _) (fun k hk => by rw [Int.zero_mul, Int.sub_zero]; exact em_r _), fun g hg => ?_, h6⟩
        rw [sma, Int.zero_mul, Int.add_zero]
        exact h5 g hg
      · have hfac := (h2 _ hlj).1
        rw [if_neg q]
        obtain ⟨s2, t1, t2, t3⟩ := X12_less52 (N := N) (d := d) (f := j) (v := s 87 0 (ly d (pv j))) (σ := s) hN (by omega) hfac h2 (fun x hx => by
          try dsimp only
          rw [h1 92 _ _ (by decide)]
          exact r92 x hx)
        obtain ⟨s3, u1, u2, u3⟩ := X12_less100 (N := N) (f := j) (v := s 87 0 (ly d (pv j))) (σ := s2) hN (by omega) hfac (fun g hg => by rw [t2 91 _ _ (by decide)]; exact h3 g hg) (fun g hg => by rw [t2 90 _ _ (by decide), h1 90 _ _ (by decide)]; exact r90 g hg)
        rw [t1, Option.bind_some, u1, Option.bind_some]
        have c87 : ∀ x, x < 729 → s3 87 0 x = (s 87 0 x - s 87 0 (ly d (pv j)) * σ 92 0 (729 * j + x)) % 32003 := fun x hx => by
          rw [u2 87 _ _ (by decide), t3 x hx, h1 92 _ _ (by decide)]
        have c91 : ∀ g, g < 30 → s3 91 0 g = (s 91 0 g + s 87 0 (ly d (pv j)) * σ 90 0 (30 * j + g)) % 32003 := fun g hg => by
          rw [u3 g hg, t2 91 _ _ (by decide), t2 90 _ _ (by decide), h1 90 _ _ (by decide)]
        refine ⟨s3, rfl, fr_trans h1 (fr_trans (fr_sub t2 (fun r hr => by simp at hr ⊢; omega)) (fr_sub u2 (fun r hr => by simp at hr ⊢; omega))), fun x hx => ?_, fun g hg => by rw [c91 g hg]; exact md_lt _, fun f => if f = j then s 87 0 (ly d (pv j)) else a f, nxt _ _ (em_r _) (fun k hk => by rw [c87 _ (ly_lt (by omega) hk)]; exact em_md _), fun g hg => ?_, fun g hg1 hg2 => ?_⟩
        · rw [c87 x hx]
          refine ⟨md_lt _, fun hne => ?_⟩
          have z1 := (h2 x hx).2 hne
          have z2 := (r92 x hx).2 hne
          try dsimp only at z2
          rw [z1, z2, Int.mul_zero]
          rfl
        · rw [sma, c91 g (by omega)]
          exact em_t (em_md _) (em_add (h5 g hg) (em_r _))
        · rw [c91 g hg2, h6 g hg1 hg2, r90z g (by omega) hg2, Int.mul_zero]
          rfl) (fun fu s hI => by
      refine ⟨s, ?_, hI⟩
      try dsimp only
      rw [L_X12_lessens_23_s, hI.1 71 _ _ (by decide), h27, if_pos (by omega)]) (f := N) (s := s0) (by omega) ⟨fr_sub z1 (fun r hr => by simp at hr ⊢; omega), fun x hx => by rw [z1 87 _ _ (by decide)]; exact hw x hx, fun g hg => by rw [z2 g hg]; omega, fun _ => 0, ⟨fun k hk => by
        show em (s0 87 0 (ly d k)) (σ 87 0 (ly d k) - 0)
        rw [z1 87 _ _ (by decide), Int.sub_zero]
        exact em_r _, fun f hf => absurd hf (Nat.not_lt_zero _)⟩, fun g hg => by rw [z2 g (by omega)]; exact em_r _, fun g _ hg => z2 g hg⟩
  -- is nothing left
  obtain ⟨o, e2, b, h7, h8⟩ := lp2_0 (L := fun g k x s => L_X12_lessens_154 N g x k s) (I := fun k x s => s = s1 ∧ ((x = 1 ∧ ∀ a, a < k → s1 87 0 a = 0) ∨ (x = 0 ∧ ∃ a, a < 729 ∧ s1 87 0 a ≠ 0))) (P := fun o => ∃ b : Bool, o = (bi b, s1) ∧ (b = true ↔ ∀ a, a < 729 → s1 87 0 a = 0)) 729 (fun fu k x s hk hI => by
      obtain ⟨q1, q2⟩ := hI
      subst q1
      left
      try dsimp only
      rw [L_X12_lessens_154_s, if_neg (by omega), mw_s (by omega), tN]
      rcases q2 with ⟨rfl, q2⟩ | ⟨rfl, q2⟩
      · rw [if_neg (by decide), if_pos (by omega)]
        by_cases q : s 87 0 k = 0
        · rw [if_pos q]
          refine ⟨_, _, rfl, rfl, Or.inl ⟨rfl, fun a ha => ?_⟩⟩
          by_cases ea : a = k
          · subst ea; exact q
          · exact q2 a (by omega)
        · rw [if_neg q]
          exact ⟨_, _, rfl, rfl, Or.inr ⟨rfl, k, hk, q⟩⟩
      · rw [if_pos rfl]
        exact ⟨_, _, rfl, rfl, Or.inr ⟨rfl, q2⟩⟩) (fun fu x s hI => by
      obtain ⟨q1, q2⟩ := hI
      subst q1
      refine ⟨(x, s), ?_, ?_⟩
      · try dsimp only
        rw [L_X12_lessens_154_s, if_pos (by omega)]
      · rcases q2 with ⟨rfl, q2⟩ | ⟨rfl, a, a1, a2⟩
        · exact ⟨true, rfl, fun _ => q2, fun _ => rfl⟩
        · exact ⟨false, rfl, fun z => absurd z (by decide), fun z => absurd (z a a1) a2⟩) (f := N) (a := 1) (s := s1) (by omega) ⟨rfl, Or.inl ⟨rfl, fun a h => absurd h (Nat.not_lt_zero _)⟩⟩
  have hb1 : b = true ↔ ∀ k, k < wd d → s1 87 0 (ly d k) = 0 := by
    rw [h8]
    constructor
    · intro z k hk; exact z _ (ly_lt (by omega) hk)
    · intro z x hx
      by_cases q : dg x = d
      · obtain ⟨y, y1, y2⟩ := dg_hit (show d ≤ 8 by omega) q
        rw [← y2]
        exact z y y1
      · exact (h2 x hx).2 q
  refine ⟨s1, pv, a, b, ?_, ⟨h1, h2, h3, h4, h5, h6⟩, ⟨hA, hB, hC', hD, hI⟩, hpv, hb1, ?_⟩
  · unfold f_X12_lessens
    try dsimp only at e0 e1 e2
    rw [e0, Option.bind_some, e1, Option.bind_some, e2, h7, Option.bind_some]
    try dsimp only
    rw [if_pos (by cases b <;> simp [bi])]
  · rw [hb1, EL_dec ⟨hA, hB, hC', hD, hI⟩ h4]
    constructor
    · intro z k hk
      rw [z k hk]
      exact em_r _
    · intro z k hk
      exact (em_0 (h2 _ (ly_lt (by omega) hk)).1).mp (z k hk)
