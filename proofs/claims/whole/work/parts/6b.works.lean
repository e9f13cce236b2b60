/-! the reference's products of FEW -/
theorem pvL_snoc (E : Nat → tn) (n : Nat) (L : List (Nat × Nat)) (l : List Nat) (i c : Nat) : pvL E n L (l ++ [i]) c = cv (pvL E n L l) (fwP E n L i) c := by
  have h1 : ∀ l c, pvL E n L l c = l.foldl (fun A i => cv A (fwP E n L i)) oneP c := fun l c => by rw [pvL_l, cv_1l]
  rw [h1, List.foldl_append]
  show cv (l.foldl (fun A i => cv A (fwP E n L i)) oneP) (fwP E n L i) c = _
  exact cv_cg (fun a => (h1 l a).symm) (fun _ => rfl) c
theorem lsd_app (L : List (Nat × Nat)) : ∀ l l', lsd L (l ++ l') = lsd L l + lsd L l'
  | [], l' => by show lsd L l' = 0 + lsd L l'; omega
  | i :: l, l' => by
    show fwd L i + lsd L (l ++ l') = fwd L i + lsd L l + lsd L l'
    rw [lsd_app L l l']
    omega
def ccl (u : Nat → Nat) : Nat → Nat → List Nat
  | 0, _ => []
  | m + 1, i => List.replicate (u i) i ++ ccl u m (i + 1)
theorem ccl_s (u : Nat → Nat) (m i : Nat) : ccl u (m + 1) i = List.replicate (u i) i ++ ccl u m (i + 1) := rfl
theorem ccl_cg {u u' : Nat → Nat} : ∀ m i, (∀ j, i ≤ j → u j = u' j) → ccl u m i = ccl u' m i
  | 0, _, _ => rfl
  | m + 1, i, h => by rw [ccl_s, ccl_s, h i (Nat.le_refl _), ccl_cg m (i + 1) (fun j hj => h j (by omega))]
theorem enl_ccl {L : List (Nat × Nat)} (hL : LOK L) : ∀ m i d, i + m = L.length → ∀ l ∈ enl (fwd L) L.length i d, l = ccl (fun j => l.count j) m i := by
  intro m
  induction m with
  | zero =>
    intro i d hi l hl
    rw [enl_n (show L.length ≤ i by omega)] at hl
    by_cases e : d = 0
    · rw [if_pos e] at hl
      have : l = [] := by simpa using hl
      subst this
      rfl
    · rw [if_neg e] at hl
      exact absurd hl (by simp)
  | succ m ih =>
    intro i d hi l hl
    have key : ∀ c, ∀ l ∈ tlg (fwd L) L.length i d c, l = ccl (fun j => l.count j) (m + 1) i := by
      intro c
      induction c with
      | zero =>
        intro l hl
        have hge := (enl_mem hL (i + 1) d l hl).2
        have h2 := ih (i + 1) d (by omega) l hl
        rw [ccl_s]
        show l = List.replicate (l.count i) i ++ _
        rw [List.count_eq_zero_of_not_mem (fun z => by have := hge i z; omega)]
        exact h2
      | succ c ihc =>
        intro l hl
        rw [tlg_s] at hl
        rcases List.mem_append.mp hl with q | q
        · obtain ⟨l', k1, k2⟩ := List.mem_map.mp q
          subst k2
          have hge := (enl_mem hL (i + 1) _ l' k1).2
          have h2 := ih (i + 1) _ (by omega) l' k1
          rw [ccl_s]
          have hci : (List.replicate (c + 1) i ++ l').count i = c + 1 := by
            rw [List.count_append, List.count_replicate_self, List.count_eq_zero_of_not_mem (fun z => by have := hge i z; omega)]
          have hcj : ∀ j, i + 1 ≤ j → (List.replicate (c + 1) i ++ l').count j = l'.count j := fun j hj => by
            rw [List.count_append, List.count_replicate, if_neg (by simpa using fun z => by omega), Nat.zero_add]
          show _ = List.replicate ((List.replicate (c + 1) i ++ l').count i) i ++ ccl (fun j => (List.replicate (c + 1) i ++ l').count j) m (i + 1)
          rw [hci, ccl_cg m (i + 1) (u' := fun j => l'.count j) hcj, ← h2]
        · exact ihc l q
    rw [tlg_enl (fun i hi => (hL i hi).1) (show i < L.length by omega)] at hl
    exact key _ l hl
/-- the reference bears the FEW -/
def RFw (σ : mS) (E : Nat → tn) (n : Nat) (L : List (Nat × Nat)) : Prop := RFd σ L ∧ ∀ i, i < L.length → ∀ a, a < 729 → σ 84 0 (729 * i + a) = fwP E n L i a
theorem RFw_fq {σ σ' : mS} {E : Nat → tn} {n : Nat} {L : List (Nat × Nat)} {R K : List Nat} (h : RFw σ E n L) (hf : fq R K σ σ') (h83 : 83 ∉ R) (h84 : 84 ∉ R) (h19 : 19 ∉ K) : RFw σ' E n L := ⟨RFd_fq h.1 hf h83 h19, fun i hi a ha => by rw [hf.1 84 _ _ h84 (by decide)]; exact h.2 i hi a ha⟩
/-- row 9 bears A -/
def RO (σ : mS) (A : Nat → Int) : Prop := ∀ a, a < 729 → σ 81 0 (6561 + a) = A a % 32003
def fT (σ σ' : mS) : Prop := fr [81] σ σ' ∧ ∀ c, c < 5832 → σ' 81 0 c = σ 81 0 c
theorem fT_rfl {σ : mS} : fT σ σ := ⟨fr_rfl, fun _ _ => rfl⟩
theorem fT_trans {a b c : mS} (h1 : fT a b) (h2 : fT b c) : fT a c := ⟨fr_trans h1.1 h2.1, fun k hk => (h2.2 k hk).trans (h1.2 k hk)⟩
theorem mri_cv {A R : Nat → Int} {c : Nat} (hc : c < 729) : sm (fun a => mri R (A a) a c 729) 729 = cv A (PR R) c := by
  unfold cv
  rw [sm_to (F := fun a => mri R (A a) a c 729) (m := c + 1) 729 (by omega) (fun a h1 h2 => sm_z (fun b _ => if_neg (by omega)))]
  refine sm_cg (c + 1) (fun a ha => ?_)
  unfold mri
  rw [sm_one (x := c - a) 729 (by omega) (fun b _ hne => if_neg (by omega)), if_pos (by omega)]
theorem X12_tF_in {N i a : Nat} {z : Int} {R S : Nat → Int} {σ : mS} (hN : 1000 ≤ N) (hi : i < 40) (ha : a < 729) (hz : 0 ≤ z ∧ z < 32003) (hnr : nm R) (hF : ∀ b, b < 729 → σ 84 0 (729 * i + b) = PR R b) (hS : ∀ c, c < 729 → σ 81 0 (5832 + c) = S c % 32003) (hd : z ≠ 0 → dg a ≤ 8 ∧ ∀ b, b < 729 → PR R b ≠ 0 → dg a + dg b ≤ 8) :
    ∃ σ', L_X12_timesFew_29 N N (i : Int) (a : Int) z 0 σ = some σ' ∧ fr [81] σ σ' ∧ (∀ c, c < 5832 ∨ 6561 ≤ c → σ' 81 0 c = σ 81 0 c) ∧ ∀ c, c < 729 → σ' 81 0 (5832 + c) = (S c + mri R z a c 729) % 32003 := by
  by_cases e0 : z = 0
  · obtain ⟨K, hK⟩ : ∃ K, N = K + 1 := ⟨N - 1, by omega⟩
    subst e0
    refine ⟨σ, ?_, fr_rfl, fun _ _ => rfl, fun c hc => ?_⟩
    · rw [show L_X12_timesFew_29 N N (i : Int) (a : Int) 0 0 σ = L_X12_timesFew_29 N (K + 1) (i : Int) (a : Int) 0 0 σ from by rw [← hK], L_X12_timesFew_29_s, if_neg (by decide), if_pos rfl]
    · rw [hS c hc, show mri R 0 a c 729 = 0 from sm_z (fun b _ => by simp), Int.add_zero]
  · obtain ⟨hda, hd⟩ := hd e0
    obtain ⟨s1, e, h⟩ := lp_0 (L := fun g b s => L_X12_timesFew_29 N g (i : Int) (a : Int) z b s) (I := fun b s => fr [81] σ s ∧ (∀ c, c < 5832 ∨ 6561 ≤ c → s 81 0 c = σ 81 0 c) ∧ ∀ c, c < 729 → s 81 0 (5832 + c) = (S c + mri R z a c b) % 32003)
      (P := fun s => fr [81] σ s ∧ (∀ c, c < 5832 ∨ 6561 ≤ c → s 81 0 c = σ 81 0 c) ∧ ∀ c, c < 729 → s 81 0 (5832 + c) = (S c + mri R z a c 729) % 32003) 729 (fun g b s hb hI => by
        obtain ⟨h1, h2, h3⟩ := hI
        left
        have hrow : s 84 0 (729 * i + b) = PR R b := by rw [h1 84 _ _ (by decide)]; exact hF b hb
        have hrg := PR_rg hnr hb
        have a1 := ml_rg hz hrg
        have x0 : mw (mw (729 * (i : Int)) + (b : Int)) = ((729 * i + b : Nat) : Int) := by rw [show mw (729 * (i : Int)) = 729 * (i : Int) from mw_id (by omega) (by omega), mw_id (by omega) (by omega)]; omega
        have x1 : mw (mw ((5832 : Int) + (a : Int)) + (b : Int)) = ((5832 + (a + b) : Nat) : Int) := by
          rw [mw_id (z := (5832 : Int) + (a : Int)) (by omega) (by omega), mw_id (by omega) (by omega)]; omega
        try dsimp only
        rw [L_X12_timesFew_29_s, if_neg (by omega), if_neg e0, x0, if_pos (by omega), tN, hrow, mw_s (by omega), x1]
        by_cases e1 : PR R b = 0
        · rw [if_pos e1]
          refine ⟨_, rfl, h1, h2, fun c hc => ?_⟩
          rw [h3 c hc]
          show _ = (S c + (mri R z a c b + (if a + b = c then z * PR R b else 0))) % 32003
          rw [e1]; simp
        · have hdd := hd b hb e1
          obtain ⟨w1, w2⟩ := add_ax ha hb hda (PR_nz e1).1 hdd
          have hm := md_lt (S (a + b) + mri R z a (a + b) b)
          rw [if_neg e1, if_pos (by omega), tN, h3 _ w1, mx_small (z := z * PR R b) (by omega) (by omega), mx_small (by omega) (by omega), X12_left_eq (mx_small (by omega) (by omega)), Option.bind_some]
          try dsimp only
          rw [if_pos (by omega)]
          refine ⟨_, rfl, fr_mup h1 (by decide), fun c hc => by rw [mup_k (by omega)]; exact h2 c hc, fun c hc => ?_⟩
          show _ = (S c + (mri R z a c b + (if a + b = c then z * PR R b else 0))) % 32003
          by_cases ec : c = a + b
          · subst ec
            rw [mup_s, if_pos rfl, Int.emod_add_emod, Int.add_assoc]
          · rw [mup_k (by omega), if_neg (by omega), Int.add_zero, h3 c hc]) (fun g s hI => by
        refine ⟨s, ?_, hI⟩
        try dsimp only
        rw [L_X12_timesFew_29_s, if_pos (by omega)]) (f := N) (s := σ) (by omega) ⟨fr_rfl, fun _ _ => rfl, fun c hc => by rw [hS c hc]; show S c % 32003 = (S c + 0) % 32003; rw [Int.add_zero]⟩
    exact ⟨s1, e, h⟩
theorem X12_tFew_eq {N n i e : Nat} {E : Nat → tn} {L : List (Nat × Nat)} {A : Nat → Int} {σ : mS} (hN : 1000 ≤ N) (hG : GP E n) (hL : LOK L) (h6 : L.length ≤ 6) (hi : i < L.length) (hF : RFw σ E n L) (hA : hom e A) (he : e + fwd L i ≤ 8) (hO : RO σ A) : ∃ s1 σ', f_X12_timesFew N (i : Int) σ = some s1 ∧ f_X12_copy N 8 9 s1 = some σ' ∧ fT σ σ' ∧ RO σ' (cv A (fwP E n L i)) := by
  obtain ⟨s0, c1, c2, c3, c4⟩ := X12_clear_eq (N := N) (p := 8) (σ := σ) hN (by decide)
  have hnr : nm (meanM E n (L.getD i (0, 0)).2) := fun x _ => meanM_rg _ _ _ _
  have hFh := fwP_hom hG hL hi
  obtain ⟨s1, q, h1, h2, h3⟩ := lp_0 (L := fun g a s => L_X12_timesFew_8 N g (i : Int) a s) (I := fun a s => fr [81] s0 s ∧ (∀ c, c < 5832 ∨ 6561 ≤ c → s 81 0 c = s0 81 0 c) ∧ ∀ c, c < 729 → s 81 0 (5832 + c) = sm (fun a => mri (meanM E n (L.getD i (0, 0)).2) (A a % 32003) a c 729) a % 32003)
    (P := fun s => fr [81] s0 s ∧ (∀ c, c < 5832 ∨ 6561 ≤ c → s 81 0 c = s0 81 0 c) ∧ ∀ c, c < 729 → s 81 0 (5832 + c) = sm (fun a => mri (meanM E n (L.getD i (0, 0)).2) (A a % 32003) a c 729) 729 % 32003) 729 (fun g a s ha hI => by
      obtain ⟨h1, h2, h3⟩ := hI
      left
      have hrow : s 81 0 (6561 + a) = A a % 32003 := by rw [h2 _ (by omega), c3 _ (by omega)]; exact hO a ha
      obtain ⟨s2, r1, r2, r3, r4⟩ := X12_tF_in (N := N) (i := i) (a := a) (z := A a % 32003) (R := meanM E n (L.getD i (0, 0)).2) (S := fun c => sm (fun a => mri (meanM E n (L.getD i (0, 0)).2) (A a % 32003) a c 729) a) (σ := s) hN (by omega) ha (md_lt _) hnr (fun b hb => by rw [h1 84 _ _ (by decide), c2 84 _ _ (by decide)]; exact hF.2 i hi b hb) h3 (fun hz => by
        have hde : dg a = e := by
          by_cases z : dg a = e
          · exact z
          · exfalso; apply hz; rw [hA a z]; rfl
        refine ⟨by omega, fun b hb hnb => ?_⟩
        have hdb : dg b = fwd L i := by
          by_cases z : dg b = fwd L i
          · exact z
          · exact absurd (hFh b z) hnb
        omega)
      have x1 : mw ((6561 : Int) + (a : Int)) = ((6561 + a : Nat) : Int) := by rw [mw_id (by omega) (by omega)]; omega
      try dsimp only
      rw [L_X12_timesFew_8_s, if_neg (by omega), x1, if_pos (by omega), tN, hrow, r1, Option.bind_some, mw_s (by omega)]
      exact ⟨s2, rfl, fr_trans h1 r2, fun c hc => (r3 c hc).trans (h2 c hc), r4⟩) (fun g s hI => by
      refine ⟨s, ?_, hI⟩
      try dsimp only
      rw [L_X12_timesFew_8_s, if_pos (by omega)]) (f := N) (s := s0) (by omega) ⟨fr_rfl, fun _ _ => rfl, fun c hc => by
        have := c4 c hc
        rw [show 729 * 8 + c = 5832 + c from by omega] at this
        rw [this]; rfl⟩
  obtain ⟨s2, d1, d2, d3, d4⟩ := X12_copy_eq (N := N) (p := 8) (q := 9) (σ := s1) hN (by decide) (by decide) (by decide)
  refine ⟨s1, s2, ?_, d1, ⟨fr_trans c2 (fr_trans h1 d2), fun c hc => by rw [d3 c (by omega), h2 c (by omega), c3 c (by omega)]⟩, fun a ha => ?_⟩
  · unfold f_X12_timesFew
    try dsimp only at q
    rw [show f_X12_clear N 8 σ = some s0 from c1, Option.bind_some, q]
    rfl
  · have := d4 a ha
    rw [show 729 * 9 + a = 6561 + a from by omega] at this
    rw [this]
    show s1 81 0 (729 * 8 + a) = _
    rw [show 729 * 8 + a = 5832 + a from by omega, h3 a ha]
    have h5 : em (sm (fun a' => mri (meanM E n (L.getD i (0, 0)).2) (A a' % 32003) a' a 729) 729) (sm (fun a' => mri (meanM E n (L.getD i (0, 0)).2) (A a') a' a 729) 729) := em_sm 729 (fun a' _ => em_sm 729 (fun b _ => by
      try dsimp only
      split
      · exact em_mul (em_md _) (em_r _)
      · exact em_r _))
    rw [mri_cv (A := A) ha] at h5
    unfold em at h5
    unfold fwP
    rw [h5]
theorem X12_works_eq {N n d q : Nat} {E : Nat → tn} {L : List (Nat × Nat)} {σ : mS} (hN : 1000 ≤ N) (hG : GP E n) (hL : LOK L) (hB : BD L) (hd : d ≤ 6) (hF : RFw σ E n L) (hO : ROf σ L d) (hq : q < (prL L d).length) : ∃ σ', f_X12_works N (q : Int) σ = some σ' ∧ fT σ σ' ∧ RO σ' (pvL E n L ((prL L d).getD q [])) := by
  have g56 := gmo_le d (List.mem_range.mpr (by omega))
  have hlen := hB.2 d hd
  have h6 := hB.1
  obtain ⟨m1, m2⟩ := prL_mem hL hq
  have hm : (prL L d).getD q [] ∈ prL L d := by
    rw [List.getD_eq_getElem?_getD, List.getElem?_eq_getElem hq]
    exact List.getElem_mem hq
  have hccl := enl_ccl hL L.length 0 d (by omega) _ hm
  have hoq := hO.2 q hq
  generalize hl : (prL L d).getD q [] = l at m1 m2 hccl hoq
  obtain ⟨s0, c1, c2, c3, c4⟩ := X12_clear_eq (N := N) (p := 9) (σ := σ) hN (by decide)
  generalize hs0 : mup s0 81 0 6561 1 = s1
  have f1 : fT σ s1 := by
    subst hs0
    exact ⟨fr_mup c2 (by decide), fun c hc => by rw [mup_k (by omega)]; exact c3 c (by omega)⟩
  have o1 : RO s1 (pvL E n L []) := fun a ha => by
    subst hs0
    show _ = oneP a % 32003
    unfold oneP
    by_cases e : a = 0
    · subst e; rw [mup_s, if_pos rfl]; rfl
    · rw [mup_k (by omega), if_neg e]
      have := c4 a ha
      rw [show 729 * 9 + a = 6561 + a from by omega] at this
      rw [this]; rfl
  -- how often FEW i comes
  have inn : ∀ (i : Nat) (s : mS) (pre : List Nat), i < L.length → fT σ s → RO s (pvL E n L pre) → (∀ j, j ∈ pre → j < L.length) → lsd L (pre ++ List.replicate (l.count i) i) ≤ 6 → ∃ s', L_X12_works_27 N N (q : Int) (i : Int) 0 s = some s' ∧ fT σ s' ∧ RO s' (pvL E n L (pre ++ List.replicate (l.count i) i)) := by
    intro i s pre hi hf hr hp hls
    have hci : l.count i ≤ 6 := by
      rw [lsd_app] at hls
      have : ∀ k, lsd L (List.replicate k i) = k * fwd L i := by
        intro k
        induction k with
        | zero => show 0 = 0 * fwd L i; omega
        | succ k ih =>
          show fwd L i + lsd L (List.replicate k i) = (k + 1) * fwd L i
          rw [ih, Nat.succ_mul]
          omega
      rw [this] at hls
      have h1 := (hL i hi).1
      have : l.count i * 1 ≤ l.count i * fwd L i := Nat.mul_le_mul_left _ h1
      omega
    have x1 : mw (mw (40 * (q : Int)) + (i : Int)) = ((40 * q + i : Nat) : Int) := by rw [show mw (40 * (q : Int)) = 40 * (q : Int) from mw_id (by omega) (by omega), mw_id (by omega) (by omega)]; omega
    obtain ⟨s', e, h1, h2⟩ := lp_0 (L := fun g t s => L_X12_works_27 N g (q : Int) (i : Int) t s) (I := fun t s => fT σ s ∧ RO s (pvL E n L (pre ++ List.replicate t i))) (P := fun s => fT σ s ∧ RO s (pvL E n L (pre ++ List.replicate (l.count i) i))) (l.count i) (fun g t s ht hI => by
        obtain ⟨h1, h2⟩ := hI
        left
        have hFs := RFw_fq hF (fq_of h1.1 (by decide)) (by decide) (by decide) (by simp)
        have hlt : lsd L (pre ++ List.replicate t i) + fwd L i ≤ 6 := by
          have e1 : List.replicate (l.count i) i = List.replicate (t + 1) i ++ List.replicate (l.count i - (t + 1)) i := by rw [List.replicate_append_replicate]; congr 1; omega
          rw [e1, lsd_app, lsd_app, List.replicate_succ'] at hls
          rw [lsd_app] at hls ⊢
          have : lsd L [i] = fwd L i := by show fwd L i + 0 = _; omega
          omega
        have hmem : ∀ j, j ∈ pre ++ List.replicate t i → j < L.length := fun j hj => by
          rcases List.mem_append.mp hj with z | z
          · exact hp j z
          · rw [List.eq_of_mem_replicate z]; exact hi
        obtain ⟨s2, s3, r1, r2, r3, r4⟩ := X12_tFew_eq (N := N) (σ := s) hN hG hL h6 hi hFs (pvL_hom hG hL _ hmem (by omega)) (by omega) h2
        try dsimp only
        rw [L_X12_works_27_s, x1, if_pos (by omega), tN, h1.1 85 _ _ (by decide), hoq i (by omega), if_neg (by omega), r1, Option.bind_some, r2, Option.bind_some, mw_s (by omega)]
        refine ⟨s3, rfl, fT_trans h1 r3, fun a ha => ?_⟩
        rw [r4 a ha, List.replicate_succ', ← List.append_assoc, pvL_snoc]) (fun g s hI => by
        refine ⟨s, ?_, hI⟩
        try dsimp only
        rw [L_X12_works_27_s, x1, if_pos (by omega), tN, hI.1.1 85 _ _ (by decide), hoq i (by omega), if_pos (by omega)]) (f := N) (s := s) (by omega) ⟨hf, by rw [List.replicate_zero, List.append_nil]; exact hr⟩
    exact ⟨s', e, h1, h2⟩
  have out : ∀ (m i fu : Nat) (s : mS) (pre : List Nat), i + m = L.length → m < fu → fT σ s → RO s (pvL E n L pre) → (∀ j, j ∈ pre → j < L.length) → pre ++ ccl (fun j => l.count j) m i = l → ∃ s', L_X12_works_17 N fu (q : Int) (i : Int) s = some s' ∧ fT σ s' ∧ RO s' (pvL E n L l) := by
    intro m
    induction m with
    | zero =>
      intro i fu s pre hi hfu hf hr hp hpre
      obtain ⟨fu, rfl⟩ : ∃ f', fu = f' + 1 := ⟨fu - 1, by omega⟩
      have : pre = l := by rw [← hpre]; show pre = pre ++ []; rw [List.append_nil]
      subst this
      rw [L_X12_works_17_s, hf.1 71 _ _ (by decide), hF.1.1, if_pos (by omega)]
      exact ⟨s, rfl, hf, hr⟩
    | succ m ih =>
      intro i fu s pre hi hfu hf hr hp hpre
      obtain ⟨fu, rfl⟩ : ∃ f', fu = f' + 1 := ⟨fu - 1, by omega⟩
      rw [ccl_s, ← List.append_assoc] at hpre
      have hls : lsd L (pre ++ List.replicate (l.count i) i) ≤ 6 := by
        have := congrArg (lsd L) hpre
        rw [lsd_app] at this
        omega
      obtain ⟨s2, r1, r2, r3⟩ := inn i s pre (by omega) hf hr hp hls
      rw [L_X12_works_17_s, hf.1 71 _ _ (by decide), hF.1.1, if_neg (by omega), r1, Option.bind_some, mw_s (by omega)]
      exact ih (i + 1) fu s2 (pre ++ List.replicate (l.count i) i) (by omega) (by omega) r2 r3 (fun j hj => by
        rcases List.mem_append.mp hj with z | z
        · exact hp j z
        · rw [List.eq_of_mem_replicate z]; omega) hpre
  obtain ⟨s2, e, r1, r2⟩ := out L.length 0 N s1 [] (by omega) (by omega) f1 o1 (fun j hj => absurd hj (by simp)) (by rw [List.nil_append]; exact hccl.symm)
  refine ⟨s2, ?_, r1, r2⟩
  unfold f_X12_works
  rw [show f_X12_clear N 9 σ = some s0 from c1, Option.bind_some, hs0, show L_X12_works_17 N N (q : Int) 0 s1 = some s2 from e]
  rfl
