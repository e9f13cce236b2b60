/-! the class's classes, and how many are of each -/
def hit (E : Nat → tn) (n g f0 k : Nat) : Bool := (List.range f0).any fun f => gcj E n f g == k
theorem hit_s (E : Nat → tn) (n g f0 k : Nat) : hit E n g (f0 + 1) k = (hit E n g f0 k || gcj E n f0 g == k) := by
  unfold hit
  rw [List.range_succ, List.any_append]
  simp
theorem hit_ne {E : Nat → tn} {n g f0 k : Nat} (h : k ≠ gcj E n f0 g) : hit E n g (f0 + 1) k = hit E n g f0 k := by
  rw [hit_s, show (gcj E n f0 g == k) = false from by simpa using fun q => h q.symm, Bool.or_false]
theorem hit_0 (E : Nat → tn) (n g k : Nat) : hit E n g 0 k = false := rfl
theorem hit_n (E : Nat → tn) (n g k : Nat) : hit E n g n k = cjb E n g k := rfl
theorem hit_cjb {E : Nat → tn} {n g f0 k : Nat} (h : f0 ≤ n) (hk : hit E n g f0 k = true) : cjb E n g k = true := by
  unfold hit at hk
  rw [List.any_eq_true] at hk
  obtain ⟨f, h1, h2⟩ := hk
  have := List.mem_range.mp h1
  exact cjb_ok.mpr ⟨f, by omega, eq_of_beq h2⟩
theorem X1_fillClass_eq {N : Nat} {E : Nat → tn} {n g c : Nat} {σ : mS} (hN : 100 ≤ N) (hg : g < n) (H : CU σ E n) (hc : σ 5 0 2 = (c : Int)) (hc48 : c < 48) (hnew : ∀ k, cjb E n g k = true → σ 19 0 k = -1) :
    ∃ σ', f_X1_fillClass N (g : Int) σ = some σ' ∧ fr [5, 19, 20, 21] σ σ' ∧ (∀ k, k ≠ 2 → σ' 5 0 k = σ 5 0 k) ∧ σ' 5 0 2 = ((c + 1 : Nat) : Int) ∧ (∀ k, σ' 19 0 k = if cjb E n g k = true then (c : Int) else σ 19 0 k) ∧ (∀ k, σ' 20 0 k = if k = c then (g : Int) else σ 20 0 k) ∧ ∀ k, σ' 21 0 k = if k = c then (ct (cjb E n g) n : Int) else σ 21 0 k := by
  have h48 := CT_48 H.1
  have hG := H.1.2.1
  obtain ⟨⟨mem, s1⟩, e, hm, hf, hk⟩ := lp_0 (L := fun f k (s : Int × mS) => L_X1_fillClass_4 N f (g : Int) s.1 k s.2) (I := fun f0 s => s.1 = (ct (hit E n g f0) n : Int) ∧ fr [19] σ s.2 ∧ ∀ k, s.2 19 0 k = if hit E n g f0 k = true then (c : Int) else σ 19 0 k)
    (P := fun s => s.1 = (ct (hit E n g n) n : Int) ∧ fr [19] σ s.2 ∧ ∀ k, s.2 19 0 k = if hit E n g n k = true then (c : Int) else σ 19 0 k) n (fun f f0 s hf0 hI => by
      obtain ⟨mem, s⟩ := s
      obtain ⟨hm, hf, hk⟩ := hI
      try dsimp only at hm hf hk ⊢
      have HU := CU_fr H hf (by decide) (by decide) (by decide)
      have hn := HU.1.1
      have a1 := (gm_ok hG hf0 hg).1
      have a2 := (gv_ok hG hf0).1
      have a3 := gcj_lt hG hf0 hg
      have t1 : s 16 f0 g = (gm E n f0 g : Int) := HU.1.2.2 f0 hf0 g hg
      have t2 : s 17 0 f0 = (gv E n f0 : Int) := HU.2 f0 hf0
      have t3 : s 16 (gm E n f0 g) (gv E n f0) = (gcj E n f0 g : Int) := HU.1.2.2 _ a1 _ a2
      have hcj : cjb E n g (gcj E n f0 g) = true := cjb_ok.mpr ⟨f0, hf0, rfl⟩
      have hc2 : s 5 0 2 = (c : Int) := by rw [hf 5 0 2 (by decide)]; exact hc
      have hctle := ct_le (hit E n g f0) n
      left
      rw [L_X1_fillClass_4_s, if_neg (by omega), tN, tN, t1, t2, tN, tN, t3, tN, if_pos (by omega), mw_s (by omega), hm, mw_s (by omega), hc2]
      by_cases e : s 19 0 (gcj E n f0 g) = -1
      · have hh : hit E n g f0 (gcj E n f0 g) = false := by
          cases q : hit E n g f0 (gcj E n f0 g) with
          | false => rfl
          | true => rw [hk, q] at e; simp at e
        rw [if_pos e, if_pos (by omega)]
        refine ⟨(((ct (hit E n g f0) n + 1 : Nat) : Int), mup s 19 0 (gcj E n f0 g) (c : Int)), rfl, ?_, fr_mup hf (by decide), fun k => ?_⟩
        · try dsimp only
          rw [ct_ins (p := hit E n g f0) (q := hit E n g (f0 + 1)) hh (by rw [hit_s]; simp) (fun k hk => hit_ne hk) n a3]
        · show mup s 19 0 (gcj E n f0 g) (c : Int) 19 0 k = _
          by_cases ek : k = gcj E n f0 g
          · subst ek
            rw [mup_s, hit_s]
            simp
          · rw [mup_k ek, hk k, hit_ne ek]
      · have hh : hit E n g f0 (gcj E n f0 g) = true := by
          cases q : hit E n g f0 (gcj E n f0 g) with
          | true => rfl
          | false => exact absurd (by rw [hk, q]; simpa using hnew _ hcj) e
        rw [if_neg e]
        have hsame : ∀ k, hit E n g (f0 + 1) k = hit E n g f0 k := fun k => by
          by_cases ek : k = gcj E n f0 g
          · subst ek; rw [hit_s, hh]; rfl
          · exact hit_ne ek
        refine ⟨(_, s), rfl, ?_, hf, fun k => ?_⟩
        · try dsimp only
          rw [ct_cg n (fun k _ => hsame k)]
        · try dsimp only
          rw [hsame k]; exact hk k) (fun f s hI => by
      obtain ⟨mem, s⟩ := s
      have hf := hI.2.1
      try dsimp only at hf
      have hn : s 5 0 0 = (n : Int) := by rw [hf 5 0 0 (by decide)]; exact H.1.1
      refine ⟨(mem, s), ?_, hI⟩
      try dsimp only
      rw [L_X1_fillClass_4_s, if_pos (by omega)]) (f := N) (s := (0, σ)) (by omega) ⟨by
        try dsimp only
        rw [show ct (hit E n g 0) n = 0 from by
          have : ∀ m, ct (hit E n g 0) m = 0 := fun m => by induction m with
            | zero => rfl
            | succ m ih => rw [ct_s, ih]; rfl
          exact this n]
        rfl, fr_rfl, fun k => by rw [hit_0]; rfl⟩
  try dsimp only at e hm hf hk
  unfold f_X1_fillClass
  rw [e, Option.bind_some]
  try dsimp only
  have hc2 : s1 5 0 2 = (c : Int) := by rw [hf 5 0 2 (by decide)]; exact hc
  rw [hc2, if_pos (by omega), tN, mw_s (by omega)]
  refine ⟨_, rfl, fr_mup (fr_mup (fr_mup (fr_sub hf (fun r hr => by simp at hr ⊢; omega)) (by decide)) (by decide)) (by decide), fun k hk' => ?_, mup_s _ _ _ _ _, fun k => ?_, fun k => ?_, fun k => ?_⟩
  · rw [mup_k hk', mup_r (by decide), mup_r (by decide), hf 5 0 k (by decide)]
  · rw [mup_r (by decide), mup_r (by decide), mup_r (by decide)]; exact hk k
  · rw [mup_r (by decide), mup_r (by decide)]
    by_cases ek : k = c
    · subst ek; rw [mup_s, if_pos rfl]
    · rw [mup_k ek, if_neg ek, hf 20 0 k (by decide)]
  · rw [mup_r (by decide)]
    by_cases ek : k = c
    · subst ek; rw [mup_s, if_pos rfl, hm]; rfl
    · rw [mup_k ek, mup_r (by decide), if_neg ek, hf 21 0 k (by decide)]
