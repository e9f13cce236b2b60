/-- the class bears the classes of the first g elements -/
def CC (σ : mS) (E : Nat → tn) (n g : Nat) : Prop := σ 5 0 2 = ((clo E n g).2 : Int) ∧ (∀ k, k < n → σ 19 0 k = (clo E n g).1 k) ∧ ∀ c, c < (clo E n g).2 → ∃ l : Nat, l < n ∧ σ 20 0 c = (l : Int) ∧ (∀ k, k < n → ((clo E n g).1 k = (c : Int) ↔ cjb E n l k = true)) ∧ σ 21 0 c = (ct (cjb E n l) n : Int)
theorem X1_fillClasses_eq {N : Nat} {E : Nat → tn} {n : Nat} {σ : mS} (hN : 1000 ≤ N) (H : CU σ E n) :
    ∃ σ', f_X1_fillClasses N σ = some σ' ∧ fr [5, 19, 20, 21] σ σ' ∧ (∀ k, k ≠ 2 → σ' 5 0 k = σ 5 0 k) ∧ CC σ' E n n := by
  have h48 := CT_48 H.1
  have hG := H.1.2.1
  obtain ⟨s1, e, h1, h2, h3⟩ := lp_0 (L := fun f k (s : mS) => L_X1_fillClasses_15 N f k s) (I := fun g s => fr [5, 19, 20, 21] σ s ∧ (∀ k, k ≠ 2 → s 5 0 k = σ 5 0 k) ∧ CC s E n g)
    (P := fun s => fr [5, 19, 20, 21] σ s ∧ (∀ k, k ≠ 2 → s 5 0 k = σ 5 0 k) ∧ CC s E n n) n (fun f g s hg hI => by
      obtain ⟨h1, h2, h3, h4, h5⟩ := hI
      have hn : s 5 0 0 = (n : Int) := by rw [h2 0 (by decide)]; exact H.1.1
      have HU : CU s E n := ⟨⟨hn, hG, fun a ha b hb => by rw [h1 16 a b (by decide)]; exact H.1.2.2 a ha b hb⟩, fun a ha => by rw [h1 17 0 a (by decide)]; exact H.2 a ha⟩
      have hle := clo_le E n g
      left
      try dsimp only
      rw [L_X1_fillClasses_15_s, if_neg (by omega), if_pos (by omega), tN, h4 g hg, mw_s (by omega)]
      by_cases e : (clo E n g).1 g = -1
      · rw [if_pos e]
        obtain ⟨s2, q1, q2, q3, q4, q5, q6, q7⟩ := X1_fillClass_eq (N := N) (by omega) hg HU h3 (by omega) (fun k hk => by
          obtain ⟨f', p1, p2⟩ := cjb_ok.mp hk
          have hkn : k < n := by rw [← p2]; exact gcj_lt hG p1 hg
          rw [h4 k hkn]
          exact clo_new hG hg e hk)
        rw [q1, Option.bind_some]
        have e2 : clo E n (g + 1) = (fun k => if cjb E n g k = true then ((clo E n g).2 : Int) else (clo E n g).1 k, (clo E n g).2 + 1) := by rw [clo_s, if_pos e]
        refine ⟨s2, rfl, fr_trans h1 q2, fun k hk => (q3 k hk).trans (h2 k hk), ?_, fun k hk => ?_, fun c hc => ?_⟩
        · rw [e2]; exact q4
        · rw [e2, q5 k, h4 k hk]
        · rw [e2] at hc ⊢
          try dsimp only at hc ⊢
          by_cases ec : c = (clo E n g).2
          · subst ec
            refine ⟨g, hg, by rw [q6, if_pos rfl], fun k hk => ?_, by rw [q7, if_pos rfl]⟩
            by_cases hb : cjb E n g k = true
            · rw [if_pos hb]; exact ⟨fun _ => hb, fun _ => rfl⟩
            · rw [if_neg hb]
              constructor
              · intro q
                rcases clo_rg (E := E) (n := n) g k with r | r <;> omega
              · intro q; exact absurd q hb
          · obtain ⟨l, l1, l2, l3, l4⟩ := h5 c (by omega)
            refine ⟨l, l1, by rw [q6, if_neg ec]; exact l2, fun k hk => ?_, by rw [q7, if_neg ec]; exact l4⟩
            by_cases hb : cjb E n g k = true
            · rw [if_pos hb, ← l3 k hk, clo_new hG hg e hb]
              omega
            · rw [if_neg hb]; exact l3 k hk
      · rw [if_neg e]
        have e2 : clo E n (g + 1) = clo E n g := by rw [clo_s, if_neg e]
        refine ⟨s, rfl, h1, h2, ?_⟩
        rw [show CC s E n (g + 1) = CC s E n g from by unfold CC; rw [e2]]
        exact ⟨h3, h4, h5⟩) (fun f s hI => by
      have hn : s 5 0 0 = (n : Int) := by rw [hI.2.1 0 (by decide)]; exact H.1.1
      refine ⟨s, ?_, hI⟩
      try dsimp only
      rw [L_X1_fillClasses_15_s, if_pos (by omega)]) (f := N) (s := msv (mup σ 5 0 2 0) 19 0 48 (-1)) (by omega) ⟨fun r i k hr => by
        have : r ≠ 19 := fun q => hr (by rw [q]; decide)
        have h5 : r ≠ 5 := fun q => hr (by rw [q]; decide)
        unfold msv
        rw [if_neg (fun q => this q.1), mup_r h5], fun k hk => by
        unfold msv
        rw [if_neg (by omega), mup_k hk], by
        unfold msv
        rw [if_neg (by omega), mup_s]; rfl, fun k hk => by
        unfold msv
        rw [if_pos ⟨rfl, rfl, by omega⟩]; rfl, fun c hc => absurd hc (Nat.not_lt_zero _)⟩
  refine ⟨s1, ?_, h1, h2, h3⟩
  unfold f_X1_fillClasses
  try dsimp only at e
  rw [fill_r19 hN, Option.bind_some, e]
  rfl
