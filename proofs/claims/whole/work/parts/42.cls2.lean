/-! the class's findOrAdd -/
theorem J9_max_eq (N : Nat) (a : Int) (σ : mS) : f_J9_max_7cf53 N 0 a σ = some (if 0 < a then a else 0, σ) := by
  unfold f_J9_max_7cf53
  by_cases h : 0 < a
  · rw [if_pos h, if_pos h]
  · rw [if_neg h, if_neg h]
def fC (σ σ' : mS) : Prop := fr [5, 7, 8, 13, 14] σ σ' ∧ ∀ k, k ≠ 0 → σ' 5 0 k = σ 5 0 k
theorem fC_rfl {σ : mS} : fC σ σ := ⟨fr_rfl, fun _ _ => rfl⟩
theorem fC_trans {a b c : mS} (h1 : fC a b) (h2 : fC b c) : fC a c := ⟨fr_trans h1.1 h2.1, fun k hk => (h2.2 k hk).trans (h1.2 k hk)⟩
set_option maxHeartbeats 4000000 in
theorem X1_findOrAdd_eq {N : Nat} {c : tn} {g t : Nat} {σ : mS} {l : List be} (hB : CB σ l) (hc : tok c) (h48 : l.length ≤ 48) (hlt : fnd (bE l) c l.length 0 = -1 → l.length < 48) :
    ∃ σ', f_X1_findOrAdd N c.1 c.2.1 c.2.2 (g : Int) (t : Int) σ = some (fnd (bE (bAd c g t l)) c (bAd c g t l).length 0, σ') ∧ CB σ' (bAd c g t l) ∧ fC σ σ' := by
  obtain ⟨c1, c2, c3⟩ := c
  have r1 := cok_rg hc.1
  have r2 := cok_rg hc.2.1
  have r3 := cok_rg hc.2.2.1
  dsimp only at r1 r2 r3
  have e1 : mw (c1 + 3) = c1 + 3 := mw_id (by omega) (by omega)
  have e2 : mw ((c1 + 3) * 7) = (c1 + 3) * 7 := mw_id (by omega) (by omega)
  have e3 : mw ((c1 + 3) * 7 + c2) = (c1 + 3) * 7 + c2 := mw_id (by omega) (by omega)
  have e4 : mw ((c1 + 3) * 7 + c2 + 3) = (c1 + 3) * 7 + c2 + 3 := mw_id (by omega) (by omega)
  have e5 : mw (((c1 + 3) * 7 + c2 + 3) * 7) = ((c1 + 3) * 7 + c2 + 3) * 7 := mw_id (by omega) (by omega)
  have e6 : mw (((c1 + 3) * 7 + c2 + 3) * 7 + c3) = ((c1 + 3) * 7 + c2 + 3) * 7 + c3 := mw_id (by omega) (by omega)
  have e7 : mw (((c1 + 3) * 7 + c2 + 3) * 7 + c3 + 3) = ((c1 + 3) * 7 + c2 + 3) * 7 + c3 + 3 := mw_id (by omega) (by omega)
  have hk : (((c1 + 3) * 7 + c2 + 3) * 7 + c3 + 3).toNat = tky (c1, c2, c3) := rfl
  have hb : 0 ≤ ((c1 + 3) * 7 + c2 + 3) * 7 + c3 + 3 ∧ ((c1 + 3) * 7 + c2 + 3) * 7 + c3 + 3 < 343 := by omega
  have hkey := hB.2.2.1 (c1, c2, c3) hc
  have hn := hB.1
  unfold f_X1_findOrAdd
  simp only [e1, e2, e3, e4, e5, e6, e7, hk]
  rw [if_pos hb, hkey]
  by_cases hv : fnd (bE l) (c1, c2, c3) l.length 0 = -1
  · have hl := hlt hv
    have had : bAd (c1, c2, c3) g t l = l ++ [((c1, c2, c3), g, t)] := by unfold bAd; rw [if_pos hv]
    rw [if_pos hv, if_neg (by omega), if_pos ⟨hb, by omega⟩, mup_s, J9_max_eq, Option.bind_some]
    dsimp only
    rw [hn, show ((l.length : Int)).toNat = l.length from by omega, show mw ((l.length : Int) + 1) = ((l.length + 1 : Nat) : Int) from mw_id (by omega) (by omega), had, fnd_app hv, if_pos rfl]
    refine ⟨_, congrArg (fun z => some (z, _)) ?_, ?_, ?_⟩
    · split <;> omega
    · refine ⟨by simp [mup_def], fun k hk' => ?_, fun q hq => ?_, fun k hk' => ?_⟩
      · by_cases e : k < l.length
        · rw [bE_app e, ← hB.2.1 k e]
          unfold elC
          simp [mup_def, show ¬ (k = l.length) by omega]
        · have : k = l.length := by simp at hk'; omega
          subst this
          rw [bE_last]
          unfold elC
          simp [mup_def]
      · rw [fnd_app hv]
        by_cases e : q = (c1, c2, c3)
        · subst e
          rw [if_pos rfl]
          simp [mup_def]
        · have : ¬ (tky q = tky (c1, c2, c3)) := fun p => e (tky_inj hq hc p)
          rw [if_neg e, ← hB.2.2.1 q hq]
          simp [mup_def, this]
      · by_cases e : k < l.length
        · rw [bF_app e, bB_app e]
          have := hB.2.2.2 k e
          simp [mup_def, show ¬ (k = l.length) by omega]
          exact this
        · have : k = l.length := by simp at hk'; omega
          subst this
          rw [bF_last, bB_last]
          simp [mup_def]
    · refine ⟨fr_mup (fr_mup (fr_mup (fr_mup (fr_mup (fr_mup (fr_mup fr_rfl (by decide)) (by decide)) (by decide)) (by decide)) (by decide)) (by decide)) (by decide), fun k hk' => ?_⟩
      simp [mup_def, hk']
  · have had : bAd (c1, c2, c3) g t l = l := by unfold bAd; rw [if_neg hv]
    rw [if_neg hv, if_pos hb, J9_max_eq, Option.bind_some]
    dsimp only
    rw [had]
    refine ⟨σ, congrArg (fun z => some (z, σ)) ?_, hB, fC_rfl⟩
    rcases fnd_cases (bE l) (c1, c2, c3) l.length 0 with ⟨q, -⟩ | ⟨i, -, -, q, -⟩
    · exact absurd q hv
    · rw [q]; split <;> omega
