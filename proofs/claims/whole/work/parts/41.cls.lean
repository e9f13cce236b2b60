/-! the class's Group: codes, keys, the list that is made -/
def elC (σ : mS) (k : Nat) : tn := (σ 7 k 0, σ 7 k 1, σ 7 k 2)
theorem X11_ix (N : Nat) (σ : mS) : f_X11_indexOfCode N 1 σ = some (0, σ) ∧ f_X11_indexOfCode N 2 σ = some (1, σ) ∧ f_X11_indexOfCode N 3 σ = some (2, σ) ∧ f_X11_indexOfCode N (-1) σ = some (0, σ) ∧ f_X11_indexOfCode N (-2) σ = some (1, σ) ∧ f_X11_indexOfCode N (-3) σ = some (2, σ) := ⟨rfl, rfl, rfl, rfl, rfl, rfl⟩
theorem X1_codeThen_eq {N : Nat} {c : Int} {b : tn} {q : Nat} {σ : mS} (h : cok c) (hb : tok b) (e : (σ 10 q 0, σ 10 q 1, σ 10 q 2) = b) : f_X1_codeThen_r10 N c q σ = some (cth c b, σ) := by
  subst e
  obtain ⟨h1, h2, h3, -⟩ := hb
  obtain ⟨i1, i2, i3, i4, i5, i6⟩ := X11_ix N σ
  unfold f_X1_codeThen_r10
  rcases h with rfl | rfl | rfl | rfl | rfl | rfl
  · rw [i1]; rfl
  · rw [i2]; rfl
  · rw [i3]; rfl
  · rw [i4]; exact congrArg (fun z => some (z, σ)) (mw_neg_ok h1)
  · rw [i5]; exact congrArg (fun z => some (z, σ)) (mw_neg_ok h2)
  · rw [i6]; exact congrArg (fun z => some (z, σ)) (mw_neg_ok h3)
/-- the key of a turn -/
def tky (t : tn) : Nat := ((((t.1 + 3) * 7 + t.2.1 + 3) * 7 + t.2.2 + 3)).toNat
theorem cok_rg {c : Int} (h : cok c) : -3 ≤ c ∧ c ≤ 3 := by rcases h with rfl | rfl | rfl | rfl | rfl | rfl <;> omega
theorem tky_inj {a b : tn} (ha : tok a) (hb : tok b) (h : tky a = tky b) : a = b := by
  obtain ⟨a1, a2, a3⟩ := a
  obtain ⟨b1, b2, b3⟩ := b
  obtain ⟨p1, p2, p3, -⟩ := ha
  obtain ⟨q1, q2, q3, -⟩ := hb
  have r1 := cok_rg p1
  have r2 := cok_rg p2
  have r3 := cok_rg p3
  have s1 := cok_rg q1
  have s2 := cok_rg q2
  have s3 := cok_rg q3
  unfold tky at h
  dsimp only at h r1 r2 r3 s1 s2 s3
  have e1 : a1 = b1 := by omega
  have e2 : a2 = b2 := by omega
  have e3 : a3 = b3 := by omega
  rw [e1, e2, e3]
/-- the class's cells bear the list -/
def CB (σ : mS) (l : List be) : Prop := σ 5 0 0 = (l.length : Int) ∧ (∀ k, k < l.length → elC σ k = bE l k) ∧ (∀ t, tok t → σ 8 0 (tky t) = fnd (bE l) t l.length 0) ∧ ∀ k, k < l.length → σ 13 0 k = (bF l k : Int) ∧ σ 14 0 k = (bB l k : Int)
/-- behind a find: the list as it is, or one longer -/
def bAd (c : tn) (g t : Nat) (l : List be) : List be := if fnd (bE l) c l.length 0 = -1 then l ++ [(c, g, t)] else l
theorem fnd_app {l : List be} {c t : tn} {g b : Nat} (h : fnd (bE l) c l.length 0 = -1) : fnd (bE (l ++ [(c, g, b)])) t (l ++ [(c, g, b)]).length 0 = if t = c then (l.length : Int) else fnd (bE l) t l.length 0 := by
  have hne : ∀ i, i < l.length → bE l i ≠ c := by
    rcases fnd_cases (bE l) c l.length 0 with ⟨-, q⟩ | ⟨i, -, -, q, -⟩
    · exact fun i hi => q i (Nat.zero_le _) (by omega)
    · rw [h] at q; omega
  have hl : (l ++ [(c, g, b)]).length = l.length + 1 := by simp
  rw [hl]
  by_cases e : t = c
  · subst e
    rw [if_pos rfl]
    exact fnd_some _ 0 l.length (Nat.zero_le _) (by omega) bE_last (fun i _ hi => by rw [bE_app hi]; exact hne i hi)
  · rw [if_neg e]
    rcases fnd_cases (bE l) t l.length 0 with ⟨q1, q2⟩ | ⟨i, -, q2, q3, q4⟩
    · rw [q1]
      refine fnd_none _ 0 (fun i _ hi => ?_)
      by_cases hi2 : i < l.length
      · rw [bE_app hi2]; exact q2 i (Nat.zero_le _) (by omega)
      · have : i = l.length := by omega
        subst this
        rw [bE_last]; exact fun q => e q.symm
    · rw [q3]
      refine fnd_some _ 0 i (Nat.zero_le _) (by omega) (by rw [bE_app (by omega)]; exact q4) (fun i' _ hi' => ?_)
      rw [bE_app (by omega)]
      intro q
      have q5 := fnd_some l.length 0 i' (Nat.zero_le _) (by omega) q
      rcases fnd_cases (bE l) t i' 0 with ⟨-, p2⟩ | ⟨i2, -, p2, -, p4⟩
      · have := q5 (fun i'' h1 h2 => p2 i'' h1 (by omega))
        omega
      · obtain ⟨m, hm1, hm2⟩ : ∃ m, (m < i ∧ bE l m = t) ∧ ∀ m', m' < m → bE l m' ≠ t := by
          have := pk_least (fun m => m < i ∧ bE l m = t) ⟨i', hi', q⟩
          obtain ⟨k, hk1, hk2⟩ := this
          exact ⟨k, hk1, fun m' hm' p => hk2 m' hm' ⟨by omega, p⟩⟩
        have := fnd_some l.length 0 m (Nat.zero_le _) (by omega) hm1.2 (fun i'' _ h2 => hm2 i'' h2)
        omega
