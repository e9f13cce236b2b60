/-! each element is one ahead of it, and then a turn: so the list is a group -/
def bF (l : List be) (k : Nat) : Nat := (l.getD k (tid, 0, 0)).2.1
def bB (l : List be) (k : Nat) : Nat := (l.getD k (tid, 0, 0)).2.2
theorem bF_app {l : List be} {x : be} {k : Nat} (h : k < l.length) : bF (l ++ [x]) k = bF l k := by
  unfold bF
  rw [List.getD_eq_getElem?_getD, List.getD_eq_getElem?_getD, List.getElem?_append_left h]
theorem bB_app {l : List be} {x : be} {k : Nat} (h : k < l.length) : bB (l ++ [x]) k = bB l k := by
  unfold bB
  rw [List.getD_eq_getElem?_getD, List.getD_eq_getElem?_getD, List.getElem?_append_left h]
theorem bF_last {l : List be} {x : be} : bF (l ++ [x]) l.length = x.2.1 := by
  unfold bF
  rw [List.getD_eq_getElem?_getD, List.getElem?_append_right (Nat.le_refl _), Nat.sub_self]
  rfl
theorem bB_last {l : List be} {x : be} : bB (l ++ [x]) l.length = x.2.2 := by
  unfold bB
  rw [List.getD_eq_getElem?_getD, List.getElem?_append_right (Nat.le_refl _), Nat.sub_self]
  rfl
def Gn (M : Nat → tn) (m : Nat) (l : List be) : Prop := ∀ k, 0 < k → k < l.length → bF l k < k ∧ bB l k < m ∧ bE l k = tco (bE l (bF l k)) (M (bB l k))
theorem Gn_st {M : Nat → tn} {m g t : Nat} {l : List be} (h : Gn M m l) (hg : g < l.length) (ht : t < m) : Gn M m (bSt M g t l) := by
  unfold bSt
  split
  · intro k h0 hk
    by_cases e : k < l.length
    · obtain ⟨q1, q2, q3⟩ := h k h0 e
      rw [bF_app e, bB_app e, bE_app e, bE_app (by omega)]
      exact ⟨q1, q2, q3⟩
    · have : k = l.length := by simp at hk; omega
      subst this
      rw [bF_last, bB_last, bE_last, bE_app hg]
      exact ⟨hg, ht, rfl⟩
  · exact h
theorem Gn_in {M : Nat → tn} {m g : Nat} (hM : ∀ t, t < m → tok (M t)) : ∀ (j t : Nat) (l : List be), t + j = m → Bi l → g < l.length → Gn M m l → Gn M m (bIn M g j t l) := by
  intro j
  induction j with
  | zero => intro t l _ _ _ h; exact h
  | succ j ih =>
    intro t l ht hi hg h
    rw [bIn_s]
    have hst := Bi_st (t := t) hi hg (hM t (by omega))
    exact ih (t + 1) _ (by omega) hst.1 (Nat.lt_of_lt_of_le hg hst.2.1) (Gn_st h hg (by omega))
theorem Gn_out {M : Nat → tn} {m : Nat} (hM : ∀ t, t < m → tok (M t)) : ∀ (f g : Nat) (l : List be), Bi l → Gn M m l → Gn M m (bOut M m f g l) := by
  intro f
  induction f with
  | zero => intro g l _ h; exact h
  | succ f ih =>
    intro g l hi h
    rw [bOut_s]
    by_cases hg : g < l.length
    · rw [if_pos hg]
      exact ih (g + 1) _ (bIn_ext hM m 0 l (by omega) hi hg).1 (Gn_in hM m 0 l (by omega) hi hg h)
    · rw [if_neg hg]; exact h
theorem Gn_bfs {M : Nat → tn} {m : Nat} (hM : ∀ t, t < m → tok (M t)) : Gn M m (bfs M m) := Gn_out hM 49 0 b0 Bi_0 (fun k h0 hk => by simp [b0] at hk; omega)
theorem GP_bfs {M : Nat → tn} {m : Nat} (hM : ∀ t, t < m → tok (M t)) : GP (bE (bfs M m)) (bfs M m).length := by
  obtain ⟨hi, hc⟩ := bfs_ok hM
  have hg := Gn_bfs hM
  refine ⟨hi.1, hi.2.1, hi.2.2.1, hi.2.2.2, fun a => ?_⟩
  have key : ∀ (b : Nat) (a : Nat), a < (bfs M m).length → b < (bfs M m).length → ∃ k, k < (bfs M m).length ∧ bE (bfs M m) k = tco (bE (bfs M m) a) (bE (bfs M m) b) := by
    intro b
    induction b using Nat.strongRecOn with
    | ind b ih =>
      intro a ha hb
      rcases Nat.eq_zero_or_pos b with e | e
      · subst e
        exact ⟨a, ha, by rw [hi.2.1, tco_r (hi.2.2.1 a ha)]⟩
      · obtain ⟨q1, q2, q3⟩ := hg b e hb
        obtain ⟨k, hk, ek⟩ := ih _ q1 a ha (by omega)
        obtain ⟨i, hi', ei⟩ := hc k hk _ q2
        exact ⟨i, hi', by rw [ei, ek, q3, tco_as (hi.2.2.1 a ha) (hi.2.2.1 _ (by omega))]⟩
  exact fun b ha hb => key b a ha hb
/-- the number of a turn in the list -/
def gix (E : Nat → tn) (n : Nat) (c : tn) : Nat := (fnd E c n 0).toNat
theorem gix_eq {E : Nat → tn} {n k : Nat} (h : GP E n) (hk : k < n) : gix E n (E k) = k := by
  unfold gix
  rw [fnd_some n 0 k (Nat.zero_le _) (by omega) rfl (fun i _ h2 e => by have := h.2.2.2.1 i k (by omega) hk e; omega)]
  rfl
theorem gix_fnd {E : Nat → tn} {n k : Nat} (h : GP E n) (hk : k < n) : fnd E (E k) n 0 = (k : Int) := fnd_some n 0 k (Nat.zero_le _) (by omega) rfl (fun i _ h2 e => by have := h.2.2.2.1 i k (by omega) hk e; omega)
/-- first g, then h -/
def gm (E : Nat → tn) (n g h : Nat) : Nat := gix E n (tco (E g) (E h))
theorem gm_ok {E : Nat → tn} {n g h : Nat} (H : GP E n) (hg : g < n) (hh : h < n) : gm E n g h < n ∧ E (gm E n g h) = tco (E g) (E h) := by
  obtain ⟨k, hk, ek⟩ := H.2.2.2.2 g h hg hh
  unfold gm
  rw [← ek, gix_eq H hk]
  exact ⟨hk, rfl⟩
theorem gm_eq {E : Nat → tn} {n g h k : Nat} (H : GP E n) (hg : g < n) (hh : h < n) (hk : k < n) (e : E k = tco (E g) (E h)) : gm E n g h = k := by
  unfold gm; rw [← e]; exact gix_eq H hk
theorem gm_as {E : Nat → tn} {n a b c : Nat} (H : GP E n) (ha : a < n) (hb : b < n) (hc : c < n) : gm E n (gm E n a b) c = gm E n a (gm E n b c) := by
  obtain ⟨h1, e1⟩ := gm_ok H ha hb
  obtain ⟨h2, e2⟩ := gm_ok H hb hc
  obtain ⟨h3, e3⟩ := gm_ok H ha h2
  exact gm_eq H h1 hc h3 (by rw [e3, e2, e1, tco_as (H.2.2.1 a ha) (H.2.2.1 b hb)])
theorem gm_l {E : Nat → tn} {n a : Nat} (H : GP E n) (ha : a < n) : gm E n 0 a = a := gm_eq H H.1 ha ha (by rw [H.2.1, tco_l])
theorem gm_r {E : Nat → tn} {n a : Nat} (H : GP E n) (ha : a < n) : gm E n a 0 = a := gm_eq H ha H.1 ha (by rw [H.2.1, tco_r (H.2.2.1 a ha)])
/-- the one that leads back -/
def gv (E : Nat → tn) (n g : Nat) : Nat := gix E n (tiv (E g))
theorem gv_ok {E : Nat → tn} {n g : Nat} (H : GP E n) (hg : g < n) : gv E n g < n ∧ E (gv E n g) = tiv (E g) := by
  obtain ⟨k, hk, ek⟩ := GP_iv H hg
  unfold gv
  rw [← ek, gix_eq H hk]
  exact ⟨hk, rfl⟩
theorem gm_vr {E : Nat → tn} {n g : Nat} (H : GP E n) (hg : g < n) : gm E n g (gv E n g) = 0 := by
  obtain ⟨h1, e1⟩ := gv_ok H hg
  exact gm_eq H hg h1 H.1 (by rw [H.2.1, e1, tiv_r (H.2.2.1 g hg)])
theorem gm_vl {E : Nat → tn} {n g : Nat} (H : GP E n) (hg : g < n) : gm E n (gv E n g) g = 0 := by
  obtain ⟨h1, e1⟩ := gv_ok H hg
  exact gm_eq H h1 hg H.1 (by rw [H.2.1, e1, tiv_l (H.2.2.1 g hg)])
theorem gm_cl {E : Nat → tn} {n a b c : Nat} (H : GP E n) (ha : a < n) (hb : b < n) (hc : c < n) (h : gm E n a b = gm E n a c) : b = c := by
  have h2 : gm E n (gv E n a) (gm E n a b) = gm E n (gv E n a) (gm E n a c) := by rw [h]
  have hv := (gv_ok H ha).1
  rw [← gm_as H hv ha hb, ← gm_as H hv ha hc, gm_vl H ha, gm_l H hb, gm_l H hc] at h2
  exact h2
theorem gm_cr {E : Nat → tn} {n a b c : Nat} (H : GP E n) (ha : a < n) (hb : b < n) (hc : c < n) (h : gm E n b a = gm E n c a) : b = c := by
  have h2 : gm E n (gm E n b a) (gv E n a) = gm E n (gm E n c a) (gv E n a) := by rw [h]
  have hv := (gv_ok H ha).1
  rw [gm_as H hb ha hv, gm_as H hc ha hv, gm_vr H ha, gm_r H hb, gm_r H hc] at h2
  exact h2
