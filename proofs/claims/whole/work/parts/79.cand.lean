/-! PRODUCTS by lists -/
def F2 {α β : Type} (R : α → β → Prop) : List α → List β → Prop
  | [], [] => True
  | a :: l, b :: m => R a b ∧ F2 R l m
  | [], _ :: _ => False
  | _ :: _, [] => False
theorem F2_len {α β : Type} {R : α → β → Prop} : ∀ {l : List α} {m : List β}, F2 R l m → l.length = m.length
  | [], [], _ => rfl
  | _ :: _, _ :: _, h => by rw [List.length_cons, List.length_cons, F2_len h.2]
  | [], _ :: _, h => absurd h id
  | _ :: _, [], h => absurd h id
theorem F2_ap {α β : Type} {R : α → β → Prop} : ∀ {l l' : List α} {m m' : List β}, F2 R l m → F2 R l' m' → F2 R (l ++ l') (m ++ m')
  | [], _, [], _, _, h' => h'
  | _ :: _, _, _ :: _, _, h, h' => ⟨h.1, F2_ap h.2 h'⟩
  | [], _, _ :: _, _, h, _ => absurd h id
  | _ :: _, _, [], _, h, _ => absurd h id
theorem F2_get {α β : Type} {R : α → β → Prop} {x : α} {y : β} : ∀ {l : List α} {m : List β}, F2 R l m → ∀ q, q < m.length → R (l.getD q x) (m.getD q y)
  | [], [], _, q, h => absurd h (Nat.not_lt_zero _)
  | _ :: _, _ :: _, h, 0, _ => h.1
  | _ :: _, _ :: _, h, q + 1, hq => F2_get h.2 q (by simpa using hq)
  | [], _ :: _, h, _, _ => absurd h id
  | _ :: _, [], h, _, _ => absurd h id
theorem F2_mp {α β : Type} {R R' : α → β → Prop} : ∀ {l : List α} {m : List β}, F2 R l m → (∀ a ∈ l, ∀ b, R a b → R' a b) → F2 R' l m
  | [], [], _, _ => trivial
  | a :: l, b :: m, h, hi => ⟨hi a (List.mem_cons_self ..) b h.1, F2_mp h.2 (fun x hx => hi x (List.mem_cons_of_mem _ hx))⟩
  | [], _ :: _, h, _ => absurd h id
  | _ :: _, [], h, _ => absurd h id
def P1 (E : Nat → tn) (n : Nat) (L : List (Nat × Nat)) (e : Nat) (l p : List Nat) : Prop := p.headD 0 = lst l ∧ vok (wd e) p.tail ∧ ∀ y, y < wd e → em (pvL E n L l (ly e y)) (wv p.tail y)
def FO (E : Nat → tn) (n : Nat) (L : List (Nat × Nat)) (F : List (List Nat)) : Prop := F.length = L.length ∧ ∀ i, i < L.length → (F.getD i []).headD 0 = fwd L i ∧ ∀ a, em (fwP E n L i a) (sA (F.getD i []).tail a)
theorem ble_c {i k : Nat} : (Nat.ble i k = true ∧ i ≤ k) ∨ (Nat.ble i k = false ∧ ¬ i ≤ k) := by
  cases h : Nat.ble i k with
  | true => exact Or.inl ⟨rfl, Nat.le_of_ble_eq_true h⟩
  | false => exact Or.inr ⟨rfl, fun z => by rw [Nat.ble_eq_true_of_le z] at h; exact absurd h (by decide)⟩
theorem cnd1_n {ks sp kse p : List Nat} {i : Nat} {ps : List (List Nat)} (h : Nat.ble i (p.headD 0) = false) : cnd1 ks i sp kse (p :: ps) = cnd1 ks i sp kse ps := by
  rw [cnd1, h]
theorem cnd1_y {ks sp kse p : List Nat} {i : Nat} {ps : List (List Nat)} (h : Nat.ble i (p.headD 0) = true) : cnd1 ks i sp kse (p :: ps) = (i :: mld ks sp (spz kse p.tail)) :: cnd1 ks i sp kse ps := by
  rw [cnd1, h]
  show (fcL (spz kse p.tail) fun s2 => fcL (mld ks sp s2) fun w => (i :: w) :: cnd1 ks i sp kse ps) = _
  rw [fcL_eq, fcL_eq]
theorem cnd1_ok {E : Nat → tn} {n d e i : Nat} {L : List (Nat × Nat)} {sp : List Nat} (hG : GP E n) (hL : LOK L) (hd : d ≤ 6) (hi : i < L.length) (hde : fwd L i + e = d) (hs : ∀ a, em (fwP E n L i a) (sA sp a)) : ∀ (ls ps : List (List Nat)), (∀ l ∈ ls, lsd L l = e ∧ ∀ j, j ∈ l → j < L.length) → F2 (P1 E n L e) ls ps → F2 (P1 E n L d) ((ls.filter (fun l => decide (i ≤ lst l))).map (fun l => i :: l)) (cnd1 (LYL.getD d []) i sp (LYL.getD e []) ps)
  | [], [], _, _ => trivial
  | [], _ :: _, _, h => absurd h id
  | _ :: _, [], _, h => absurd h id
  | l :: ls, p :: ps, hm, h => by
    have ih := cnd1_ok hG hL hd hi hde hs ls ps (fun x hx => hm x (List.mem_cons_of_mem _ hx)) h.2
    obtain ⟨h1, h2, h3⟩ := h.1
    obtain ⟨m1, m2⟩ := hm l (List.mem_cons_self ..)
    rcases ble_c (i := i) (k := p.headD 0) with ⟨hb, hq⟩ | ⟨hb, hq⟩
    · rw [cnd1_y hb, List.filter_cons_of_pos (by rw [← h1]; exact decide_eq_true hq), List.map_cons]
      refine ⟨⟨rfl, ?_⟩, ih⟩
      have hh := pvL_hom hG hL l m2 (by omega)
      rw [m1] at hh
      exact mld_ok hd hs (sp_ok (by omega) hh h2 h3)
    · rw [cnd1_n hb, List.filter_cons_of_neg (by rw [← h1]; simpa using hq)]
      exact ih
def ctr (L : List (Nat × Nat)) (d : Nat) : Nat → Nat → List (List Nat)
  | _, 0 => []
  | i, k + 1 => flt L d i ++ ctr L d (i + 1) k
theorem ctr_ok (L : List (Nat × Nat)) (d : Nat) : ∀ k i, ctp L d (i + k) = ctp L d i ++ ctr L d i k
  | 0, i => by show ctp L d i = _ ++ []; rw [List.append_nil]
  | k + 1, i => by
    show ctp L d (i + (k + 1)) = ctp L d i ++ (flt L d i ++ ctr L d (i + 1) k)
    rw [show i + (k + 1) = i + 1 + k from by omega, ctr_ok L d k (i + 1), ← List.append_assoc]
    rfl
theorem cnd_y {d i : Nat} {ks f : List Nat} {PS : List (List (List Nat))} {F : List (List Nat)} (h : Nat.ble (f.headD 0) d = true) : cnd d ks PS i (f :: F) = cnd1 ks i f.tail (LYL.getD (d - f.headD 0) []) (PS.getD (d - f.headD 0) []) ++ cnd d ks PS (i + 1) F := by
  rw [cnd, h]
theorem prL_mm {L : List (Nat × Nat)} {d : Nat} (h : LOK L) : ∀ l ∈ prL L d, lsd L l = d ∧ ∀ j, j ∈ l → j < L.length := fun l hm => by
  obtain ⟨a, b⟩ := enl_mem h 0 d _ hm
  exact ⟨a, fun j hj => (b j hj).2⟩
theorem cnd_ok {E : Nat → tn} {n d : Nat} {L : List (Nat × Nat)} {F : List (List Nat)} {PS : List (List (List Nat))} (hG : GP E n) (hL : LOd L (d - 1)) (h1 : 1 ≤ d) (hd : d ≤ 6) (hF : FO E n L F) (hP : ∀ e, e < d → F2 (P1 E n L e) (prL L e) (PS.getD e [])) : ∀ k i, i + k = L.length → F2 (P1 E n L d) (ctr L d i k) (cnd d (LYL.getD d []) PS i (F.drop i)) := by
  intro k
  induction k with
  | zero =>
    intro i hi
    rw [List.drop_eq_nil_of_le (by rw [hF.1]; omega)]
    exact trivial
  | succ k ih =>
    intro i hi
    have hiL : i < L.length := by omega
    have hil : i < F.length := by rw [hF.1]; exact hiL
    have hg : F[i] = F.getD i [] := by rw [List.getD_eq_getElem?_getD, List.getElem?_eq_getElem hil]; rfl
    obtain ⟨f1, f2⟩ := hF.2 i hiL
    have hdeg := hL.2 i hiL
    have hge := (hL.1 i hiL).1
    rw [List.drop_eq_getElem_cons hil, hg, cnd_y (by rw [f1]; exact Nat.ble_eq_true_of_le (by omega)), f1]
    refine F2_ap ?_ (ih (i + 1) (by omega))
    unfold flt
    rw [if_pos (by omega)]
    exact cnd1_ok hG hL.1 hd hiL (by omega) f2 _ _ (prL_mm hL.1) (hP _ (by omega))
