/-! THE FEW: pure -/
def wd (d : Nat) : Nat := (d + 1) * (d + 2) / 2
theorem wd_fst : ∀ d ∈ List.range 9, fst9 d + wd d = fst9 (d + 1) ∧ fst9 (d + 1) ≤ 165 ∧ wd d ≤ 45 ∧ 1 ≤ wd d := by decide +kernel
theorem wd_6 : ∀ d ∈ List.range 7, wd d ≤ 28 ∧ fst9 d + wd d ≤ 84 := by decide +kernel
theorem fst_pD {d y : Nat} (hd : d ≤ 8) (hy : y < wd d) : fst9 d + y < 165 ∧ pD (fst9 d + y) = d := by
  obtain ⟨w1, w2, -, -⟩ := wd_fst d (List.mem_range.mpr (by omega))
  have hx : fst9 d + y < 165 := by omega
  have a := (fst_ok d (List.mem_range.mpr (by omega))).2 _ (List.mem_range.mpr hx)
  have b := (fst_ok (d + 1) (List.mem_range.mpr (by omega))).2 _ (List.mem_range.mpr hx)
  exact ⟨hx, by omega⟩
theorem pD_fst {d x : Nat} (hd : d ≤ 8) (hx : x < 165) (h : pD x = d) : fst9 d ≤ x ∧ x - fst9 d < wd d := by
  obtain ⟨w1, w2, -, -⟩ := wd_fst d (List.mem_range.mpr (by omega))
  have a := (fst_ok d (List.mem_range.mpr (by omega))).2 _ (List.mem_range.mpr hx)
  have b := (fst_ok (d + 1) (List.mem_range.mpr (by omega))).2 _ (List.mem_range.mpr hx)
  omega
/-- those of the first q rows that are no sums of multiples of those ahead -/
noncomputable def frs (V : Nat → Nat → Int) (W : Nat) : Nat → List Nat
  | 0 => []
  | q + 1 => @ite _ (inS (fun f => V ((frs V W q).getD f 0)) (frs V W q).length W (V q)) (Classical.propDecidable _) (frs V W q) (frs V W q ++ [q])
theorem frs_in {V : Nat → Nat → Int} {W q : Nat} (h : inS (fun f => V ((frs V W q).getD f 0)) (frs V W q).length W (V q)) : frs V W (q + 1) = frs V W q := by
  show @ite _ _ (Classical.propDecidable _) _ _ = _
  rw [if_pos h]
theorem frs_out {V : Nat → Nat → Int} {W q : Nat} (h : ¬ inS (fun f => V ((frs V W q).getD f 0)) (frs V W q).length W (V q)) : frs V W (q + 1) = frs V W q ++ [q] := by
  show @ite _ _ (Classical.propDecidable _) _ _ = _
  rw [if_neg h]
theorem frs_lt (V : Nat → Nat → Int) (W : Nat) : ∀ q, ∀ f, f < (frs V W q).length → (frs V W q).getD f 0 < q := by
  intro q
  induction q with
  | zero => intro f h; exact absurd h (Nat.not_lt_zero _)
  | succ q ih =>
    by_cases h : inS (fun f => V ((frs V W q).getD f 0)) (frs V W q).length W (V q)
    · rw [frs_in h]; intro f hf; have := ih f hf; omega
    · rw [frs_out h]
      intro f hf
      by_cases e : f < (frs V W q).length
      · rw [getD_ap e]; have := ih f e; omega
      · have : f = (frs V W q).length := by simp at hf; omega
        subst this
        rw [getD_la]; omega
theorem frs_cg {V V' : Nat → Nat → Int} {W : Nat} : ∀ q, (∀ i, i < q → ∀ k, k < W → V i k = V' i k) → frs V W q = frs V' W q
  | 0, _ => rfl
  | q + 1, h => by
    have ih := frs_cg q (fun i hi => h i (by omega))
    have hiff : inS (fun f => V ((frs V W q).getD f 0)) (frs V W q).length W (V q) ↔ inS (fun f => V' ((frs V' W q).getD f 0)) (frs V' W q).length W (V' q) := by
      rw [← ih]
      constructor
      · exact inS_cg (fun f hf k hk => by rw [h _ (by have := frs_lt V W q f hf; omega) k hk]; exact em_r _) (fun k hk => by rw [h q (by omega) k hk]; exact em_r _)
      · exact inS_cg (fun f hf k hk => by rw [h _ (by have := frs_lt V W q f hf; omega) k hk]; exact em_r _) (fun k hk => by rw [h q (by omega) k hk]; exact em_r _)
    by_cases q1 : inS (fun f => V ((frs V W q).getD f 0)) (frs V W q).length W (V q)
    · rw [frs_in q1, frs_in (hiff.mp q1), ih]
    · rw [frs_out q1, frs_out (fun z => q1 (hiff.mpr z)), ih]
/-- PRODUCTS of degree d of the FEW in L -/
def prL (L : List (Nat × Nat)) (d : Nat) : List (List Nat) := enl (fwd L) L.length 0 d
def pvv (E : Nat → tn) (n : Nat) (L : List (Nat × Nat)) (d q y : Nat) : Int := pvL E n L ((prL L d).getD q []) (ax (fst9 d + y))
noncomputable def frl (E : Nat → tn) (n : Nat) (L : List (Nat × Nat)) (d : Nat) : List Nat := frs (pvv E n L d) (wd d) (prL L d).length
noncomputable def FV (E : Nat → tn) (n : Nat) (L : List (Nat × Nat)) (d f : Nat) : Nat → Int := pvv E n L d ((frl E n L d).getD f 0)
def mnv (E : Nat → tn) (n d j y : Nat) : Int := meanM E n (fst9 d + j) (fst9 d + y)
noncomputable def fwS (E : Nat → tn) (n d : Nat) (L : List (Nat × Nat)) : Nat → List (Nat × Nat)
  | 0 => L
  | j + 1 => @ite _ (inS (FV E n (fwS E n d L j) d) (frl E n (fwS E n d L j) d).length (wd d) (mnv E n d j)) (Classical.propDecidable _) (fwS E n d L j) (fwS E n d L j ++ [(d, fst9 d + j)])
theorem fwS_in {E : Nat → tn} {n d j : Nat} {L : List (Nat × Nat)} (h : inS (FV E n (fwS E n d L j) d) (frl E n (fwS E n d L j) d).length (wd d) (mnv E n d j)) : fwS E n d L (j + 1) = fwS E n d L j := by
  show @ite _ _ (Classical.propDecidable _) _ _ = _
  rw [if_pos h]
theorem fwS_out {E : Nat → tn} {n d j : Nat} {L : List (Nat × Nat)} (h : ¬ inS (FV E n (fwS E n d L j) d) (frl E n (fwS E n d L j) d).length (wd d) (mnv E n d j)) : fwS E n d L (j + 1) = fwS E n d L j ++ [(d, fst9 d + j)] := by
  show @ite _ _ (Classical.propDecidable _) _ _ = _
  rw [if_neg h]
/-- the FEW of degrees 1 .. d -/
noncomputable def fewAt (E : Nat → tn) (n : Nat) : Nat → List (Nat × Nat)
  | 0 => []
  | d + 1 => fwS E n (d + 1) (fewAt E n d) (wd (d + 1))
/-- degrees d at most -/
def LOd (L : List (Nat × Nat)) (d : Nat) : Prop := LOK L ∧ ∀ i, i < L.length → fwd L i ≤ d
theorem LOd_ap {L : List (Nat × Nat)} {d j : Nat} (h : LOd L d) (h1 : 1 ≤ d) (h6 : d ≤ 6) (hj : j < wd d) : LOd (L ++ [(d, fst9 d + j)]) d := by
  obtain ⟨p1, p2⟩ := fst_pD (show d ≤ 8 by omega) hj
  have hl : (L ++ [(d, fst9 d + j)]).length = L.length + 1 := by simp
  refine ⟨fun i hi => ?_, fun i hi => ?_⟩
  · by_cases e : i < L.length
    · rw [fwd_ap e, getD_ap e]; exact h.1 i e
    · have : i = L.length := by omega
      subst this
      unfold fwd
      rw [getD_la]
      exact ⟨h1, h6, p1, p2⟩
  · by_cases e : i < L.length
    · rw [fwd_ap e]; exact h.2 i e
    · have : i = L.length := by omega
      subst this
      unfold fwd
      rw [getD_la]
      exact Nat.le_refl _
theorem LOd_up {L : List (Nat × Nat)} {d e : Nat} (h : LOd L d) (he : d ≤ e) : LOd L e := ⟨h.1, fun i hi => by have := h.2 i hi; omega⟩
theorem LOd_S {E : Nat → tn} {n d : Nat} {L : List (Nat × Nat)} (h : LOd L d) (h1 : 1 ≤ d) (h6 : d ≤ 6) : ∀ j, j ≤ wd d → LOd (fwS E n d L j) d
  | 0, _ => h
  | j + 1, hj => by
    have ih := LOd_S (E := E) (n := n) h h1 h6 j (by omega)
    by_cases q : inS (FV E n (fwS E n d L j) d) (frl E n (fwS E n d L j) d).length (wd d) (mnv E n d j)
    · rw [fwS_in q]; exact ih
    · rw [fwS_out q]; exact LOd_ap ih h1 h6 (by omega)
theorem LOd_at (E : Nat → tn) (n : Nat) : ∀ d, d ≤ 6 → LOd (fewAt E n d) d
  | 0, _ => ⟨fun i hi => absurd hi (Nat.not_lt_zero _), fun i hi => absurd hi (Nat.not_lt_zero _)⟩
  | d + 1, h => LOd_S (LOd_up (LOd_at E n d (by omega)) (by omega)) (by omega) h _ (Nat.le_refl _)
theorem prL_ap {L : List (Nat × Nat)} {d j : Nat} (h : LOd L d) (h1 : 1 ≤ d) (h6 : d ≤ 6) (hj : j < wd d) : prL (L ++ [(d, fst9 d + j)]) d = prL L d ++ [[L.length]] := by
  have hO := LOd_ap h h1 h6 hj
  have hl : (L ++ [(d, fst9 d + j)]).length = L.length + 1 := by simp
  have hlast : fwd (L ++ [(d, fst9 d + j)]) L.length = d := by unfold fwd; rw [getD_la]
  unfold prL
  rw [hl]
  have e := enl_eq (ds := fwd (L ++ [(d, fst9 d + j)])) (n := L.length) (fun i hi => (hO.1 i (by omega)).1) L.length 0 (by omega) (Nat.zero_le _)
  rw [hlast] at e
  rw [e, enl_cg (fun i hi => fwd_ap hi)]
theorem prL_ap2 {L : List (Nat × Nat)} {d e j : Nat} (h : LOd L d) (h1 : 1 ≤ d) (h6 : d ≤ 6) (hj : j < wd d) (he : e < d) : prL (L ++ [(d, fst9 d + j)]) e = prL L e := by
  have hO := LOd_ap h h1 h6 hj
  have hl : (L ++ [(d, fst9 d + j)]).length = L.length + 1 := by simp
  have hlast : fwd (L ++ [(d, fst9 d + j)]) L.length = d := by unfold fwd; rw [getD_la]
  unfold prL
  rw [hl, enl_lt (ds := fwd (L ++ [(d, fst9 d + j)])) (n := L.length) (fun i hi => (hO.1 i (by omega)).1) 0 e (Nat.zero_le _) (by omega), enl_cg (fun i hi => fwd_ap hi)]
theorem prL_mem {L : List (Nat × Nat)} {d q : Nat} (h : LOK L) (hq : q < (prL L d).length) : lsd L ((prL L d).getD q []) = d ∧ ∀ j, j ∈ (prL L d).getD q [] → j < L.length := by
  have hm : (prL L d).getD q [] ∈ prL L d := by
    rw [List.getD_eq_getElem?_getD, List.getElem?_eq_getElem hq]
    exact List.getElem_mem hq
  obtain ⟨a, b⟩ := enl_mem h 0 d _ hm
  exact ⟨a, fun j hj => (b j hj).2⟩
theorem pvv_ap {E : Nat → tn} {n d j q : Nat} {L : List (Nat × Nat)} (h : LOd L d) (h1 : 1 ≤ d) (h6 : d ≤ 6) (hj : j < wd d) (hq : q < (prL L d).length) (y : Nat) : pvv E n (L ++ [(d, fst9 d + j)]) d q y = pvv E n L d q y := by
  unfold pvv
  rw [prL_ap h h1 h6 hj, getD_ap hq, pvL_ap E n _ (prL_mem h.1 hq).2]
theorem pvv_la {E : Nat → tn} {n d j : Nat} {L : List (Nat × Nat)} (h : LOd L d) (h1 : 1 ≤ d) (h6 : d ≤ 6) (hj : j < wd d) {y : Nat} (hy : y < wd d) : pvv E n (L ++ [(d, fst9 d + j)]) d (prL L d).length y = mnv E n d j y := by
  obtain ⟨p1, -⟩ := fst_pD (show d ≤ 8 by omega) hy
  unfold pvv
  rw [prL_ap h h1 h6 hj, getD_la, pvL_c]
  show cv (fwP E n (L ++ [(d, fst9 d + j)]) L.length) oneP _ = _
  rw [cv_1r]
  unfold fwP mnv
  rw [getD_la, PR_ax _ p1]
theorem pvv_ap2 {E : Nat → tn} {n d e j q : Nat} {L : List (Nat × Nat)} (h : LOd L d) (h1 : 1 ≤ d) (h6 : d ≤ 6) (hj : j < wd d) (he : e < d) (hq : q < (prL L e).length) (y : Nat) : pvv E n (L ++ [(d, fst9 d + j)]) e q y = pvv E n L e q y := by
  unfold pvv
  rw [prL_ap2 h h1 h6 hj he, pvL_ap E n _ (prL_mem h.1 hq).2]
theorem frl_ap2 {E : Nat → tn} {n d e j : Nat} {L : List (Nat × Nat)} (h : LOd L d) (h1 : 1 ≤ d) (h6 : d ≤ 6) (hj : j < wd d) (he : e < d) : frl E n (L ++ [(d, fst9 d + j)]) e = frl E n L e := by
  unfold frl
  rw [prL_ap2 h h1 h6 hj he]
  exact frs_cg _ (fun q hq y _ => pvv_ap2 h h1 h6 hj he hq y)
/-- one that is no sum is free, too -/
theorem frl_ap {E : Nat → tn} {n d j : Nat} {L : List (Nat × Nat)} (h : LOd L d) (h1 : 1 ≤ d) (h6 : d ≤ 6) (hj : j < wd d) (hno : ¬ inS (FV E n L d) (frl E n L d).length (wd d) (mnv E n d j)) : frl E n (L ++ [(d, fst9 d + j)]) d = frl E n L d ++ [(prL L d).length] := by
  have e1 : frs (pvv E n (L ++ [(d, fst9 d + j)]) d) (wd d) (prL L d).length = frl E n L d := frs_cg _ (fun q hq y _ => pvv_ap h h1 h6 hj hq y)
  have e2 : frl E n (L ++ [(d, fst9 d + j)]) d = frs (pvv E n (L ++ [(d, fst9 d + j)]) d) (wd d) ((prL L d).length + 1) := by
    show frs _ _ (prL (L ++ [(d, fst9 d + j)]) d).length = _
    rw [prL_ap h h1 h6 hj]
    simp
  rw [e2, frs_out, e1]
  rw [e1]
  intro hin
  apply hno
  refine inS_cg (fun f hf y hy => ?_) (fun y hy => ?_) hin
  · show em (pvv E n (L ++ [(d, fst9 d + j)]) d ((frl E n L d).getD f 0) y) (pvv E n L d ((frl E n L d).getD f 0) y)
    have hlt : (frl E n L d).getD f 0 < (prL L d).length := frs_lt _ _ _ f hf
    rw [pvv_ap h h1 h6 hj hlt]
    exact em_r _
  · rw [pvv_la h h1 h6 hj hy]
    exact em_r _
/-- what is found of greater degrees changes nothing of degree e -/
theorem fwS_keep {E : Nat → tn} {n d e : Nat} {L : List (Nat × Nat)} (h : LOd L d) (h1 : 1 ≤ d) (h6 : d ≤ 6) (he : e < d) : ∀ j, j ≤ wd d → prL (fwS E n d L j) e = prL L e ∧ (∀ q, q < (prL L e).length → ∀ y, pvv E n (fwS E n d L j) e q y = pvv E n L e q y) ∧ frl E n (fwS E n d L j) e = frl E n L e
  | 0, _ => ⟨rfl, fun _ _ _ => rfl, rfl⟩
  | j + 1, hj => by
    obtain ⟨i1, i2, i3⟩ := fwS_keep (E := E) (n := n) h h1 h6 he j (by omega)
    by_cases q : inS (FV E n (fwS E n d L j) d) (frl E n (fwS E n d L j) d).length (wd d) (mnv E n d j)
    · rw [fwS_in q]; exact ⟨i1, i2, i3⟩
    · have ho := LOd_S (E := E) (n := n) h h1 h6 j (by omega)
      rw [fwS_out q]
      exact ⟨by rw [prL_ap2 ho h1 h6 (by omega) he, i1], fun q' hq' y => by rw [pvv_ap2 ho h1 h6 (by omega) he (by rw [i1]; exact hq'), i2 q' hq'], by rw [frl_ap2 ho h1 h6 (by omega) he, i3]⟩
theorem few_keep {E : Nat → tn} {n e : Nat} : ∀ d, e ≤ d → d ≤ 6 → prL (fewAt E n d) e = prL (fewAt E n e) e ∧ (∀ q, q < (prL (fewAt E n e) e).length → ∀ y, pvv E n (fewAt E n d) e q y = pvv E n (fewAt E n e) e q y) ∧ frl E n (fewAt E n d) e = frl E n (fewAt E n e) e := by
  intro d
  induction d with
  | zero =>
    intro h _
    have : e = 0 := by omega
    subst this
    exact ⟨rfl, fun _ _ _ => rfl, rfl⟩
  | succ d ih =>
    intro h h6
    by_cases q : e = d + 1
    · subst q; exact ⟨rfl, fun _ _ _ => rfl, rfl⟩
    · obtain ⟨i1, i2, i3⟩ := ih (by omega) (by omega)
      obtain ⟨j1, j2, j3⟩ := fwS_keep (E := E) (n := n) (LOd_up (LOd_at E n d (by omega)) (Nat.le_succ d)) (by omega) h6 (show e < d + 1 by omega) (wd (d + 1)) (Nat.le_refl _)
      exact ⟨j1.trans i1, fun q' hq' y => (j2 q' (by rw [i1]; exact hq') y).trans (i2 q' hq' y), j3.trans i3⟩
theorem prL_0 {L : List (Nat × Nat)} (h : LOK L) : prL L 0 = [[]] := by
  have key : ∀ m i, L.length - i ≤ m → enl (fwd L) L.length i 0 = [[]] := by
    intro m
    induction m with
    | zero => intro i hi; rw [enl_n (by omega), if_pos rfl]
    | succ m ih =>
      intro i hi
      by_cases q : L.length ≤ i
      · rw [enl_n q, if_pos rfl]
      · have := (h i (by omega)).1
        rw [enl_s (fun i hi => (h i hi).1) (by omega), if_neg (by omega), List.nil_append]
        exact ih (i + 1) (by omega)
  exact key _ 0 (Nat.le_refl _)
/-- PRODUCTS with FEW i first; those with 0 .. i - 1 stand ahead -/
def flt (L : List (Nat × Nat)) (d i : Nat) : List (List Nat) := if fwd L i ≤ d then ((prL L (d - fwd L i)).filter (fun l => decide (i ≤ lst l))).map (fun l => i :: l) else []
def ctp (L : List (Nat × Nat)) (d : Nat) : Nat → List (List Nat)
  | 0 => []
  | i + 1 => ctp L d i ++ flt L d i
theorem ctp_ok {L : List (Nat × Nat)} {d : Nat} (h : LOK L) (h6 : L.length ≤ 6) : ∀ i, i ≤ L.length → prL L d = ctp L d i ++ enl (fwd L) L.length i d
  | 0, _ => rfl
  | i + 1, hi => by
    rw [ctp_ok h h6 i (by omega), enl_s (fun i hi => (h i hi).1) (show i < L.length by omega), ← List.append_assoc]
    congr 1
    show _ = ctp L d i ++ flt L d i
    congr 1
    unfold flt
    by_cases q : fwd L i ≤ d
    · rw [if_pos q, if_pos q]
      congr 1
      exact (enl_fil (fun i hi => (h i hi).1) h6 (show i ≤ L.length by omega) 0 _ (Nat.zero_le _)).symm
    · rw [if_neg q, if_neg q]
theorem ctp_all {L : List (Nat × Nat)} {d : Nat} (h : LOK L) (h6 : L.length ≤ 6) (hd : 1 ≤ d) : prL L d = ctp L d L.length := by
  rw [ctp_ok h h6 L.length (Nat.le_refl _), enl_n (Nat.le_refl _), if_neg (by omega), List.append_nil]
