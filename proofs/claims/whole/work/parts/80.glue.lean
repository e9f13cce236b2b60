/-! class and reference side by side: what they bear -/
abbrev aSt : Type := (Nat → Option tn) × (Nat → tn) × Nat × (Nat → Nat → Int) × List (Nat × Int × List Nat) × Nat × Bool × tn × List tn
def sT (S : aSt) : Nat → Option tn := S.1
def sM (S : aSt) : Nat → tn := S.2.1
def sk (S : aSt) : Nat := S.2.2.1
def sP (S : aSt) : Nat → Nat → Int := S.2.2.2.1
def sQ (S : aSt) : List (Nat × Int × List Nat) := S.2.2.2.2.1
def sW (S : aSt) : Nat := S.2.2.2.2.2.1
def sAc (S : aSt) : Bool := S.2.2.2.2.2.2.1
def sp (S : aSt) : tn := S.2.2.2.2.2.2.2.1
def sL (S : aSt) : List tn := S.2.2.2.2.2.2.2.2
def sE (S : aSt) : Nat → tn := bE (bfs (sM S) (sk S))
def sn (S : aSt) : Nat := (bfs (sM S) (sk S)).length
def sc (S : aSt) : List Nat := sgs (sM S) (sk S) (2 ^ sk S)
def sg (S : aSt) (c g : Nat) : Int := rwc (sk S) (bfs (sM S) (sk S)) ((sc S).getD c 0) g
noncomputable def sF (S : aSt) : List (Nat × Nat) := fewAt (sE S) (sn S) 6
/-- the FEW: not found yet, or found -/
def CFl (σ : mS) (E : Nat → tn) (n : Nat) : Prop := (∀ i, i < 6 → σ 49 0 i = 0) ∧ (σ 42 0 1 = 0 ∨ (σ 42 0 1 = 1 ∧ CFw σ E n))
def CI (σ : mS) (S : aSt) : Prop := TC σ (sT S) ∧ CGr σ (sM S) (sk S) ∧ CS σ (sM S) (sk S) (sc S) ∧ CPw σ ∧ CLy σ ∧ CFl σ (sE S) (sn S) ∧ CP σ (sP S) ∧ CPt σ (sQ S) (sW S) ∧ IMC σ (sAc S) (sp S) (sL S)
def RCl (σ : mS) (E : Nat → tn) (n : Nat) : Prop := σ 71 0 10 = ((clo E n n).2 : Int) ∧ ∀ k, k < n → σ 78 0 k = (clo E n n).1 k
def RI (σ : mS) (S : aSt) : Prop := TR σ (sT S) ∧ RGr σ (sM S) (sk S) ∧ RS σ (sM S) (sk S) (sc S) ∧ RCl σ (sE S) (sn S) ∧ RP σ (sP S) ∧ RFw σ (sE S) (sn S) (sF S) ∧ RPt σ (sQ S) (sW S) ∧ IMR σ (sAc S) (sp S) (sL S)
def PI (S : aSt) : Prop := ∀ p, p < 8 → nm (sP S p)
def INV (σ : mS) : Prop := ∃ S, CI σ S ∧ RI σ S ∧ PI S
def okC (σ s : mS) : Prop := ∀ r i k, 70 < r → s r i k = σ r i k
def okR (s s' : mS) : Prop := ∀ r i k, (r < 71 ∨ 98 < r) → s' r i k = s r i k
theorem okC_rfl {σ : mS} : okC σ σ := fun _ _ _ _ => rfl
theorem okR_rfl {σ : mS} : okR σ σ := fun _ _ _ _ => rfl
theorem okC_t {a b c : mS} (h1 : okC a b) (h2 : okC b c) : okC a c := fun r i k h => (h2 r i k h).trans (h1 r i k h)
theorem okR_t {a b c : mS} (h1 : okR a b) (h2 : okR b c) : okR a c := fun r i k h => (h2 r i k h).trans (h1 r i k h)
theorem okC_fr {R : List Nat} {σ s : mS} (h : fr R σ s) (hR : ∀ r, r ∈ R → r ≤ 70) : okC σ s := fun r i k hr => h r i k (fun z => by have := hR r z; omega)
theorem okR_fq {R K : List Nat} {σ s : mS} (h : fq R K σ s) (hR : ∀ r, r ∈ R → 71 ≤ r ∧ r ≤ 98) : okR σ s := fun r i k hr => h.1 r i k (fun z => by have := hR r z; omega) (by omega)
theorem okR_fr {R : List Nat} {σ s : mS} (h : fr R σ s) (hR : ∀ r, r ∈ R → 71 ≤ r ∧ r ≤ 98) : okR σ s := fun r i k hr => h r i k (fun z => by have := hR r z; omega)
theorem ag_okR {L : List Nat} {σ s : mS} (h : okR σ s) (hL : ∀ r, r ∈ L → r < 71) : ag L σ s := fun r hr i k => h r i k (Or.inl (hL r hr))
theorem fq_okC {σ s : mS} (h : okC σ s) : fq (List.range 71) [] σ s := ⟨fun r i k hr _ => h r i k (by have : ¬ r < 71 := fun z => hr (List.mem_range.mpr z); omega), fun k _ => h 71 0 k (by omega)⟩
-- frames of the pieces
theorem TC_ag {σ σ' : mS} {T : Nat → Option tn} (h : TC σ T) (hf : ag [3, 4] σ σ') : TC σ' T := fun i hi => ⟨by rw [hf 4 (by decide)]; exact (h i hi).1, fun t ht => ⟨((h i hi).2 t ht).1, by rw [hf 3 (by decide), hf 3 (by decide), hf 3 (by decide)]; exact ((h i hi).2 t ht).2⟩⟩
theorem CS_ag {σ σ' : mS} {M : Nat → tn} {m : Nat} {l : List Nat} (h : CS σ M m l) (hf : ag [26, 28] σ σ') : CS σ' M m l := ⟨by rw [hf 26 (by decide)]; exact h.1, fun k hk g hg => by rw [hf 28 (by decide)]; exact h.2 k hk g hg⟩
theorem CLy_ag {σ σ' : mS} (h : CLy σ) (hf : ag [47] σ σ') : CLy σ' := fun d hd => by rw [hf 47 (by decide), hf 47 (by decide), hf 47 (by decide)]; exact h d hd
theorem CP_ag {σ σ' : mS} {P : Nat → Nat → Int} (h : CP σ P) (hf : ag [33] σ σ') : CP σ' P := fun p hp x hx => by rw [hf 33 (by decide)]; exact h p hp x hx
theorem CPt_ag {σ σ' : mS} {pts : List (Nat × Int × List Nat)} {fw : Nat} (h : CPt σ pts fw) (hf : ag [61, 62, 63, 65] σ σ') : CPt σ' pts fw := by
  obtain ⟨a, b, c, d, e⟩ := h
  refine ⟨by rw [hf 61 (by decide)]; exact a, by rw [hf 61 (by decide)]; exact b, c, d, fun k hk => ?_⟩
  rw [hf 62 (by decide), hf 63 (by decide)]
  obtain ⟨e1, e2, e3⟩ := e k hk
  exact ⟨e1, e2, fun j hj => by rw [hf 65 (by decide)]; exact e3 j hj⟩
theorem C3_ag {σ σ' : mS} {r i b : Nat} {p : tn} (h : C3 σ r i b p) (hf : ∀ k, σ' r i k = σ r i k) : C3 σ' r i b p := ⟨by rw [hf]; exact h.1, by rw [hf]; exact h.2.1, by rw [hf]; exact h.2.2⟩
theorem IMC_ag {σ σ' : mS} {a : Bool} {pl : tn} {l : List tn} (h : IMC σ a pl l) (hf : ag [66, 67, 69] σ σ') : IMC σ' a pl l := ⟨by rw [hf 66 (by decide)]; exact h.1, fun z => C3_ag (h.2.1 z) (fun k => hf 67 (by decide) _ _), ⟨by rw [hf 66 (by decide)]; exact h.2.2.1.1, fun k hk => C3_ag (h.2.2.1.2 k hk) (fun k => hf 69 (by decide) _ _)⟩, h.2.2.2⟩
theorem CFl_ag {σ σ' : mS} {E : Nat → tn} {n : Nat} (hG : GP E n) (h : CFl σ E n) (hf : ag [42, 43, 44, 47, 49, 51, 52, 53, 55, 57, 58] σ σ') : CFl σ' E n := by
  refine ⟨fun i hi => by rw [hf 49 (by decide)]; exact h.1 i hi, ?_⟩
  rcases h.2 with a | ⟨a, b, c⟩
  · left; rw [hf 42 (by decide)]; exact a
  · right
    refine ⟨by rw [hf 42 (by decide)]; exact a, ⟨by rw [hf 42 (by decide)]; exact b.1, fun i hi => by rw [hf 43 (by decide), hf 44 (by decide)]; exact b.2 i hi⟩, fun d hd => LPq_ag (c d hd) ?_ ⟨fun k => hf 47 (by decide) _ _, fun p k _ => ⟨hf 51 (by decide) _ _, hf 49 (by decide) _ _, hf 55 (by decide) _ _, hf 57 (by decide) _ _⟩, fun k => ⟨hf 52 (by decide) _ _, hf 53 (by decide) _ _, hf 58 (by decide) _ _⟩⟩⟩
    have g1 := (BD_all hG).2 d hd
    have g2 := gmo_le d (List.mem_range.mpr (by omega))
    omega
theorem CI_G {σ : mS} {S : aSt} (h : CI σ S) : GP (sE S) (sn S) := h.2.1.2.2.1.2.1
theorem CI_n {σ : mS} {S : aSt} (h : CI σ S) : σ 5 0 0 = (sn S : Int) := h.2.1.2.2.1.1
theorem CI_48 {σ : mS} {S : aSt} (h : CI σ S) : sn S ≤ 48 := CT_48 h.2.1.2.2.1
theorem CI_E {σ : mS} {S : aSt} (h : CI σ S) : ∀ g, g < sn S → elC σ g = sE S g := h.2.1.1.1.2.1
theorem CI_M {σ : mS} {S : aSt} (h : CI σ S) : sk S ≤ 4 ∧ ∀ t, t < sk S → tok (sM S t) := h.2.1.1.2.2.2.2.2
def cRg : List Nat := [3, 4, 5, 7, 8, 12, 13, 14, 16, 17, 18, 19, 20, 21, 22, 26, 28, 33, 39, 40, 42, 43, 44, 47, 49, 51, 52, 53, 55, 57, 58, 61, 62, 63, 65, 66, 67, 69]
theorem ag_sub {L L' : List Nat} {σ σ' : mS} (h : ag L σ σ') (hs : ∀ r, r ∈ L' → r ∈ L) : ag L' σ σ' := fun r hr => h r (hs r hr)
theorem CI_ag {σ σ' : mS} {S : aSt} (h : CI σ S) (hf : ag cRg σ σ') : CI σ' S := by
  have hG := CI_G h
  obtain ⟨a, b, c, d, e, f, g, i, j⟩ := h
  exact ⟨TC_ag a (ag_sub hf (by decide)), CGr_ag b (ag_sub hf (by decide)), CS_ag c (ag_sub hf (by decide)), CPw_ag d (ag_sub hf (by decide)), CLy_ag e (ag_sub hf (by decide)), CFl_ag hG f (ag_sub hf (by decide)), CP_ag g (ag_sub hf (by decide)), CPt_ag i (ag_sub hf (by decide)), IMC_ag j (ag_sub hf (by decide))⟩
/-- the polynomials anew -/
def setP (S : aSt) (P : Nat → Nat → Int) : aSt := (sT S, sM S, sk S, P, sQ S, sW S, sAc S, sp S, sL S)
theorem CI_P {σ σ' : mS} {S : aSt} {P : Nat → Nat → Int} (h : CI σ S) (hf : ag [3, 4, 5, 7, 8, 12, 13, 14, 16, 17, 18, 19, 20, 21, 22, 26, 28, 39, 40, 42, 43, 44, 47, 49, 51, 52, 53, 55, 57, 58, 61, 62, 63, 65, 66, 67, 69] σ σ') (hP : CP σ' P) : CI σ' (setP S P) := by
  have hG := CI_G h
  obtain ⟨a, b, c, d, e, f, g, i, j⟩ := h
  exact ⟨TC_ag a (ag_sub hf (by decide)), CGr_ag b (ag_sub hf (by decide)), CS_ag c (ag_sub hf (by decide)), CPw_ag d (ag_sub hf (by decide)), CLy_ag e (ag_sub hf (by decide)), CFl_ag hG f (ag_sub hf (by decide)), hP, CPt_ag i (ag_sub hf (by decide)), IMC_ag j (ag_sub hf (by decide))⟩
-- the reference's pieces
theorem TR_fq {σ σ' : mS} {T : Nat → Option tn} {R K : List Nat} (h : TR σ T) (hf : fq R K σ σ') (h2 : 72 ∉ R) (h3 : 73 ∉ R) : TR σ' T := fun i hi => ⟨by rw [hf.1 72 _ _ h2 (by decide)]; exact (h i hi).1, fun t ht => ⟨((h i hi).2 t ht).1, by rw [hf.1 73 _ _ h3 (by decide), hf.1 73 _ _ h3 (by decide), hf.1 73 _ _ h3 (by decide)]; exact ((h i hi).2 t ht).2⟩⟩
theorem RS_fq {σ σ' : mS} {M : Nat → tn} {m : Nat} {l : List Nat} {R K : List Nat} (h : RS σ M m l) (hf : fq R K σ σ') (h2 : 79 ∉ R) (h3 : 11 ∉ K) : RS σ' M m l := ⟨by rw [hf.2 11 h3]; exact h.1, fun k hk g hg => by rw [hf.1 79 _ _ h2 (by decide)]; exact h.2 k hk g hg⟩
theorem RCl_fq {σ σ' : mS} {E : Nat → tn} {n : Nat} {R K : List Nat} (h : RCl σ E n) (hf : fq R K σ σ') (h2 : 78 ∉ R) (h3 : 10 ∉ K) : RCl σ' E n := ⟨by rw [hf.2 10 h3]; exact h.1, fun k hk => by rw [hf.1 78 _ _ h2 (by decide)]; exact h.2 k hk⟩
theorem IMR_fq {σ σ' : mS} {a : Bool} {pl : tn} {l : List tn} {R K : List Nat} (h : IMR σ a pl l) (hf : fq R K σ σ') (h2 : 96 ∉ R) (h3 : 97 ∉ R) (h4 : 40 ∉ K) (h5 : 41 ∉ K) : IMR σ' a pl l := ⟨by rw [hf.2 41 h5]; exact h.1, fun z => C3_fq (h.2.1 z) hf h2 (by decide), ⟨by rw [hf.2 40 h4]; exact h.2.2.1.1, fun k hk => C3_fq (h.2.2.1.2 k hk) hf h3 (by decide)⟩, h.2.2.2⟩
def rRg : List Nat := [72, 73, 74, 75, 76, 77, 78, 79, 83, 84, 93, 94, 95, 96, 97]
def rKs : List Nat := [6, 7, 10, 11, 19, 32, 36, 40, 41]
theorem RI_G {σ : mS} {S : aSt} (h : RI σ S) : RG σ (sE S) (sn S) := RGr_G h.2.1
theorem RI_P {σ σ' : mS} {S : aSt} {R K : List Nat} {P : Nat → Nat → Int} (h : RI σ S) (hf : fq R K σ σ') (hR : ∀ r, r ∈ rRg → r ∉ R) (hK : ∀ k, k ∈ rKs → k ∉ K) (hP : RP σ' P) : RI σ' (setP S P) := by
  obtain ⟨a, b, c, d, e, f, g, i⟩ := h
  exact ⟨TR_fq a hf (hR _ (by decide)) (hR _ (by decide)), RGr_fq b hf (fun r hr => hR r (by revert r; decide)) (fun k hk => hK k (by revert k; decide)), RS_fq c hf (hR _ (by decide)) (hK _ (by decide)), RCl_fq d hf (hR _ (by decide)) (hK _ (by decide)), hP, RFw_fq f hf (hR _ (by decide)) (hR _ (by decide)) (hK _ (by decide)), RPt_fq g hf (fun r hr => hR r (by revert r; decide)) ⟨hK _ (by decide), hK _ (by decide)⟩, IMR_fq i hf (hR _ (by decide)) (hR _ (by decide)) (hK _ (by decide)) (hK _ (by decide))⟩
theorem RI_k {σ σ' : mS} {S : aSt} {R K : List Nat} (h : RI σ S) (hf : fq R K σ σ') (hR : ∀ r, r ∈ rRg → r ∉ R) (hK : ∀ k, k ∈ rKs → k ∉ K) (hP : ∀ c, c < 5832 → σ' 81 0 c = σ 81 0 c) : RI σ' S := RI_P h hf hR hK (RP_fD h.2.2.2.2.1 hP)
theorem RI_okC {σ s : mS} {S : aSt} (h : RI σ S) (hc : okC σ s) : RI s S := RI_k h (fq_okC hc) (by decide) (fun k _ => by simp) (fun c _ => hc _ _ _ (by omega))
theorem CI_okR {σ s : mS} {S : aSt} (h : CI σ S) (hc : okR σ s) : CI s S := CI_ag h (ag_okR hc (by decide))
/-- both answer the same, and what they bear stays in step -/
def SIM (A B : mS → Option (Int × mS)) : Prop := ∀ σ, INV σ → ∃ v s s', A σ = some (v, s) ∧ okC σ s ∧ B s = some (v, s') ∧ okR s s' ∧ INV s'
theorem SIM_i {A B : mS → Option (Int × mS)} (h : ∀ σ S, CI σ S → PI S → ∃ v s S', A σ = some (v, s) ∧ okC σ s ∧ CI s S' ∧ PI S' ∧ ∀ σ1, RI σ1 S → ∃ s', B σ1 = some (v, s') ∧ okR σ1 s' ∧ RI s' S') : SIM A B := by
  rintro σ ⟨S, hC, hR, hP⟩
  obtain ⟨v, s, S', a, b, c, d, e⟩ := h σ S hC hP
  obtain ⟨s', f, g, i⟩ := e s (RI_okC hR b)
  exact ⟨v, s, s', a, b, f, g, S', CI_okR c g, i, d⟩
theorem SIM_ro {A B : mS → Option (Int × mS)} (h : ∀ σ S, CI σ S → PI S → ∃ v, A σ = some (v, σ) ∧ ∀ σ1, RI σ1 S → B σ1 = some (v, σ1)) : SIM A B := SIM_i (fun σ S hC hP => by
  obtain ⟨v, a, b⟩ := h σ S hC hP
  exact ⟨v, σ, S, a, okC_rfl, hC, hP, fun σ1 h1 => ⟨σ1, b σ1 h1, okR_rfl, h1⟩⟩)
-- signs
theorem sc_le {S : aSt} (h : sk S ≤ 4) : (sc S).length ≤ 16 := by
  have h1 := sgs_le (sM S) (sk S) (2 ^ sk S)
  have h2 := pw16 (sk S) (List.mem_range.mpr (by omega))
  unfold sc
  omega
theorem sc_v {S : aSt} {c : Nat} (hc : c < (sc S).length) : vlb (sM S) (sk S) (bfs (sM S) (sk S)) (vC (sk S) ((sc S).getD c 0)) = true := by
  have hm : (sc S).getD c 0 ∈ sc S := by
    rw [List.getD_eq_getElem?_getD, List.getElem?_eq_getElem hc]
    exact List.getElem_mem hc
  exact (sgs_mem.mp hm).2
theorem CI_Gn {σ : mS} {S : aSt} (h : CI σ S) : Gn (sM S) (sk S) (bfs (sM S) (sk S)) := h.2.1.1.2.2.2.1
theorem sg_pm {σ : mS} {S : aSt} (h : CI σ S) {c g : Nat} (hg : g < sn S) : sg S c g = 1 ∨ sg S c g = -1 := rwv_pm (CI_Gn h) (vC_pm _ _) g hg
theorem sg_mul {σ : mS} {S : aSt} (h : CI σ S) {c : Nat} (hc : c < (sc S).length) : ∀ g k, g < sn S → k < sn S → sg S c (gm (sE S) (sn S) g k) = sg S c g * sg S c k := fun _ k hg hk => vlb_mul (CI_G h) (CI_Gn h) (Hm_bfs (CI_M h).2) (sc_v hc) hg k hk
theorem CI_sg {σ : mS} {S : aSt} (h : CI σ S) {c : Nat} (hc : c < (sc S).length) : ∀ g, g < sn S → σ 28 c g = sg S c g ∧ (sg S c g = 1 ∨ sg S c g = -1) := fun g hg => ⟨h.2.2.1.2 c hc g hg, sg_pm h hg⟩
theorem RI_sg {σ σ1 : mS} {S : aSt} (hC : CI σ S) (h : RI σ1 S) {c : Nat} (hc : c < (sc S).length) : ∀ g, g < sn S → σ1 79 0 (48 * c + g) = sg S c g ∧ (sg S c g = 1 ∨ sg S c g = -1) := fun g hg => ⟨h.2.2.1.2 c hc g hg, sg_pm hC hg⟩
theorem rwF_1 (l : List be) {v : Nat → Int} (hv : ∀ t, v t = 1) : ∀ f g, rwF l v f g = 1
  | 0, _ => rfl
  | f + 1, g => by
    rw [rwF_s]
    by_cases e : g = 0
    · rw [if_pos e]
    · rw [if_neg e, rwF_1 l hv f, hv]; rfl
theorem vC_0 (m t : Nat) : vC m 0 t = 1 := by unfold vC; rw [Nat.zero_shiftRight]; rfl
theorem sc_0 (S : aSt) : 0 < (sc S).length ∧ ∀ g, sg S 0 g = 1 := by
  have hv : vlb (sM S) (sk S) (bfs (sM S) (sk S)) (vC (sk S) 0) = true := alb_of (fun t _ => alb_of (fun g _ => decide_eq_true (by
    show rwF _ _ _ _ = rwF _ _ _ _ * _
    rw [rwF_1 _ (vC_0 _), rwF_1 _ (vC_0 _), vC_0]; rfl)))
  have h : ∀ j, ∃ t, sgs (sM S) (sk S) (j + 1) = 0 :: t := by
    intro j
    induction j with
    | zero =>
      refine ⟨[], ?_⟩
      rw [sgs_s, if_pos hv]
      rfl
    | succ j ih =>
      obtain ⟨t, ht⟩ := ih
      rw [sgs_s, ht]
      exact ⟨_, rfl⟩
  obtain ⟨t, ht⟩ := h (2 ^ sk S - 1)
  rw [show 2 ^ sk S - 1 + 1 = 2 ^ sk S from Nat.sub_add_cancel (Nat.one_le_two_pow)] at ht
  have e : sc S = 0 :: t := ht
  refine ⟨by rw [e]; exact Nat.succ_pos _, fun g => ?_⟩
  unfold sg
  rw [e]
  exact rwF_1 _ (vC_0 _) _ _
-- has
theorem X1_has_eq {N n : Nat} {a : Int} {σ : mS} (h : σ 5 0 0 = (n : Int)) : f_X1_has N a σ = some (if 0 ≤ a ∧ a < (n : Int) then 1 else 0, σ) := by
  unfold f_X1_has
  rw [h]
  by_cases q1 : a < 0
  · rw [if_pos q1, if_neg (by omega)]
  · rw [if_neg q1]
    by_cases q2 : (n : Int) ≤ a
    · rw [if_pos q2, if_neg (by omega)]
    · rw [if_neg q2, if_pos (by omega)]
theorem X9_has_eq {N n : Nat} {a : Int} {σ : mS} (h : σ 26 0 0 = (n : Int)) : f_X9_has N a σ = some (if 0 ≤ a ∧ a < (n : Int) then 1 else 0, σ) := by
  unfold f_X9_has
  rw [h]
  by_cases q1 : a < 0
  · rw [if_pos q1, if_neg (by omega)]
  · rw [if_neg q1]
    by_cases q2 : (n : Int) ≤ a
    · rw [if_pos q2, if_neg (by omega)]
    · rw [if_neg q2, if_pos (by omega)]
theorem X0_has_eq {N n : Nat} {a : Int} {σ : mS} (h : σ 42 0 0 = (n : Int)) : f_X0_has N a σ = some (if 0 ≤ a ∧ a < (n : Int) then 1 else 0, σ) := by
  unfold f_X0_has
  rw [h]
  by_cases q1 : a < 0
  · rw [if_pos q1, if_neg (by omega)]
  · rw [if_neg q1]
    by_cases q2 : (n : Int) ≤ a
    · rw [if_pos q2, if_neg (by omega)]
    · rw [if_neg q2, if_pos (by omega)]
theorem X6_has_eq {N : Nat} {a : Int} {σ : mS} : f_X6_has N a σ = some (if 0 ≤ a ∧ a < 8 then 1 else 0, σ) := by
  unfold f_X6_has
  by_cases q1 : a < 0
  · rw [if_pos q1, if_neg (by omega)]
  · rw [if_neg q1]
    by_cases q2 : 8 ≤ a
    · rw [if_pos q2, if_neg (by omega)]
    · rw [if_neg q2, if_pos (by omega)]
theorem X12_in_eq {N : Nat} {a l m : Int} {σ : mS} : f_X12_isIn N a l m σ = some (if l ≤ a ∧ a ≤ m then 1 else 0, σ) := by
  by_cases q : l ≤ a ∧ a ≤ m
  · rw [if_pos q]; exact X12_isIn_eq.1 q
  · rw [if_neg q]; exact X12_isIn_eq.2 q
theorem X12_isE_eq {N n : Nat} {a : Int} {σ : mS} (h : σ 71 0 6 = (n : Int)) (hn : n ≤ 48) : f_X12_isElement N a σ = some (if 0 ≤ a ∧ a < (n : Int) then 1 else 0, σ) := by
  unfold f_X12_isElement
  rw [h, mw_id (by omega) (by omega), X12_in_eq, Option.bind_some]
  try dsimp only
  by_cases q : 0 ≤ a ∧ a < (n : Int)
  · rw [if_pos (c := 0 ≤ a ∧ a ≤ (n : Int) - 1) (by omega), if_pos (Or.inr rfl), if_pos q]
  · rw [if_neg (c := 0 ≤ a ∧ a ≤ (n : Int) - 1) (by omega), if_pos (Or.inl rfl), if_neg q]
theorem X12_isS_eq {N n : Nat} {a : Int} {σ : mS} (h : σ 71 0 11 = (n : Int)) (hn : n ≤ 16) : f_X12_isSign N a σ = some (if 0 ≤ a ∧ a < (n : Int) then 1 else 0, σ) := by
  unfold f_X12_isSign
  rw [h, mw_id (by omega) (by omega), X12_in_eq, Option.bind_some]
  try dsimp only
  by_cases q : 0 ≤ a ∧ a < (n : Int)
  · rw [if_pos (c := 0 ≤ a ∧ a ≤ (n : Int) - 1) (by omega), if_pos (Or.inr rfl), if_pos q]
  · rw [if_neg (c := 0 ≤ a ∧ a ≤ (n : Int) - 1) (by omega), if_pos (Or.inl rfl), if_neg q]
theorem X12_isP_eq {N : Nat} {a : Int} {σ : mS} : f_X12_isPoly N a σ = some (if 0 ≤ a ∧ a < 8 then 1 else 0, σ) := by
  unfold f_X12_isPoly
  rw [X12_in_eq, Option.bind_some]
  try dsimp only
  by_cases q : 0 ≤ a ∧ a < 8
  · rw [if_pos (c := 0 ≤ a ∧ a ≤ 7) (by omega), if_pos (Or.inr rfl), if_pos q]
  · rw [if_neg (c := 0 ≤ a ∧ a ≤ 7) (by omega), if_pos (Or.inl rfl), if_neg q]
