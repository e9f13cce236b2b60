/-! sums of multiples modulo the prime: pure -/
def em (a b : Int) : Prop := a % 32003 = b % 32003
theorem em_r (a : Int) : em a a := rfl
theorem em_sy {a b : Int} (h : em a b) : em b a := Eq.symm h
theorem em_t {a b c : Int} (h1 : em a b) (h2 : em b c) : em a c := Eq.trans h1 h2
theorem em_add {a b c d : Int} (h1 : em a b) (h2 : em c d) : em (a + c) (b + d) := by unfold em at *; rw [Int.add_emod, h1, h2, ← Int.add_emod]
theorem em_sub {a b c d : Int} (h1 : em a b) (h2 : em c d) : em (a - c) (b - d) := by unfold em at *; rw [Int.sub_emod, h1, h2, ← Int.sub_emod]
theorem em_mul {a b c d : Int} (h1 : em a b) (h2 : em c d) : em (a * c) (b * d) := by unfold em at *; rw [Int.mul_emod, h1, h2, ← Int.mul_emod]
theorem em_neg {a b : Int} (h : em a b) : em (-a) (-b) := by
  have := em_sub (em_r 0) h
  rw [Int.zero_sub, Int.zero_sub] at this
  exact this
theorem em_md (a : Int) : em (a % 32003) a := Int.emod_emod _ _
theorem em_0 {a : Int} (h : 0 ≤ a ∧ a < 32003) : em a 0 ↔ a = 0 := by unfold em; omega
theorem em_sm {F G : Nat → Int} : ∀ n, (∀ k, k < n → em (F k) (G k)) → em (sm F n) (sm G n)
  | 0, _ => em_r _
  | n + 1, h => em_add (em_sm n (fun k hk => h k (by omega))) (h n (by omega))
theorem em_sm0 {F : Nat → Int} {n : Nat} (h : ∀ k, k < n → em (F k) 0) : em (sm F n) 0 := by
  have := em_sm (G := fun _ => 0) n h
  rw [sm_0] at this
  exact this
/-- w is a sum of multiples of V 0 .. V (m - 1), at the first W places -/
def inS (V : Nat → Nat → Int) (m W : Nat) (w : Nat → Int) : Prop := ∃ c : Nat → Int, ∀ k, k < W → em (w k) (sm (fun f => c f * V f k) m)
def Ind (V : Nat → Nat → Int) (m W : Nat) : Prop := ∀ c : Nat → Int, (∀ k, k < W → em (sm (fun f => c f * V f k) m) 0) → ∀ f, f < m → em (c f) 0
theorem inS_cg {V V' : Nat → Nat → Int} {m W : Nat} {w w' : Nat → Int} (hV : ∀ f, f < m → ∀ k, k < W → em (V f k) (V' f k)) (hw : ∀ k, k < W → em (w k) (w' k)) (h : inS V m W w) : inS V' m W w' := by
  obtain ⟨c, hc⟩ := h
  exact ⟨c, fun k hk => em_t (em_sy (hw k hk)) (em_t (hc k hk) (em_sm m (fun f hf => em_mul (em_r _) (hV f hf k hk))))⟩
theorem Ind_cg {V V' : Nat → Nat → Int} {m W : Nat} (hV : ∀ f, f < m → ∀ k, k < W → em (V f k) (V' f k)) (h : Ind V m W) : Ind V' m W := fun c hc f hf => h c (fun k hk => em_t (em_sm m (fun f hf => em_mul (em_r _) (hV f hf k hk))) (hc k hk)) f hf
/-- sums of multiples of sums of multiples -/
theorem inS_tr {V r : Nat → Nat → Int} {m m' W : Nat} {w : Nat → Int} (h : inS r m' W w) (hr : ∀ f, f < m' → inS V m W (r f)) : inS V m W w := by
  obtain ⟨c, hc⟩ := h
  have hx : ∃ M : Nat → Nat → Int, ∀ f, f < m' → ∀ k, k < W → em (r f k) (sm (fun g => M f g * V g k) m) := by
    refine ⟨fun f => if h : f < m' then Classical.choose (hr f h) else fun _ => 0, fun f hf k hk => ?_⟩
    show em (r f k) (sm (fun g => (if h : f < m' then Classical.choose (hr f h) else fun _ => 0) g * V g k) m)
    rw [dif_pos hf]
    exact Classical.choose_spec (hr f hf) k hk
  obtain ⟨M, hM⟩ := hx
  refine ⟨fun g => sm (fun f => c f * M f g) m', fun k hk => ?_⟩
  refine em_t (hc k hk) ?_
  refine em_t (em_sm m' (fun f hf => em_mul (em_r (c f)) (hM f hf k hk))) ?_
  have e : sm (fun f => c f * sm (fun g => M f g * V g k) m) m' = sm (fun g => sm (fun f => c f * M f g) m' * V g k) m := by
    have e1 : sm (fun f => c f * sm (fun g => M f g * V g k) m) m' = sm (fun f => sm (fun g => c f * M f g * V g k) m) m' := sm_cg m' (fun f _ => by
      rw [← sm_mul]
      exact sm_cg m (fun g _ => by rw [Int.mul_assoc]))
    rw [e1, sm_swap]
    exact sm_cg m (fun g _ => by rw [← sm_mulr])
  rw [e]
  exact em_r _
theorem inS_1 {V : Nat → Nat → Int} {m W f : Nat} (hf : f < m) : inS V m W (V f) := ⟨fun g => if g = f then 1 else 0, fun k _ => by
  show em (V f k) (sm (fun g => (if g = f then (1 : Int) else 0) * V g k) m)
  rw [sm_one (x := f) m hf (fun g _ hne => by rw [if_neg hne, Int.zero_mul]), if_pos rfl, Int.one_mul]
  exact em_r _⟩
theorem inS_up {V : Nat → Nat → Int} {m W : Nat} {w : Nat → Int} (h : inS V m W w) : inS V (m + 1) W w := by
  obtain ⟨c, hc⟩ := h
  refine ⟨fun f => if f = m then 0 else c f, fun k hk => em_t (hc k hk) ?_⟩
  show em (sm (fun f => c f * V f k) m) (sm (fun f => (if f = m then 0 else c f) * V f k) (m + 1))
  rw [sm_s, if_pos rfl, Int.zero_mul, Int.add_zero]
  rw [sm_cg (F := fun f => (if f = m then 0 else c f) * V f k) (G := fun f => c f * V f k) m (fun f hf => by rw [if_neg (by omega)])]
  exact em_r _
theorem inS_sub {V : Nat → Nat → Int} {m W : Nat} {w w' : Nat → Int} (h : inS V m W w) (h' : inS V m W w') : inS V m W (fun k => w k - w' k) := by
  obtain ⟨c, hc⟩ := h
  obtain ⟨c', hc'⟩ := h'
  refine ⟨fun f => c f - c' f, fun k hk => em_t (em_sub (hc k hk) (hc' k hk)) ?_⟩
  rw [← sm_sub, sm_cg (G := fun f => (c f - c' f) * V f k) m (fun f _ => by rw [Int.sub_mul])]
  exact em_r _
theorem inS_sum {V : Nat → Nat → Int} {m W : Nat} {U : Nat → Nat → Int} {a : Nat → Int} : ∀ n, (∀ j, j < n → inS V m W (U j)) → inS V m W (fun k => sm (fun j => a j * U j k) n) := fun n h => inS_tr (r := U) (m' := n) ⟨a, fun k _ => em_r _⟩ h
/-- the state of an elimination: rows r with pivots, of the free V -/
def EL (V : Nat → Nat → Int) (m W : Nat) (r x : Nat → Nat → Int) (pv : Nat → Nat) : Prop :=
  (∀ f, f < m → ∀ k, k < W → em (r f k) (sm (fun g => x f g * V g k) m)) ∧ (∀ f, f < m → pv f < W ∧ em (r f (pv f)) 1) ∧ (∀ f g, f < g → g < m → em (r g (pv f)) 0) ∧ (∀ g, g < m → inS r m W (V g)) ∧ Ind V m W
/-- what a reduction leaves: w' of w, a the multiples that were taken off -/
def Rd (r : Nat → Nat → Int) (pv : Nat → Nat) (m W : Nat) (w w' : Nat → Int) (a : Nat → Int) : Prop := (∀ k, k < W → em (w' k) (w k - sm (fun f => a f * r f k) m)) ∧ ∀ f, f < m → em (w' (pv f)) 0
theorem EL_sp {V : Nat → Nat → Int} {m W : Nat} {r x : Nat → Nat → Int} {pv : Nat → Nat} (h : EL V m W r x pv) : ∀ f, f < m → inS V m W (r f) := fun f hf => ⟨x f, h.1 f hf⟩
/-- a sum of multiples of the rows that is 0 at all pivots is 0 -/
theorem EL_pv {V : Nat → Nat → Int} {m W : Nat} {r x : Nat → Nat → Int} {pv : Nat → Nat} (h : EL V m W r x pv) {c : Nat → Int} (hz : ∀ f, f < m → em (sm (fun g => c g * r g (pv f)) m) 0) : ∀ f, f < m → em (c f) 0 := by
  intro f
  induction f using Nat.strongRecOn with
  | ind f ih =>
    intro hf
    have h1 : em (sm (fun g => c g * r g (pv f)) m) (sm (fun g => if g = f then c f else 0) m) := em_sm m (fun g hg => by
      by_cases e : g = f
      · subst e
        rw [if_pos rfl]
        have := em_mul (em_r (c g)) (h.2.1 g hg).2
        rw [Int.mul_one] at this
        exact this
      · rw [if_neg e]
        by_cases q : g < f
        · have := em_mul (ih g q hg) (em_r (r g (pv f)))
          rw [Int.zero_mul] at this
          exact this
        · have := em_mul (em_r (c g)) (h.2.2.1 f g (by omega) hg)
          rw [Int.mul_zero] at this
          exact this)
    rw [sm_one (x := f) m hf (fun g _ hne => if_neg hne), if_pos rfl] at h1
    exact em_t (em_sy h1) (hz f hf)
theorem EL_dec {V : Nat → Nat → Int} {m W : Nat} {r x : Nat → Nat → Int} {pv : Nat → Nat} {w w' a : Nat → Int} (h : EL V m W r x pv) (hR : Rd r pv m W w w' a) : inS V m W w ↔ ∀ k, k < W → em (w' k) 0 := by
  constructor
  · intro hw
    have h1 : inS r m W w := inS_tr hw (fun g hg => h.2.2.2.1 g hg)
    have h2 : inS r m W (fun k => sm (fun f => a f * r f k) m) := ⟨a, fun k _ => em_r _⟩
    obtain ⟨c, hc⟩ := inS_sub h1 h2
    have h3 : ∀ k, k < W → em (w' k) (sm (fun f => c f * r f k) m) := fun k hk => em_t (hR.1 k hk) (hc k hk)
    have h4 := EL_pv h (c := c) (fun f hf => em_t (em_sy (h3 _ (h.2.1 f hf).1)) (hR.2 f hf))
    intro k hk
    refine em_t (h3 k hk) (em_sm0 (fun f hf => ?_))
    have := em_mul (h4 f hf) (em_r (r f k))
    rw [Int.zero_mul] at this
    exact this
  · intro hz
    have h1 : inS r m W w := ⟨a, fun k hk => by
      have h2 := em_t (em_sy (hR.1 k hk)) (hz k hk)
      have h3 := em_add h2 (em_r (sm (fun f => a f * r f k) m))
      rw [Int.sub_add_cancel, Int.zero_add] at h3
      exact h3⟩
    exact inS_tr h1 (EL_sp h)
/-- the multiples that make a sum are the only ones -/
theorem EL_co {V : Nat → Nat → Int} {m W : Nat} {w c c' : Nat → Int} (h : Ind V m W) (h1 : ∀ k, k < W → em (w k) (sm (fun f => c f * V f k) m)) (h2 : ∀ k, k < W → em (w k) (sm (fun f => c' f * V f k) m)) : ∀ f, f < m → em (c f) (c' f) := by
  intro f hf
  have h3 := h (fun f => c f - c' f) (fun k hk => by
    rw [sm_cg (G := fun f => c f * V f k - c' f * V f k) m (fun f _ => Int.sub_mul _ _ _), sm_sub]
    have := em_sub (em_sy (h1 k hk)) (em_sy (h2 k hk))
    rw [Int.sub_self] at this
    exact this) f hf
  have h4 := em_add h3 (em_r (c' f))
  rw [Int.sub_add_cancel, Int.zero_add] at h4
  exact h4
theorem Ind_app {V : Nat → Nat → Int} {m W : Nat} (h : Ind V m W) (hw : ¬ inS V m W (V m)) : Ind V (m + 1) W := by
  intro c hc
  have hcm : em (c m) 0 := by
    by_cases e : em (c m) 0
    · exact e
    · exfalso
      apply hw
      have hrg := md_lt (c m)
      obtain ⟨z, hz⟩ : ∃ z : Nat, c m % 32003 = (z : Int) := ⟨(c m % 32003).toNat, by omega⟩
      have hz0 : 0 < z := by
        rcases Nat.eq_zero_or_pos z with q | q
        · exfalso; apply e; unfold em; rw [hz, q]; rfl
        · exact q
      have hiv := iv_ok hz0 (by omega)
      have hivm : em ((iv z : Int) * c m) 1 := by
        have h1 : em ((iv z : Int) * c m) ((iv z : Int) * (z : Int)) := em_mul (em_r _) (by rw [← hz]; exact em_sy (em_md _))
        refine em_t h1 ?_
        unfold em
        rw [← Int.natCast_mul]
        have : ((iv z * z : Nat) : Int) % 32003 = ((iv z * z % 32003 : Nat) : Int) := by omega
        rw [this, hiv]
        rfl
      refine ⟨fun f => -((iv z : Int) * c f), fun k hk => ?_⟩
      have h1 := hc k hk
      rw [sm_s] at h1
      have h2 := em_mul (em_r (iv z : Int)) h1
      rw [Int.mul_zero, Int.mul_add, ← Int.mul_assoc] at h2
      have h3 := em_add (em_mul hivm (em_r (V m k))) (em_r ((iv z : Int) * sm (fun f => c f * V f k) m))
      rw [Int.one_mul] at h3
      have h4 : em (V m k + (iv z : Int) * sm (fun f => c f * V f k) m) 0 := em_t (em_sy h3) (by rw [Int.add_comm]; exact h2)
      have h5 := em_sub h4 (em_r ((iv z : Int) * sm (fun f => c f * V f k) m))
      rw [Int.add_sub_cancel, Int.zero_sub] at h5
      refine em_t h5 ?_
      rw [← sm_mul, ← sm_neg, sm_cg (G := fun f => -((iv z : Int) * c f) * V f k) m (fun f _ => by rw [Int.neg_mul, Int.mul_assoc])]
      exact em_r _
  intro f hf
  by_cases e : f = m
  · rw [e]; exact hcm
  · refine h c (fun k hk => ?_) f (by omega)
    have h1 := hc k hk
    rw [sm_s] at h1
    have h2 := em_mul hcm (em_r (V m k))
    rw [Int.zero_mul] at h2
    have h3 := em_sub h1 h2
    rw [Int.add_sub_cancel, Int.sub_zero] at h3
    exact h3
/-- one row more -/
theorem EL_app {V V' : Nat → Nat → Int} {m W q : Nat} {r x r' x' : Nat → Nat → Int} {pv pv' : Nat → Nat} {w' a y : Nat → Int} {n : Int} (h : EL V m W r x pv) (hV : ∀ f, f < m → ∀ k, k < W → V' f k = V f k) (hR : Rd r pv m W (V' m) w' a)
    (hy : ∀ g, g < m → em (y g) (sm (fun f => a f * x f g) m)) (hq : q < W) (hn : em (n * w' q) 1)
    (hr : ∀ f, f < m → ∀ k, k < W → r' f k = r f k) (hx : ∀ f, f < m → ∀ g, g < m → x' f g = x f g) (hx0 : ∀ f, f < m → em (x' f m) 0) (hp : ∀ f, f < m → pv' f = pv f)
    (hr1 : ∀ k, k < W → em (r' m k) (w' k * n)) (hx1 : ∀ g, g < m → em (x' m g) (-(y g) * n)) (hx2 : em (x' m m) n) (hp1 : pv' m = q) : EL V' (m + 1) W r' x' pv' := by
  obtain ⟨hA, hB, hC, hD, hE⟩ := h
  have hnot : ¬ inS V m W (V' m) := fun hin => by
    have := (EL_dec ⟨hA, hB, hC, hD, hE⟩ hR).mp hin q hq
    have h2 := em_mul (em_r n) this
    rw [Int.mul_zero] at h2
    have h3 := em_t (em_sy hn) h2
    exact absurd h3 (by unfold em; decide)
  have hV2 : ∀ f, f < m → ∀ k, k < W → em (V f k) (V' f k) := fun f hf k hk => by rw [hV f hf k hk]; exact em_r _
  refine ⟨fun f hf k hk => ?_, fun f hf => ?_, fun f g hfg hg => ?_, fun g hg => ?_, ?_⟩
  · rw [sm_s]
    by_cases e : f = m
    · subst e
      -- n (w - Σ a r) = n V' m - n Σ y V
      refine em_t (hr1 k hk) ?_
      have h1 := em_mul (hR.1 k hk) (em_r n)
      refine em_t h1 ?_
      have h2 : em (sm (fun i => a i * r i k) f) (sm (fun g => y g * V g k) f) := by
        refine em_t (em_sm f (fun i hi => em_mul (em_r (a i)) (hA i hi k hk))) ?_
        have e1 : sm (fun i => a i * sm (fun g => x i g * V g k) f) f = sm (fun g => sm (fun i => a i * x i g) f * V g k) f := by
          rw [sm_cg (G := fun i => sm (fun g => a i * x i g * V g k) f) f (fun i _ => by
            rw [← sm_mul]
            exact sm_cg f (fun g _ => by rw [Int.mul_assoc])), sm_swap]
          exact sm_cg f (fun g _ => by rw [← sm_mulr])
        rw [e1]
        exact em_sm f (fun g hg => em_mul (em_sy (hy g hg)) (em_r _))
      refine em_t (em_mul (em_sub (em_r _) h2) (em_r n)) ?_
      have h3 : em (sm (fun g => x' f g * V' g k) f) (sm (fun g => -(y g) * n * V g k) f) := em_sm f (fun g hg => em_mul (hx1 g hg) (by rw [hV g hg k hk]; exact em_r _))
      have h4 : em (x' f f * V' f k) (n * V' f k) := em_mul hx2 (em_r _)
      refine em_sy (em_t (em_add h3 h4) ?_)
      rw [Int.sub_mul, ← sm_mulr, Int.mul_comm n (V' f k), sm_cg (G := fun g => -(y g * V g k * n)) f (fun g _ => by rw [Int.neg_mul, Int.neg_mul, Int.mul_assoc, Int.mul_comm n, ← Int.mul_assoc]), sm_neg]
      have : -sm (fun g => y g * V g k * n) f + V' f k * n = V' f k * n - sm (fun g => y g * V g k * n) f := by omega
      rw [this]
      exact em_r _
    · have hf' : f < m := by omega
      rw [hr f hf' k hk]
      refine em_t (hA f hf' k hk) ?_
      have h1 := em_mul (hx0 f hf') (em_r (V' m k))
      rw [Int.zero_mul] at h1
      have h2 := em_add (em_r (sm (fun g => x' f g * V' g k) m)) h1
      rw [Int.add_zero] at h2
      refine em_sy (em_t h2 ?_)
      exact em_sm m (fun g hg => by rw [hx f hf' g hg, hV g hg k hk]; exact em_r _)
  · by_cases e : f = m
    · subst e
      rw [hp1]
      refine ⟨hq, em_t (hr1 q hq) ?_⟩
      rw [Int.mul_comm]
      exact hn
    · have hf' : f < m := by omega
      rw [hp f hf', hr f hf' _ (hB f hf').1]
      exact hB f hf'
  · have hf' : f < m := by omega
    rw [hp f hf']
    by_cases e : g = m
    · subst e
      refine em_t (hr1 _ (hB f hf').1) ?_
      have := em_mul (hR.2 f hf') (em_r n)
      rw [Int.zero_mul] at this
      exact this
    · rw [hr g (by omega) _ (hB f hf').1]
      exact hC f g hfg (by omega)
  · have old : ∀ g, g < m → inS r' (m + 1) W (V' g) := fun g hg => inS_up (inS_cg (fun f hf k hk => by rw [hr f hf k hk]; exact em_r _) (hV2 g hg) (hD g hg))
    by_cases e : g = m
    · subst e
      -- V' m = w' + Σ a r, w' = w'(q) r' m
      have h1 : inS r' (g + 1) W (fun k => sm (fun f => a f * r f k) g) := inS_up ⟨a, fun k hk => em_sm g (fun f hf => by rw [hr f hf k hk]; exact em_r _)⟩
      have h2 : inS r' (g + 1) W w' := ⟨fun f => if f = g then w' q else 0, fun k hk => by
        show em (w' k) (sm (fun f => (if f = g then w' q else 0) * r' f k) (g + 1))
        rw [sm_one (x := g) (g + 1) (by omega) (fun f _ hne => by rw [if_neg hne, Int.zero_mul]), if_pos rfl]
        have h3 := em_mul (em_r (w' q)) (hr1 k hk)
        refine em_sy (em_t h3 ?_)
        have h4 := em_mul hn (em_r (w' k))
        rw [Int.one_mul] at h4
        have : w' q * (w' k * n) = n * w' q * w' k := by rw [Int.mul_comm (w' k) n, ← Int.mul_assoc, Int.mul_comm (w' q) n]
        rw [this]
        exact h4⟩
      obtain ⟨c1, k1⟩ := h1
      obtain ⟨c2, k2⟩ := h2
      refine ⟨fun f => c2 f + c1 f, fun k hk => ?_⟩
      have h5 := em_add (hR.1 k hk) (em_r (sm (fun f => a f * r f k) g))
      rw [Int.sub_add_cancel] at h5
      refine em_t (em_sy h5) (em_t (em_add (k2 k hk) (k1 k hk)) ?_)
      rw [← sm_add, sm_cg (G := fun f => (c2 f + c1 f) * r' f k) (g + 1) (fun f _ => by rw [Int.add_mul])]
      exact em_r _
    · exact old g (by omega)
  · exact Ind_app (Ind_cg hV2 hE) (fun hin => hnot (inS_cg (fun f hf k hk => em_sy (hV2 f hf k hk)) (fun k _ => em_r _) hin))
/-- pivots differ: there are no more rows than places -/
theorem EL_le {V : Nat → Nat → Int} {m W : Nat} {r x : Nat → Nat → Int} {pv : Nat → Nat} (h : EL V m W r x pv) : m ≤ W := by
  have key : ∀ f g, f < g → g < m → pv f ≠ pv g := fun f g hfg hg e => by
    have h1 := h.2.2.1 f g hfg hg
    have h2 := (h.2.1 g hg).2
    rw [e] at h1
    exact absurd (em_t (em_sy h1) h2) (by unfold em; decide)
  refine pig W m pv (fun f hf => (h.2.1 f hf).1) (fun f g hf hg e => ?_)
  rcases Nat.lt_trichotomy f g with q | q | q
  · exact absurd e (key f g q hg)
  · exact q
  · exact absurd e.symm (key g f q hf)
theorem EL_nil (V : Nat → Nat → Int) (W : Nat) (r x : Nat → Nat → Int) (pv : Nat → Nat) : EL V 0 W r x pv := ⟨fun f hf => absurd hf (Nat.not_lt_zero _), fun f hf => absurd hf (Nat.not_lt_zero _), fun f g _ hg => absurd hg (Nat.not_lt_zero _), fun g hg => absurd hg (Nat.not_lt_zero _), fun c _ f hf => absurd hf (Nat.not_lt_zero _)⟩
/-- one reduction's step -/
theorem Rd_s {r : Nat → Nat → Int} {pv : Nat → Nat} {j W : Nat} {w w1 w2 : Nat → Int} {a : Nat → Int} (hB : em (r j (pv j)) 1) (hj : pv j < W) (hpf : ∀ f, f < j → pv f < W ∧ em (r j (pv f)) 0) (h : Rd r pv j W w w1 a) (ha : em (a j) (w1 (pv j))) (h2 : ∀ k, k < W → em (w2 k) (w1 k - a j * r j k)) : Rd r pv (j + 1) W w w2 a := by
  refine ⟨fun k hk => ?_, fun f hf => ?_⟩
  · rw [sm_s]
    refine em_t (h2 k hk) ?_
    have := em_sub (h.1 k hk) (em_r (a j * r j k))
    refine em_t this ?_
    have e : w k - sm (fun f => a f * r f k) j - a j * r j k = w k - (sm (fun f => a f * r f k) j + a j * r j k) := by omega
    rw [e]
    exact em_r _
  · by_cases e : f = j
    · subst e
      refine em_t (h2 _ hj) ?_
      have h3 := em_sub (em_r (w1 (pv f))) (em_mul ha hB)
      rw [Int.mul_one, Int.sub_self] at h3
      exact h3
    · obtain ⟨q1, q2⟩ := hpf f (by omega)
      refine em_t (h2 _ q1) ?_
      have h3 := em_sub (h.2 f (by omega)) (em_mul (em_r (a j)) q2)
      rw [Int.mul_zero, Int.sub_zero] at h3
      exact h3
theorem Rd_0 (r : Nat → Nat → Int) (pv : Nat → Nat) (W : Nat) (w : Nat → Int) (a : Nat → Int) : Rd r pv 0 W w w a := ⟨fun k _ => by show em (w k) (w k - 0); rw [Int.sub_zero]; exact em_r _, fun f hf => absurd hf (Nat.not_lt_zero _)⟩
