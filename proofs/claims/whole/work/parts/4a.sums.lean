/-! counts and sums: pure -/
theorem lp2_up {A S O : Type} (L : Nat → Int → A → S → Option O) (I : Nat → A → S → Prop) (P : O → Prop) (hi : Nat)
    (hs : ∀ f k a s, k < hi → I k a s → (∃ a' s', L (f + 1) (k : Int) a s = L f ((k + 1 : Nat) : Int) a' s' ∧ I (k + 1) a' s') ∨ ∃ o, L (f + 1) (k : Int) a s = some o ∧ P o)
    (he : ∀ f a s, I hi a s → ∃ o, L (f + 1) (hi : Int) a s = some o ∧ P o) :
    ∀ (f k : Nat) (a : A) (s : S), k ≤ hi → hi - k < f → I k a s → ∃ o, L f (k : Int) a s = some o ∧ P o := by
  intro f
  induction f with
  | zero => intro k a s _ h; exact absurd h (Nat.not_lt_zero _)
  | succ f ih =>
    intro k a s hk hf hI
    by_cases e : k = hi
    · subst e; exact he f a s hI
    · rcases hs f k a s (by omega) hI with ⟨a', s', e1, hI'⟩ | ⟨o, e1, hP⟩
      · obtain ⟨o, e2, hP⟩ := ih (k + 1) a' s' (by omega) (by omega) hI'
        exact ⟨o, e1.trans e2, hP⟩
      · exact ⟨o, e1, hP⟩
theorem lp2_0 {A S O : Type} (L : Nat → Int → A → S → Option O) (I : Nat → A → S → Prop) (P : O → Prop) (hi : Nat)
    (hs : ∀ f k a s, k < hi → I k a s → (∃ a' s', L (f + 1) (k : Int) a s = L f ((k + 1 : Nat) : Int) a' s' ∧ I (k + 1) a' s') ∨ ∃ o, L (f + 1) (k : Int) a s = some o ∧ P o)
    (he : ∀ f a s, I hi a s → ∃ o, L (f + 1) (hi : Int) a s = some o ∧ P o) {f : Nat} {a : A} {s : S} (hf : hi < f) (h0 : I 0 a s) : ∃ o, L f 0 a s = some o ∧ P o :=
  lp2_up L I P hi hs he f 0 a s (Nat.zero_le _) (by omega) h0
theorem mw_0 {k : Nat} (h : k < 2147483647) : mw ((k : Int) + 0) = (k : Int) := by rw [Int.add_zero]; exact mw_id (by omega) (by omega)
def ct (p : Nat → Bool) : Nat → Nat
  | 0 => 0
  | n + 1 => ct p n + (if p n = true then 1 else 0)
theorem ct_s (p : Nat → Bool) (n : Nat) : ct p (n + 1) = ct p n + (if p n = true then 1 else 0) := rfl
theorem ct_le (p : Nat → Bool) : ∀ n, ct p n ≤ n
  | 0 => Nat.le_refl _
  | n + 1 => by rw [ct_s]; have := ct_le p n; split <;> omega
theorem ct_cg {p q : Nat → Bool} : ∀ n, (∀ k, k < n → p k = q k) → ct p n = ct q n
  | 0, _ => rfl
  | n + 1, h => by rw [ct_s, ct_s, h n (by omega), ct_cg n (fun k hk => h k (by omega))]
theorem ct_ins {p q : Nat → Bool} {x : Nat} (hp : p x = false) (hq : q x = true) (ho : ∀ k, k ≠ x → q k = p k) : ∀ n, x < n → ct q n = ct p n + 1
  | 0, h => absurd h (Nat.not_lt_zero _)
  | n + 1, h => by
    rw [ct_s, ct_s]
    by_cases e : x = n
    · subst e
      rw [hp, hq, ct_cg x (fun k hk => ho k (by omega))]
      simp
    · rw [ho n (by omega), ct_ins hp hq ho n (by omega)]
      omega
def sm (F : Nat → Int) : Nat → Int
  | 0 => 0
  | n + 1 => sm F n + F n
theorem sm_s (F : Nat → Int) (n : Nat) : sm F (n + 1) = sm F n + F n := rfl
theorem sm_cg {F G : Nat → Int} : ∀ n, (∀ k, k < n → F k = G k) → sm F n = sm G n
  | 0, _ => rfl
  | n + 1, h => by rw [sm_s, sm_s, h n (by omega), sm_cg n (fun k hk => h k (by omega))]
theorem sm_0 : ∀ n, sm (fun _ => 0) n = 0
  | 0 => rfl
  | n + 1 => by rw [sm_s, sm_0 n]; rfl
theorem sm_z {F : Nat → Int} {n : Nat} (h : ∀ k, k < n → F k = 0) : sm F n = 0 := (sm_cg n h).trans (sm_0 n)
theorem sm_add (F G : Nat → Int) : ∀ n, sm (fun k => F k + G k) n = sm F n + sm G n
  | 0 => rfl
  | n + 1 => by rw [sm_s, sm_s, sm_s, sm_add F G n]; omega
theorem sm_neg (F : Nat → Int) : ∀ n, sm (fun k => -F k) n = -sm F n
  | 0 => rfl
  | n + 1 => by rw [sm_s, sm_s, sm_neg F n]; omega
theorem sm_sub (F G : Nat → Int) : ∀ n, sm (fun k => F k - G k) n = sm F n - sm G n
  | 0 => rfl
  | n + 1 => by rw [sm_s, sm_s, sm_s, sm_sub F G n]; omega
theorem sm_mul (c : Int) (F : Nat → Int) : ∀ n, sm (fun k => c * F k) n = c * sm F n
  | 0 => by simp [sm]
  | n + 1 => by rw [sm_s, sm_s, sm_mul c F n, Int.mul_add]
theorem sm_mulr (c : Int) (F : Nat → Int) : ∀ n, sm (fun k => F k * c) n = sm F n * c
  | 0 => by simp [sm]
  | n + 1 => by rw [sm_s, sm_s, sm_mulr c F n, Int.add_mul]
theorem sm_swap (F : Nat → Nat → Int) (m : Nat) : ∀ n, sm (fun a => sm (fun b => F a b) m) n = sm (fun b => sm (fun a => F a b) n) m
  | 0 => (sm_0 m).symm
  | n + 1 => by
    rw [sm_s, sm_swap F m n, ← sm_add]
    rfl
theorem sm_one {F : Nat → Int} {x : Nat} : ∀ n, x < n → (∀ k, k < n → k ≠ x → F k = 0) → sm F n = F x
  | 0, h, _ => absurd h (Nat.not_lt_zero _)
  | n + 1, h, hz => by
    rw [sm_s]
    by_cases e : x = n
    · subst e
      rw [sm_z (fun k hk => hz k (by omega) (by omega))]
      omega
    · rw [sm_one n (by omega) (fun k hk hne => hz k (by omega) hne), hz n (by omega) (by omega)]
      omega
/-- the same sum by other numbers -/
theorem sm_re {F : Nat → Int} {u : Nat → Nat} {m n : Nat} (h1 : ∀ x, x < m → u x < n) (h2 : ∀ x y, x < m → y < m → u x = u y → x = y) (h3 : ∀ a, a < n → (∀ x, x < m → u x ≠ a) → F a = 0) : sm (fun x => F (u x)) m = sm F n := by
  have e1 : sm (fun x => F (u x)) m = sm (fun x => sm (fun a => if a = u x then F a else 0) n) m := sm_cg m (fun x hx => by
    rw [sm_one (x := u x) n (h1 x hx) (fun k _ hk => if_neg hk), if_pos rfl])
  rw [e1, sm_swap]
  refine sm_cg n (fun a ha => ?_)
  by_cases h : ∃ x, x < m ∧ u x = a
  · obtain ⟨x, hx, e⟩ := h
    rw [sm_one (x := x) m hx (fun k hk hne => if_neg (fun q => hne (h2 k x hk hx (by rw [← q, e])))), if_pos e.symm]
  · rw [h3 a ha (fun x hx e => h ⟨x, hx, e⟩)]
    exact sm_z (fun k hk => if_neg (fun q => h ⟨k, hk, q.symm⟩))
/-- a sum over parts -/
theorem sm_ct (c : Int) (p : Nat → Bool) : ∀ n, sm (fun k => if p k = true then c else 0) n = (ct p n : Int) * c
  | 0 => by simp [sm, ct]
  | n + 1 => by
    rw [sm_s, ct_s, sm_ct c p n]
    split
    · rw [Int.natCast_add, Int.add_mul]; simp
    · simp
theorem sm_le {F : Nat → Int} {B : Int} : ∀ n : Nat, (∀ k, k < n → F k ≤ B) → sm F n ≤ n * B
  | 0, _ => by simp [sm]
  | n + 1, h => by
    rw [sm_s]
    have := sm_le n (fun k hk => h k (by omega))
    have := h n (by omega)
    rw [Int.natCast_add, Int.add_mul]
    omega
theorem sm_ge {F : Nat → Int} {B : Int} : ∀ n : Nat, (∀ k, k < n → B ≤ F k) → n * B ≤ sm F n
  | 0, _ => by simp [sm]
  | n + 1, h => by
    rw [sm_s]
    have := sm_ge n (fun k hk => h k (by omega))
    have := h n (by omega)
    rw [Int.natCast_add, Int.add_mul]
    omega
