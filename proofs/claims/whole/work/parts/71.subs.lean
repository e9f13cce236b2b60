/-! every group of turns is in the table -/
/-- the number first, then what is made of it -/
noncomputable def frc {α : Type} (n : Nat) (k : Nat → α) : α := Nat.rec (k 0) (fun m _ => k (m + 1)) n
theorem frc_eq {α : Type} (n : Nat) (k : Nat → α) : frc n k = k n := by cases n <;> rfl
noncomputable def addc (r : Nat) : List Nat → Nat → Nat
  | [], K => K
  | h :: l, K => frc (K ||| (1 <<< mN h r)) fun K' => addc r l K'
noncomputable def dmg (H : List Nat) (r : Nat) : List Nat → Nat → List Nat → Nat × List Nat
  | [], K, q => (K, q)
  | s :: gs, K, q => frc (mN r s) fun y => if K.testBit y = true then dmg H r gs K q else frc (addc y H K) fun K' => dmg H r gs K' (q ++ [y])
noncomputable def dm (H gs : List Nat) : Nat → Nat → List Nat → Nat
  | 0, K, _ => K
  | _ + 1, K, [] => K
  | f + 1, K, r :: q => Prod.rec (fun K' q' => dm H gs f K' q') (dmg H r gs K q)
def bts (m : Nat) : List Nat := (List.range 48).filter fun c => m.testBit c
noncomputable def clm (m : Nat) (gs : List Nat) (c : Nat) : Nat := dm (bts m) (gs ++ [c]) 49 m [0]
def cSt (S : Nat → Prop) : Prop := (∀ c, S c → c < 48) ∧ ∀ a b, S a → S b → S (mN a b)
theorem or_bit {K y c : Nat} (h : (K ||| (1 <<< y)).testBit c = true) : K.testBit c = true ∨ c = y := by
  rw [Nat.testBit_or, Nat.one_shiftLeft, Nat.testBit_two_pow] at h
  rcases Bool.or_eq_true _ _ ▸ h with h | h
  · exact Or.inl h
  · exact Or.inr (of_decide_eq_true h).symm
theorem addc_S {S : Nat → Prop} (hS : cSt S) {r : Nat} (hr : S r) : ∀ (l : List Nat) (K : Nat), (∀ h ∈ l, S h) → (∀ c, K.testBit c = true → S c) → ∀ c, (addc r l K).testBit c = true → S c
  | [], _, _, hK => hK
  | h :: l, K, hl, hK => by
    unfold addc
    rw [frc_eq]
    exact addc_S hS hr l _ (fun x hx => hl x (List.mem_cons_of_mem _ hx)) (fun c hc => by
      rcases or_bit hc with q | q
      · exact hK c q
      · rw [q]; exact hS.2 _ _ (hl h (List.mem_cons_self ..)) hr)
theorem dmg_S {S : Nat → Prop} (hS : cSt S) {H : List Nat} (hH : ∀ h ∈ H, S h) {r : Nat} (hr : S r) : ∀ (gs : List Nat) (K : Nat) (q : List Nat), (∀ s ∈ gs, S s) → (∀ c, K.testBit c = true → S c) → (∀ x ∈ q, S x) → (∀ c, (dmg H r gs K q).1.testBit c = true → S c) ∧ ∀ x ∈ (dmg H r gs K q).2, S x
  | [], _, _, _, hK, hq => ⟨hK, hq⟩
  | s :: gs, K, q, hg, hK, hq => by
    have hy : S (mN r s) := hS.2 _ _ hr (hg s (List.mem_cons_self ..))
    have hg' : ∀ s ∈ gs, S s := fun x hx => hg x (List.mem_cons_of_mem _ hx)
    unfold dmg
    rw [frc_eq]
    by_cases e : K.testBit (mN r s) = true
    · rw [if_pos e]; exact dmg_S hS hH hr gs K q hg' hK hq
    · rw [if_neg e, frc_eq]
      exact dmg_S hS hH hr gs _ _ hg' (addc_S hS hy H K hH hK) (fun x hx => by
        rcases List.mem_append.mp hx with z | z
        · exact hq x z
        · rw [List.mem_singleton.mp z]; exact hy)
theorem dm_S {S : Nat → Prop} (hS : cSt S) {H gs : List Nat} (hH : ∀ h ∈ H, S h) (hg : ∀ s ∈ gs, S s) : ∀ (f K : Nat) (q : List Nat), (∀ c, K.testBit c = true → S c) → (∀ x ∈ q, S x) → ∀ c, (dm H gs f K q).testBit c = true → S c
  | 0, _, _, hK, _ => hK
  | _ + 1, _, [], hK, _ => hK
  | f + 1, K, r :: q, hK, hq => by
    obtain ⟨a, b⟩ := dmg_S hS hH (hq r (List.mem_cons_self ..)) gs K q hg hK (fun x hx => hq x (List.mem_cons_of_mem _ hx))
    exact dm_S hS hH hg f _ _ a b
noncomputable def chT (e : Nat × List Nat) : Bool := (e.2.all fun g => e.1.testBit g) && (List.range 48).all fun c => e.1.testBit c || frc (clm e.1 e.2 c) fun K => (K.testBit c && Nat.beq (K ||| e.1) K && (GTB.any fun e' => Nat.beq e'.1 K))
theorem chT_ok : GTB.all chT = true := by decide +kernel
