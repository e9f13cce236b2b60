/-! THE FEW of a set of turns, by lists of numbers -/
noncomputable def fcL {α : Type} : List Nat → (List Nat → α) → α
  | [], k => k []
  | x :: l, k => frc x fun x' => fcL l fun l' => k (x' :: l')
theorem fcL_eq {α : Type} : ∀ (l : List Nat) (k : List Nat → α), fcL l k = k l
  | [], _ => rfl
  | x :: l, k => by unfold fcL; rw [frc_eq, fcL_eq l]
/-- a turn, as weights and signs -/
def wgt (c : Int) : Nat := if c.natAbs = 1 then 81 else if c.natAbs = 2 then 9 else 1
def sgn1 (c : Int) : Nat := if c < 0 then 1 else 0
def LYt : List (List Nat) := (List.range 7).map fun d => (List.range (wd d)).map fun y => ly d y
def LYL : List (List Nat) := [[0], [81, 9, 1], [162, 90, 82, 18, 10, 2], [243, 171, 163, 99, 91, 83, 27, 19, 11, 3], [324, 252, 244, 180, 172, 164, 108, 100, 92, 84, 36, 28, 20, 12, 4], [405, 333, 325, 261, 253, 245, 189, 181, 173, 165, 117, 109, 101, 93, 85, 45, 37, 29, 21, 13, 5], [486, 414, 406, 342, 334, 326, 270, 262, 254, 246, 198, 190, 182, 174, 166, 126, 118, 110, 102, 94, 86, 54, 46, 38, 30, 22, 14, 6]]
theorem LYL_ok : LYL = LYt := by decide +kernel
def tqc (t : tn) : Nat := wgt t.1 + 128 * wgt t.2.1 + 16384 * wgt t.2.2 + 2097152 * sgn1 t.1 + 4194304 * sgn1 t.2.1 + 8388608 * sgn1 t.2.2
/-- where a turn leads POWERS (its number times 65536, and 1 or 32002) -/
def imk (i j k q : Nat) : Nat := (i * (q % 128) + j * (q / 128 % 128) + k * (q / 16384 % 128)) * 65536 + (1 + 32001 * ((i * (q / 2097152 % 2) + j * (q / 4194304 % 2) + k * (q / 8388608)) % 2))
/-- the number at place b -/
noncomputable def svn (b : Nat) : List Nat → Nat
  | [] => 0
  | q :: l => Bool.rec (svn b l) (q % 65536 + svn b l) (Nat.beq (q / 65536) b)
noncomputable def mnl (qs : List Nat) (n : Nat) (ks : List Nat) (a : Nat) : List Nat := fcL (qs.map (imk (a / 81) (a / 9 % 9) (a % 9))) fun l => ks.map fun b => svn b l * n % 32003
noncomputable def spz : List Nat → List Nat → List Nat
  | [], _ => []
  | _ :: _, [] => []
  | a :: ks, c :: w => Bool.rec ((a * 65536 + c) :: spz ks w) (spz ks w) (Nat.beq c 0)
def mls (s1 s2 : List Nat) : List Nat := s1.flatMap fun u => s2.map fun v => (u / 65536 + v / 65536) * 65536 + u % 65536 * (v % 65536) % 32003
noncomputable def mld (ks s1 s2 : List Nat) : List Nat := fcL (mls s1 s2) fun l => ks.map fun b => svn b l % 32003
def axp (v : Nat) : List Nat → List Nat → List Nat
  | a :: w, b :: r => (a + (32003 - v) * b) % 32003 :: axp v w r
  | _, _ => []
noncomputable def red : List (List Nat) → List Nat → List Nat
  | [], w => w
  | pr :: rs, w => frc (w.getD (pr.headD 0) 0) fun v => Bool.rec (fcL (axp v w pr.tail) fun w' => red rs w') (red rs w) (Nat.beq v 0)
noncomputable def fnz : List Nat → Nat
  | [] => 0
  | x :: l => Bool.rec 0 (fnz l + 1) (Nat.beq x 0)
noncomputable def stp (rows : List (List Nat)) (w : List Nat) : Option (List Nat) := fcL (red rows w) fun w' => frc (fnz w') fun q => Bool.rec none (frc (iv (w'.getD q 0)) fun z => fcL (w'.map fun a => a * z % 32003) fun r => some (q :: r)) (Nat.blt q w'.length)
noncomputable def fcR {α : Type} : List (List Nat) → (List (List Nat) → α) → α
  | [], k => k []
  | r :: rs, k => fcR rs fun rs' => k (r :: rs')
noncomputable def elm : List (List Nat) → List (List Nat) → List (List Nat)
  | [], rows => rows
  | w :: ws, rows => Option.rec (elm ws rows) (fun r => fcR (rows ++ [r]) fun rows' => elm ws rows') (stp rows w.tail)
/-- PRODUCTS with FEW i first -/
noncomputable def cnd1 (ks : List Nat) (i : Nat) (sp kse : List Nat) : List (List Nat) → List (List Nat)
  | [] => []
  | p :: ps => Bool.rec (cnd1 ks i sp kse ps) (fcL (spz kse p.tail) fun s2 => fcL (mld ks sp s2) fun w => (i :: w) :: cnd1 ks i sp kse ps) (Nat.ble i (p.headD 0))
/-- all, i the number of the first of F -/
noncomputable def cnd (d : Nat) (ks : List Nat) (PS : List (List (List Nat))) : Nat → List (List Nat) → List (List Nat)
  | _, [] => []
  | i, f :: F => Bool.rec (cnd d ks PS (i + 1) F) (cnd1 ks i f.tail (LYL.getD (d - f.headD 0) []) (PS.getD (d - f.headD 0) []) ++ cnd d ks PS (i + 1) F) (Nat.ble (f.headD 0) d)
/-- means of degree d: more FEW, more PRODUCTS -/
noncomputable def mst (qs : List Nat) (n d : Nat) (ks : List Nat) : List Nat → List (List Nat) → List (List Nat) → List (List Nat) → List (List Nat) × List (List Nat)
  | [], _, F, P => (F, P)
  | a :: as, rows, F, P => fcL (mnl qs n ks a) fun w => Option.rec (mst qs n d ks as rows F P) (fun r => fcR (rows ++ [r]) fun rows' => fcL (spz ks w) fun s => fcR (F ++ [d :: s]) fun F' => fcR (P ++ [F.length :: w]) fun P' => mst qs n d ks as rows' F' P') (stp rows w)
noncomputable def dgs (qs : List Nat) (n : Nat) : Nat → Nat → List (List Nat) → List (List (List Nat)) → List (List Nat) × List (List (List Nat))
  | 0, _, F, PS => (F, PS)
  | m + 1, d, F, PS => fcR (cnd d (LYL.getD d []) PS 0 F) fun cs => fcR (elm cs []) fun rows => Prod.rec (fun F' P' => dgs qs n m (d + 1) F' (PS ++ [P'])) (mst qs n d (LYL.getD d []) (LYL.getD d []) rows F cs)
def TQ : List Nat := TL.map tqc
noncomputable def fwL (m : Nat) : List (List Nat) × List (List (List Nat)) := fcL ((bts m).map fun c => TQ.getD c 0) fun qs => frc (iv qs.length) fun n => dgs qs n 6 1 [] [[[6, 1]]]
noncomputable def chF (m : Nat) : Bool := Prod.rec (fun F PS => Nat.ble F.length 6 && (List.range 7).all fun d => Nat.ble (PS.getD d []).length (gmo d)) (fwL m)
