noncomputable def f_X10_isCode (N : Nat) (a0 : Int) (σ : mS) : Option (Int × mS) :=
  if a0 = 0 then
    some ((0 : Int), σ)
  else
    if a0 < (-3 : Int) then
      some ((0 : Int), σ)
    else
      if (3 : Int) < a0 then
        some ((0 : Int), σ)
      else
        some ((1 : Int), σ)
noncomputable def f_X11_indexOfCode (N : Nat) (a0 : Int) (σ : mS) : Option (Int × mS) :=
  if a0 ≤ 0 then
    some ((mw ((mw (-a0)) - 1)), σ)
  else
    some ((mw (a0 - 1)), σ)
noncomputable def f_X10_areTurn (N : Nat) (a0 : Int) (a1 : Int) (a2 : Int) (σ : mS) : Option (Int × mS) :=
  Option.bind (f_X10_isCode N a0 σ) fun ⟨v5, s4⟩ =>
  if v5 = 0 then
    some ((0 : Int), s4)
  else
    Option.bind (f_X10_isCode N a1 s4) fun ⟨v7, s6⟩ =>
    if v7 = 0 then
      some ((0 : Int), s6)
    else
      Option.bind (f_X10_isCode N a2 s6) fun ⟨v9, s8⟩ =>
      if v9 = 0 then
        some ((0 : Int), s8)
      else
        Option.bind (f_X11_indexOfCode N a0 s8) fun ⟨v12, s11⟩ =>
        Option.bind (f_X11_indexOfCode N a1 s11) fun ⟨v14, s13⟩ =>
        Option.bind (f_X11_indexOfCode N a2 s13) fun ⟨v16, s15⟩ =>
        if v12 = v14 then
          some ((0 : Int), s15)
        else
          if v12 = v16 then
            some ((0 : Int), s15)
          else
            if v14 = v16 then
              some ((0 : Int), s15)
            else
              some ((1 : Int), s15)
noncomputable def f_X10_tell (N : Nat) (a1 : Int) (a2 : Int) (a3 : Int) (a4 : Int) (σ : mS) : Option (Int × mS) :=
  if a1 < 0 then
    some ((0 : Int), σ)
  else
    if (4 : Int) ≤ a1 then
      some ((0 : Int), σ)
    else
      Option.bind (f_X10_areTurn N a2 a3 a4 σ) fun ⟨v30, s29⟩ =>
      if v30 = 0 then
        some ((0 : Int), s29)
      else
        if (0 ≤ a1 ∧ a1 < 4) then
          some ((1 : Int), (mup (mup (mup (mup s29 3 a1.toNat 0 a2) 3 a1.toNat 1 a3) 3 a1.toNat 2 a4) 4 0 a1.toNat 1))
        else none
noncomputable def f_X11_turn (N : Nat) (a1 : Int) (a2 : Int) (a3 : Int) (a4 : Int) (σ : mS) : Option (Int × mS) :=
  Option.bind (f_X10_tell N a1 a2 a3 a4 σ) fun ⟨v36, s35⟩ =>
  if v36 = 0 ∨ v36 = 1 then
    some (v36, s35)
  else none
noncomputable def f_X10_forget (N : Nat) (a1 : Int) (σ : mS) : Option (Int × mS) :=
  if a1 < 0 then
    some ((0 : Int), σ)
  else
    if (4 : Int) ≤ a1 then
      some ((0 : Int), σ)
    else
      if (0 ≤ a1 ∧ a1 < 4) then
        if (σ 4 0 a1.toNat) = 0 then
          some ((0 : Int), σ)
        else
          if (0 ≤ a1 ∧ a1 < 4) then
            some ((1 : Int), (mup σ 4 0 a1.toNat 0))
          else none
      else none
noncomputable def f_X11_drop (N : Nat) (a1 : Int) (σ : mS) : Option (Int × mS) :=
  Option.bind (f_X10_forget N a1 σ) fun ⟨v42, s41⟩ =>
  if v42 = 0 ∨ v42 = 1 then
    some (v42, s41)
  else none
noncomputable def L_X1_takeTurns_7 (N : Nat) (n : Nat) : Int → mS → Option (mS) := @Nat.rec (fun _ => Int → mS → Option (mS)) (fun _ _ => none) (fun n ih x2 σ =>
  if (4 : Int) ≤ x2 then
    some σ
  else
    if (0 ≤ x2 ∧ x2 < 4) then
      if (σ 4 0 x2.toNat) = 0 then
        ih (mw (x2 + 1)) σ
      else
        if (0 ≤ x2 ∧ x2 < 4) ∧ (0 ≤ (σ 5 0 1) ∧ (σ 5 0 1) < 4) then
          ih (mw (x2 + 1)) (mup (mcp σ 3 x2.toNat 0 10 ((σ 5 0 1).toNat) 0 3) 5 0 1 (mw ((σ 5 0 1) + 1)))
        else none
    else none
  ) n
theorem L_X1_takeTurns_7_s (N n : Nat) (x2 : Int) (σ : mS) : L_X1_takeTurns_7 N (n + 1) x2 σ =
  if (4 : Int) ≤ x2 then
    some σ
  else
    if (0 ≤ x2 ∧ x2 < 4) then
      if (σ 4 0 x2.toNat) = 0 then
        L_X1_takeTurns_7 N n (mw (x2 + 1)) σ
      else
        if (0 ≤ x2 ∧ x2 < 4) ∧ (0 ≤ (σ 5 0 1) ∧ (σ 5 0 1) < 4) then
          L_X1_takeTurns_7 N n (mw (x2 + 1)) (mup (mcp σ 3 x2.toNat 0 10 ((σ 5 0 1).toNat) 0 3) 5 0 1 (mw ((σ 5 0 1) + 1)))
        else none
    else none := rfl
noncomputable def f_X1_takeTurns (N : Nat) (σ : mS) : Option (mS) :=
  Option.bind (L_X1_takeTurns_7 N N 0 (mup σ 5 0 1 0)) fun s46 =>
  some s46
noncomputable def L_J7_fill_53178_r8_5 (N : Nat) (n : Nat) : Int → Int → Int → mS → Option (mS) := @Nat.rec (fun _ => Int → Int → Int → mS → Option (mS)) (fun _ _ _ _ => none) (fun n ih x1 x2 x3 σ =>
  if x3 ≤ x2 then
    some σ
  else
    if (0 ≤ x2 ∧ x2 < 343) then
      ih x1 (mw (x2 + 1)) x3 (mup σ 8 0 x2.toNat x1)
    else none
  ) n
theorem L_J7_fill_53178_r8_5_s (N n : Nat) (x1 : Int) (x2 : Int) (x3 : Int) (σ : mS) : L_J7_fill_53178_r8_5 N (n + 1) x1 x2 x3 σ =
  if x3 ≤ x2 then
    some σ
  else
    if (0 ≤ x2 ∧ x2 < 343) then
      L_J7_fill_53178_r8_5 N n x1 (mw (x2 + 1)) x3 (mup σ 8 0 x2.toNat x1)
    else none := rfl
noncomputable def f_J7_fill_53178_r8 (N : Nat) (a1 : Int) (σ : mS) : Option (mS) :=
  Option.bind (L_J7_fill_53178_r8_5 N N a1 0 343 σ) fun s50 =>
  some s50
noncomputable def f_J9_max_7cf53 (N : Nat) (a0 : Int) (a1 : Int) (σ : mS) : Option (Int × mS) :=
  if a0 < a1 then
    some (a1, σ)
  else
    some (a0, σ)
noncomputable def f_X1_findOrAdd (N : Nat) (a1 : Int) (a2 : Int) (a3 : Int) (a4 : Int) (a5 : Int) (σ : mS) : Option (Int × mS) :=
  if (0 ≤ (mw ((mw ((mw ((mw ((mw ((mw ((mw (a1 + 3)) * 7)) + a2)) + 3)) * 7)) + a3)) + 3)) ∧ (mw ((mw ((mw ((mw ((mw ((mw ((mw (a1 + 3)) * 7)) + a2)) + 3)) * 7)) + a3)) + 3)) < 343) then
    if (σ 8 0 ((mw ((mw ((mw ((mw ((mw ((mw ((mw (a1 + 3)) * 7)) + a2)) + 3)) * 7)) + a3)) + 3)).toNat)) = (-1 : Int) then
      if (48 : Int) ≤ (σ 5 0 0) then
        if (0 ≤ (mw ((mw ((mw ((mw ((mw ((mw ((mw (a1 + 3)) * 7)) + a2)) + 3)) * 7)) + a3)) + 3)) ∧ (mw ((mw ((mw ((mw ((mw ((mw ((mw (a1 + 3)) * 7)) + a2)) + 3)) * 7)) + a3)) + 3)) < 343) then
          Option.bind (f_J9_max_7cf53 N 0 (σ 8 0 ((mw ((mw ((mw ((mw ((mw ((mw ((mw (a1 + 3)) * 7)) + a2)) + 3)) * 7)) + a3)) + 3)).toNat)) σ) fun ⟨v58, s57⟩ =>
          some (v58, s57)
        else none
      else
        if (0 ≤ (mw ((mw ((mw ((mw ((mw ((mw ((mw (a1 + 3)) * 7)) + a2)) + 3)) * 7)) + a3)) + 3)) ∧ (mw ((mw ((mw ((mw ((mw ((mw ((mw (a1 + 3)) * 7)) + a2)) + 3)) * 7)) + a3)) + 3)) < 343) ∧ (0 ≤ (σ 5 0 0) ∧ (σ 5 0 0) < 48) then
          Option.bind (f_J9_max_7cf53 N 0 ((mup σ 8 0 ((mw ((mw ((mw ((mw ((mw ((mw ((mw (a1 + 3)) * 7)) + a2)) + 3)) * 7)) + a3)) + 3)).toNat) (σ 5 0 0)) 8 0 ((mw ((mw ((mw ((mw ((mw ((mw ((mw (a1 + 3)) * 7)) + a2)) + 3)) * 7)) + a3)) + 3)).toNat)) (mup (mup (mup (mup (mup (mup (mup σ 8 0 ((mw ((mw ((mw ((mw ((mw ((mw ((mw (a1 + 3)) * 7)) + a2)) + 3)) * 7)) + a3)) + 3)).toNat) (σ 5 0 0)) 7 ((σ 5 0 0).toNat) 0 a1) 7 ((σ 5 0 0).toNat) 1 a2) 7 ((σ 5 0 0).toNat) 2 a3) 13 0 ((σ 5 0 0).toNat) a4) 14 0 ((σ 5 0 0).toNat) a5) 5 0 0 (mw ((σ 5 0 0) + 1)))) fun ⟨v61, s60⟩ =>
          some (v61, s60)
        else none
    else
      if (0 ≤ (mw ((mw ((mw ((mw ((mw ((mw ((mw (a1 + 3)) * 7)) + a2)) + 3)) * 7)) + a3)) + 3)) ∧ (mw ((mw ((mw ((mw ((mw ((mw ((mw (a1 + 3)) * 7)) + a2)) + 3)) * 7)) + a3)) + 3)) < 343) then
        Option.bind (f_J9_max_7cf53 N 0 (σ 8 0 ((mw ((mw ((mw ((mw ((mw ((mw ((mw (a1 + 3)) * 7)) + a2)) + 3)) * 7)) + a3)) + 3)).toNat)) σ) fun ⟨v55, s54⟩ =>
        some (v55, s54)
      else none
  else none
noncomputable def f_X1_codeThen_r10 (N : Nat) (a0 : Int) (q1 : Nat) (σ : mS) : Option (Int × mS) :=
  Option.bind (f_X11_indexOfCode N a0 σ) fun ⟨v68, s67⟩ =>
  if (0 ≤ v68 ∧ v68 < 3) then
    if 0 ≤ a0 then
      some ((s67 10 q1 v68.toNat), s67)
    else
      some ((mw (-(s67 10 q1 v68.toNat))), s67)
  else none
noncomputable def f_X1_elementThenTurn (N : Nat) (a1 : Int) (a2 : Int) (σ : mS) : Option (Int × mS) :=
  if (0 ≤ a1 ∧ a1 < 48) ∧ (0 ≤ a2 ∧ a2 < 4) then
    Option.bind (f_X1_codeThen_r10 N (σ 7 a1.toNat 0) a2.toNat σ) fun ⟨v72, s71⟩ =>
    Option.bind (f_X1_codeThen_r10 N (s71 7 a1.toNat 1) a2.toNat s71) fun ⟨v74, s73⟩ =>
    Option.bind (f_X1_codeThen_r10 N (s73 7 a1.toNat 2) a2.toNat s73) fun ⟨v76, s75⟩ =>
    Option.bind (f_X1_findOrAdd N v72 v74 v76 a1 a2 s75) fun ⟨v78, s77⟩ =>
    some (v78, s77)
  else none
noncomputable def L_X1_fillTable_21 (N : Nat) (n : Nat) : Int → Int → mS → Option (mS) := @Nat.rec (fun _ => Int → Int → mS → Option (mS)) (fun _ _ _ => none) (fun n ih x1 x2 σ =>
  if (σ 5 0 0) ≤ x2 then
    some σ
  else
    if (0 ≤ x1 ∧ x1 < 48) ∧ (0 ≤ x2 ∧ x2 < 48) ∧ (0 ≤ (σ 13 0 x2.toNat) ∧ (σ 13 0 x2.toNat) < 48) ∧ (0 ≤ (σ 16 x1.toNat ((σ 13 0 x2.toNat).toNat)) ∧ (σ 16 x1.toNat ((σ 13 0 x2.toNat).toNat)) < 48) ∧ (0 ≤ (σ 14 0 x2.toNat) ∧ (σ 14 0 x2.toNat) < 4) then
      ih x1 (mw (x2 + 1)) (mup σ 16 x1.toNat x2.toNat (σ 12 ((σ 16 x1.toNat ((σ 13 0 x2.toNat).toNat)).toNat) ((σ 14 0 x2.toNat).toNat)))
    else none
  ) n
theorem L_X1_fillTable_21_s (N n : Nat) (x1 : Int) (x2 : Int) (σ : mS) : L_X1_fillTable_21 N (n + 1) x1 x2 σ =
  if (σ 5 0 0) ≤ x2 then
    some σ
  else
    if (0 ≤ x1 ∧ x1 < 48) ∧ (0 ≤ x2 ∧ x2 < 48) ∧ (0 ≤ (σ 13 0 x2.toNat) ∧ (σ 13 0 x2.toNat) < 48) ∧ (0 ≤ (σ 16 x1.toNat ((σ 13 0 x2.toNat).toNat)) ∧ (σ 16 x1.toNat ((σ 13 0 x2.toNat).toNat)) < 48) ∧ (0 ≤ (σ 14 0 x2.toNat) ∧ (σ 14 0 x2.toNat) < 4) then
      L_X1_fillTable_21 N n x1 (mw (x2 + 1)) (mup σ 16 x1.toNat x2.toNat (σ 12 ((σ 16 x1.toNat ((σ 13 0 x2.toNat).toNat)).toNat) ((σ 14 0 x2.toNat).toNat)))
    else none := rfl
noncomputable def L_X1_fillTable_2 (N : Nat) (n : Nat) : Int → mS → Option (mS) := @Nat.rec (fun _ => Int → mS → Option (mS)) (fun _ _ => none) (fun n ih x1 σ =>
  if (σ 5 0 0) ≤ x1 then
    some σ
  else
    if (0 ≤ x1 ∧ x1 < 48) then
      Option.bind (L_X1_fillTable_21 N N x1 1 (mup σ 16 x1.toNat 0 x1)) fun s93 =>
      ih (mw (x1 + 1)) s93
    else none
  ) n
theorem L_X1_fillTable_2_s (N n : Nat) (x1 : Int) (σ : mS) : L_X1_fillTable_2 N (n + 1) x1 σ =
  if (σ 5 0 0) ≤ x1 then
    some σ
  else
    if (0 ≤ x1 ∧ x1 < 48) then
      Option.bind (L_X1_fillTable_21 N N x1 1 (mup σ 16 x1.toNat 0 x1)) fun s93 =>
      L_X1_fillTable_2 N n (mw (x1 + 1)) s93
    else none := rfl
noncomputable def f_X1_fillTable (N : Nat) (σ : mS) : Option (mS) :=
  Option.bind (L_X1_fillTable_2 N N 0 σ) fun s96 =>
  some s96
noncomputable def L_X1_fillBacksAndOrders_17 (N : Nat) (n : Nat) : Int → Int → Int → Int → mS → Option (Int × Int × mS) := @Nat.rec (fun _ => Int → Int → Int → Int → mS → Option (Int × Int × mS)) (fun _ _ _ _ _ => none) (fun n ih x1 x2 x3 x4 σ =>
  if x3 = 0 then
    some (x2, x4, σ)
  else
    if (48 : Int) ≤ x4 then
      some (x2, x4, σ)
    else
      if (0 ≤ x3 ∧ x3 < 48) ∧ (0 ≤ x1 ∧ x1 < 48) then
        ih x1 x3 (σ 16 x3.toNat x1.toNat) (mw (x4 + 1)) σ
      else none
  ) n
theorem L_X1_fillBacksAndOrders_17_s (N n : Nat) (x1 : Int) (x2 : Int) (x3 : Int) (x4 : Int) (σ : mS) : L_X1_fillBacksAndOrders_17 N (n + 1) x1 x2 x3 x4 σ =
  if x3 = 0 then
    some (x2, x4, σ)
  else
    if (48 : Int) ≤ x4 then
      some (x2, x4, σ)
    else
      if (0 ≤ x3 ∧ x3 < 48) ∧ (0 ≤ x1 ∧ x1 < 48) then
        L_X1_fillBacksAndOrders_17 N n x1 x3 (σ 16 x3.toNat x1.toNat) (mw (x4 + 1)) σ
      else none := rfl
noncomputable def L_X1_fillBacksAndOrders_2 (N : Nat) (n : Nat) : Int → mS → Option (mS) := @Nat.rec (fun _ => Int → mS → Option (mS)) (fun _ _ => none) (fun n ih x1 σ =>
  if (σ 5 0 0) ≤ x1 then
    some σ
  else
    Option.bind (L_X1_fillBacksAndOrders_17 N N x1 0 x1 1 σ) fun ⟨o102, o103, s101⟩ =>
    if (0 ≤ x1 ∧ x1 < 48) then
      ih (mw (x1 + 1)) (mup (mup s101 17 0 x1.toNat o102) 18 0 x1.toNat o103)
    else none
  ) n
theorem L_X1_fillBacksAndOrders_2_s (N n : Nat) (x1 : Int) (σ : mS) : L_X1_fillBacksAndOrders_2 N (n + 1) x1 σ =
  if (σ 5 0 0) ≤ x1 then
    some σ
  else
    Option.bind (L_X1_fillBacksAndOrders_17 N N x1 0 x1 1 σ) fun ⟨o102, o103, s101⟩ =>
    if (0 ≤ x1 ∧ x1 < 48) then
      L_X1_fillBacksAndOrders_2 N n (mw (x1 + 1)) (mup (mup s101 17 0 x1.toNat o102) 18 0 x1.toNat o103)
    else none := rfl
noncomputable def f_X1_fillBacksAndOrders (N : Nat) (σ : mS) : Option (mS) :=
  Option.bind (L_X1_fillBacksAndOrders_2 N N 0 σ) fun s106 =>
  some s106
noncomputable def L_J7_fill_53178_r19_5 (N : Nat) (n : Nat) : Int → Int → Int → mS → Option (mS) := @Nat.rec (fun _ => Int → Int → Int → mS → Option (mS)) (fun _ _ _ _ => none) (fun n ih x1 x2 x3 σ =>
  if x3 ≤ x2 then
    some σ
  else
    if (0 ≤ x2 ∧ x2 < 48) then
      ih x1 (mw (x2 + 1)) x3 (mup σ 19 0 x2.toNat x1)
    else none
  ) n
theorem L_J7_fill_53178_r19_5_s (N n : Nat) (x1 : Int) (x2 : Int) (x3 : Int) (σ : mS) : L_J7_fill_53178_r19_5 N (n + 1) x1 x2 x3 σ =
  if x3 ≤ x2 then
    some σ
  else
    if (0 ≤ x2 ∧ x2 < 48) then
      L_J7_fill_53178_r19_5 N n x1 (mw (x2 + 1)) x3 (mup σ 19 0 x2.toNat x1)
    else none := rfl
noncomputable def f_J7_fill_53178_r19 (N : Nat) (a1 : Int) (σ : mS) : Option (mS) :=
  Option.bind (L_J7_fill_53178_r19_5 N N a1 0 48 σ) fun s110 =>
  some s110
noncomputable def L_X1_fillClass_4 (N : Nat) (n : Nat) : Int → Int → Int → mS → Option (Int × mS) := @Nat.rec (fun _ => Int → Int → Int → mS → Option (Int × mS)) (fun _ _ _ _ => none) (fun n ih x1 x2 x3 σ =>
  if (σ 5 0 0) ≤ x3 then
    some (x2, σ)
  else
    if (0 ≤ x3 ∧ x3 < 48) ∧ (0 ≤ x1 ∧ x1 < 48) ∧ (0 ≤ (σ 16 x3.toNat x1.toNat) ∧ (σ 16 x3.toNat x1.toNat) < 48) ∧ (0 ≤ (σ 17 0 x3.toNat) ∧ (σ 17 0 x3.toNat) < 48) ∧ (0 ≤ (σ 16 ((σ 16 x3.toNat x1.toNat).toNat) ((σ 17 0 x3.toNat).toNat)) ∧ (σ 16 ((σ 16 x3.toNat x1.toNat).toNat) ((σ 17 0 x3.toNat).toNat)) < 48) then
      if (σ 19 0 ((σ 16 ((σ 16 x3.toNat x1.toNat).toNat) ((σ 17 0 x3.toNat).toNat)).toNat)) = (-1 : Int) then
        if (0 ≤ (σ 16 ((σ 16 x3.toNat x1.toNat).toNat) ((σ 17 0 x3.toNat).toNat)) ∧ (σ 16 ((σ 16 x3.toNat x1.toNat).toNat) ((σ 17 0 x3.toNat).toNat)) < 48) then
          ih x1 (mw (x2 + 1)) (mw (x3 + 1)) (mup σ 19 0 ((σ 16 ((σ 16 x3.toNat x1.toNat).toNat) ((σ 17 0 x3.toNat).toNat)).toNat) (σ 5 0 2))
        else none
      else
        ih x1 x2 (mw (x3 + 1)) σ
    else none
  ) n
theorem L_X1_fillClass_4_s (N n : Nat) (x1 : Int) (x2 : Int) (x3 : Int) (σ : mS) : L_X1_fillClass_4 N (n + 1) x1 x2 x3 σ =
  if (σ 5 0 0) ≤ x3 then
    some (x2, σ)
  else
    if (0 ≤ x3 ∧ x3 < 48) ∧ (0 ≤ x1 ∧ x1 < 48) ∧ (0 ≤ (σ 16 x3.toNat x1.toNat) ∧ (σ 16 x3.toNat x1.toNat) < 48) ∧ (0 ≤ (σ 17 0 x3.toNat) ∧ (σ 17 0 x3.toNat) < 48) ∧ (0 ≤ (σ 16 ((σ 16 x3.toNat x1.toNat).toNat) ((σ 17 0 x3.toNat).toNat)) ∧ (σ 16 ((σ 16 x3.toNat x1.toNat).toNat) ((σ 17 0 x3.toNat).toNat)) < 48) then
      if (σ 19 0 ((σ 16 ((σ 16 x3.toNat x1.toNat).toNat) ((σ 17 0 x3.toNat).toNat)).toNat)) = (-1 : Int) then
        if (0 ≤ (σ 16 ((σ 16 x3.toNat x1.toNat).toNat) ((σ 17 0 x3.toNat).toNat)) ∧ (σ 16 ((σ 16 x3.toNat x1.toNat).toNat) ((σ 17 0 x3.toNat).toNat)) < 48) then
          L_X1_fillClass_4 N n x1 (mw (x2 + 1)) (mw (x3 + 1)) (mup σ 19 0 ((σ 16 ((σ 16 x3.toNat x1.toNat).toNat) ((σ 17 0 x3.toNat).toNat)).toNat) (σ 5 0 2))
        else none
      else
        L_X1_fillClass_4 N n x1 x2 (mw (x3 + 1)) σ
    else none := rfl
noncomputable def f_X1_fillClass (N : Nat) (a1 : Int) (σ : mS) : Option (mS) :=
  Option.bind (L_X1_fillClass_4 N N a1 0 0 σ) fun ⟨o116, s115⟩ =>
  if (0 ≤ (s115 5 0 2) ∧ (s115 5 0 2) < 48) then
    some (mup (mup (mup s115 20 0 ((s115 5 0 2).toNat) a1) 21 0 ((s115 5 0 2).toNat) o116) 5 0 2 (mw ((s115 5 0 2) + 1)))
  else none
noncomputable def L_X1_fillClasses_15 (N : Nat) (n : Nat) : Int → mS → Option (mS) := @Nat.rec (fun _ => Int → mS → Option (mS)) (fun _ _ => none) (fun n ih x1 σ =>
  if (σ 5 0 0) ≤ x1 then
    some σ
  else
    if (0 ≤ x1 ∧ x1 < 48) then
      if (σ 19 0 x1.toNat) = (-1 : Int) then
        Option.bind (f_X1_fillClass N x1 σ) fun s118 =>
        ih (mw (x1 + 1)) s118
      else
        ih (mw (x1 + 1)) σ
    else none
  ) n
theorem L_X1_fillClasses_15_s (N n : Nat) (x1 : Int) (σ : mS) : L_X1_fillClasses_15 N (n + 1) x1 σ =
  if (σ 5 0 0) ≤ x1 then
    some σ
  else
    if (0 ≤ x1 ∧ x1 < 48) then
      if (σ 19 0 x1.toNat) = (-1 : Int) then
        Option.bind (f_X1_fillClass N x1 σ) fun s118 =>
        L_X1_fillClasses_15 N n (mw (x1 + 1)) s118
      else
        L_X1_fillClasses_15 N n (mw (x1 + 1)) σ
    else none := rfl
noncomputable def f_X1_fillClasses (N : Nat) (σ : mS) : Option (mS) :=
  Option.bind (f_J7_fill_53178_r19 N (-1) (mup σ 5 0 2 0)) fun s112 =>
  Option.bind (L_X1_fillClasses_15 N N 0 s112) fun s122 =>
  some s122
noncomputable def L_X8_readRing_r7_11 (N : Nat) (n : Nat) : Nat → Int → Int → Int → Int → Int → mS → Option (Int × Int × Int × mS) := @Nat.rec (fun _ => Nat → Int → Int → Int → Int → Int → mS → Option (Int × Int × Int × mS)) (fun _ _ _ _ _ _ _ => none) (fun n ih y1 x2 x3 x4 x5 x6 σ =>
  if (0 ≤ x6 ∧ x6 < 3) then
    if 0 ≤ (σ 7 y1 x6.toNat) then
      if (0 ≤ x6 ∧ x6 < 3) then
        Option.bind (f_X11_indexOfCode N (σ 7 y1 x6.toNat) σ) fun ⟨v127, s126⟩ =>
        if v127 = x2 then
          some (o_or x3 (o_shl 1 x6), mw (x4 + 1), x5, s126)
        else
          if (mw (x4 + 1)) < (3 : Int) then
            ih y1 x2 (o_or x3 (o_shl 1 x6)) (mw (x4 + 1)) x5 v127 s126
          else
            some (o_or x3 (o_shl 1 x6), mw (x4 + 1), x5, s126)
      else none
    else
      if (0 ≤ x6 ∧ x6 < 3) then
        Option.bind (f_X11_indexOfCode N (σ 7 y1 x6.toNat) σ) fun ⟨v132, s131⟩ =>
        if v132 = x2 then
          some (o_or x3 (o_shl 1 x6), mw (x4 + 1), mw (-x5), s131)
        else
          if (mw (x4 + 1)) < (3 : Int) then
            ih y1 x2 (o_or x3 (o_shl 1 x6)) (mw (x4 + 1)) (mw (-x5)) v132 s131
          else
            some (o_or x3 (o_shl 1 x6), mw (x4 + 1), mw (-x5), s131)
      else none
  else none
  ) n
theorem L_X8_readRing_r7_11_s (N n : Nat) (y1 : Nat) (x2 : Int) (x3 : Int) (x4 : Int) (x5 : Int) (x6 : Int) (σ : mS) : L_X8_readRing_r7_11 N (n + 1) y1 x2 x3 x4 x5 x6 σ =
  if (0 ≤ x6 ∧ x6 < 3) then
    if 0 ≤ (σ 7 y1 x6.toNat) then
      if (0 ≤ x6 ∧ x6 < 3) then
        Option.bind (f_X11_indexOfCode N (σ 7 y1 x6.toNat) σ) fun ⟨v127, s126⟩ =>
        if v127 = x2 then
          some (o_or x3 (o_shl 1 x6), mw (x4 + 1), x5, s126)
        else
          if (mw (x4 + 1)) < (3 : Int) then
            L_X8_readRing_r7_11 N n y1 x2 (o_or x3 (o_shl 1 x6)) (mw (x4 + 1)) x5 v127 s126
          else
            some (o_or x3 (o_shl 1 x6), mw (x4 + 1), x5, s126)
      else none
    else
      if (0 ≤ x6 ∧ x6 < 3) then
        Option.bind (f_X11_indexOfCode N (σ 7 y1 x6.toNat) σ) fun ⟨v132, s131⟩ =>
        if v132 = x2 then
          some (o_or x3 (o_shl 1 x6), mw (x4 + 1), mw (-x5), s131)
        else
          if (mw (x4 + 1)) < (3 : Int) then
            L_X8_readRing_r7_11 N n y1 x2 (o_or x3 (o_shl 1 x6)) (mw (x4 + 1)) (mw (-x5)) v132 s131
          else
            some (o_or x3 (o_shl 1 x6), mw (x4 + 1), mw (-x5), s131)
      else none
  else none := rfl
noncomputable def f_X8_readRing_r7 (N : Nat) (q1 : Nat) (a2 : Int) (σ : mS) : Option (Int × mS) :=
  Option.bind (L_X8_readRing_r7_11 N N q1 a2 0 0 1 a2 σ) fun ⟨o138, o139, o140, s137⟩ =>
  if (0 ≤ (s137 23 0 2) ∧ (s137 23 0 2) < 3) then
    some (o138, (mup (mup (mup s137 24 0 ((s137 23 0 2).toNat) o139) 25 0 ((s137 23 0 2).toNat) o140) 23 0 2 (mw ((s137 23 0 2) + 1))))
  else none
noncomputable def L_X8_read_r7_9 (N : Nat) (n : Nat) : Nat → Int → Int → mS → Option (mS) := @Nat.rec (fun _ => Nat → Int → Int → mS → Option (mS)) (fun _ _ _ _ => none) (fun n ih y1 x2 x3 σ =>
  if (3 : Int) ≤ x3 then
    some σ
  else
    if (o_and (o_shr x2 x3) 1) = 0 then
      Option.bind (f_X8_readRing_r7 N y1 x3 σ) fun ⟨v143, s142⟩ =>
      ih y1 (o_or x2 v143) (mw (x3 + 1)) s142
    else
      ih y1 x2 (mw (x3 + 1)) σ
  ) n
theorem L_X8_read_r7_9_s (N n : Nat) (y1 : Nat) (x2 : Int) (x3 : Int) (σ : mS) : L_X8_read_r7_9 N (n + 1) y1 x2 x3 σ =
  if (3 : Int) ≤ x3 then
    some σ
  else
    if (o_and (o_shr x2 x3) 1) = 0 then
      Option.bind (f_X8_readRing_r7 N y1 x3 σ) fun ⟨v143, s142⟩ =>
      L_X8_read_r7_9 N n y1 (o_or x2 v143) (mw (x3 + 1)) s142
    else
      L_X8_read_r7_9 N n y1 x2 (mw (x3 + 1)) σ := rfl
noncomputable def f_X8_read_r7 (N : Nat) (q1 : Nat) (σ : mS) : Option (mS) :=
  Option.bind (L_X8_read_r7_9 N N q1 0 0 (mup σ 23 0 2 0)) fun s147 =>
  some s147
noncomputable def L_X8_linesLeft_4 (N : Nat) (n : Nat) : Int → Int → mS → Option (Int × mS) := @Nat.rec (fun _ => Int → Int → mS → Option (Int × mS)) (fun _ _ _ => none) (fun n ih x1 x2 σ =>
  if (σ 23 0 2) ≤ x2 then
    some (x1, σ)
  else
    if (0 ≤ x2 ∧ x2 < 3) then
      if (σ 25 0 x2.toNat) ≤ 0 then
        ih (mw (x1 + 0)) (mw (x2 + 1)) σ
      else
        ih (mw (x1 + 1)) (mw (x2 + 1)) σ
    else none
  ) n
theorem L_X8_linesLeft_4_s (N n : Nat) (x1 : Int) (x2 : Int) (σ : mS) : L_X8_linesLeft_4 N (n + 1) x1 x2 σ =
  if (σ 23 0 2) ≤ x2 then
    some (x1, σ)
  else
    if (0 ≤ x2 ∧ x2 < 3) then
      if (σ 25 0 x2.toNat) ≤ 0 then
        L_X8_linesLeft_4 N n (mw (x1 + 0)) (mw (x2 + 1)) σ
      else
        L_X8_linesLeft_4 N n (mw (x1 + 1)) (mw (x2 + 1)) σ
    else none := rfl
noncomputable def f_X8_linesLeft (N : Nat) (σ : mS) : Option (Int × mS) :=
  Option.bind (L_X8_linesLeft_4 N N 0 0 σ) fun ⟨o153, s152⟩ =>
  some (o153, s152)
noncomputable def L_X1_fillMirrors_7 (N : Nat) (n : Nat) : Int → mS → Option (mS) := @Nat.rec (fun _ => Int → mS → Option (mS)) (fun _ _ => none) (fun n ih x1 σ =>
  if (σ 5 0 0) ≤ x1 then
    some σ
  else
    if (0 ≤ x1 ∧ x1 < 48) then
      Option.bind (f_X8_read_r7 N x1.toNat σ) fun s149 =>
      Option.bind (f_X8_linesLeft N s149) fun ⟨v156, s155⟩ =>
      if v156 = (2 : Int) then
        if (0 ≤ x1 ∧ x1 < 48) then
          if ((mup s155 22 0 x1.toNat 1) 22 0 x1.toNat) = 0 then
            ih (mw (x1 + 1)) (mup (mup s155 22 0 x1.toNat 1) 5 0 3 (mw ((s155 5 0 3) + 0)))
          else
            ih (mw (x1 + 1)) (mup (mup s155 22 0 x1.toNat 1) 5 0 3 (mw ((s155 5 0 3) + 1)))
        else none
      else
        if (0 ≤ x1 ∧ x1 < 48) then
          if ((mup s155 22 0 x1.toNat 0) 22 0 x1.toNat) = 0 then
            ih (mw (x1 + 1)) (mup (mup s155 22 0 x1.toNat 0) 5 0 3 (mw ((s155 5 0 3) + 0)))
          else
            ih (mw (x1 + 1)) (mup (mup s155 22 0 x1.toNat 0) 5 0 3 (mw ((s155 5 0 3) + 1)))
        else none
    else none
  ) n
theorem L_X1_fillMirrors_7_s (N n : Nat) (x1 : Int) (σ : mS) : L_X1_fillMirrors_7 N (n + 1) x1 σ =
  if (σ 5 0 0) ≤ x1 then
    some σ
  else
    if (0 ≤ x1 ∧ x1 < 48) then
      Option.bind (f_X8_read_r7 N x1.toNat σ) fun s149 =>
      Option.bind (f_X8_linesLeft N s149) fun ⟨v156, s155⟩ =>
      if v156 = (2 : Int) then
        if (0 ≤ x1 ∧ x1 < 48) then
          if ((mup s155 22 0 x1.toNat 1) 22 0 x1.toNat) = 0 then
            L_X1_fillMirrors_7 N n (mw (x1 + 1)) (mup (mup s155 22 0 x1.toNat 1) 5 0 3 (mw ((s155 5 0 3) + 0)))
          else
            L_X1_fillMirrors_7 N n (mw (x1 + 1)) (mup (mup s155 22 0 x1.toNat 1) 5 0 3 (mw ((s155 5 0 3) + 1)))
        else none
      else
        if (0 ≤ x1 ∧ x1 < 48) then
          if ((mup s155 22 0 x1.toNat 0) 22 0 x1.toNat) = 0 then
            L_X1_fillMirrors_7 N n (mw (x1 + 1)) (mup (mup s155 22 0 x1.toNat 0) 5 0 3 (mw ((s155 5 0 3) + 0)))
          else
            L_X1_fillMirrors_7 N n (mw (x1 + 1)) (mup (mup s155 22 0 x1.toNat 0) 5 0 3 (mw ((s155 5 0 3) + 1)))
        else none
    else none := rfl
noncomputable def f_X1_fillMirrors (N : Nat) (σ : mS) : Option (mS) :=
  Option.bind (L_X1_fillMirrors_7 N N 0 (mup σ 5 0 3 0)) fun s163 =>
  some s163
noncomputable def L_X1_makeOf_46 (N : Nat) (n : Nat) : Int → Int → mS → Option (mS) := @Nat.rec (fun _ => Int → Int → mS → Option (mS)) (fun _ _ _ => none) (fun n ih x2 x3 σ =>
  if (σ 5 0 1) ≤ x3 then
    some σ
  else
    if (0 ≤ x2 ∧ x2 < 48) then
      Option.bind (f_X1_elementThenTurn N x2 x3 σ) fun ⟨v84, s83⟩ =>
      if (0 ≤ x3 ∧ x3 < 4) then
        ih x2 (mw (x3 + 1)) (mup s83 12 x2.toNat x3.toNat v84)
      else none
    else none
  ) n
theorem L_X1_makeOf_46_s (N n : Nat) (x2 : Int) (x3 : Int) (σ : mS) : L_X1_makeOf_46 N (n + 1) x2 x3 σ =
  if (σ 5 0 1) ≤ x3 then
    some σ
  else
    if (0 ≤ x2 ∧ x2 < 48) then
      Option.bind (f_X1_elementThenTurn N x2 x3 σ) fun ⟨v84, s83⟩ =>
      if (0 ≤ x3 ∧ x3 < 4) then
        L_X1_makeOf_46 N n x2 (mw (x3 + 1)) (mup s83 12 x2.toNat x3.toNat v84)
      else none
    else none := rfl
noncomputable def L_X1_makeOf_30 (N : Nat) (n : Nat) : Int → mS → Option (mS) := @Nat.rec (fun _ => Int → mS → Option (mS)) (fun _ _ => none) (fun n ih x2 σ =>
  if (σ 5 0 0) ≤ x2 then
    some σ
  else
    if (48 : Int) ≤ x2 then
      some σ
    else
      Option.bind (L_X1_makeOf_46 N N x2 0 σ) fun s87 =>
      ih (mw (x2 + 1)) s87
  ) n
theorem L_X1_makeOf_30_s (N n : Nat) (x2 : Int) (σ : mS) : L_X1_makeOf_30 N (n + 1) x2 σ =
  if (σ 5 0 0) ≤ x2 then
    some σ
  else
    if (48 : Int) ≤ x2 then
      some σ
    else
      Option.bind (L_X1_makeOf_46 N N x2 0 σ) fun s87 =>
      L_X1_makeOf_30 N n (mw (x2 + 1)) s87 := rfl
noncomputable def f_X1_makeOf (N : Nat) (σ : mS) : Option (mS) :=
  Option.bind (f_X1_takeTurns N σ) fun s48 =>
  Option.bind (f_J7_fill_53178_r8 N (-1) (mup s48 5 0 0 0)) fun s52 =>
  Option.bind (f_X1_findOrAdd N 1 2 3 0 0 s52) fun ⟨v66, s65⟩ =>
  Option.bind (L_X1_makeOf_30 N N 0 s65) fun s91 =>
  Option.bind (f_X1_fillTable N s91) fun s98 =>
  Option.bind (f_X1_fillBacksAndOrders N s98) fun s108 =>
  Option.bind (f_X1_fillClasses N s108) fun s125 =>
  Option.bind (f_X1_fillMirrors N s125) fun s165 =>
  some s165
noncomputable def f_X9_given (N : Nat) (a1 : Int) (a2 : Int) (σ : mS) : Option (Int × mS) :=
  if (o_and (o_shr a1 (mw ((mw ((σ 5 0 1) - 1)) - a2))) 1) = 0 then
    some ((1 : Int), σ)
  else
    some ((-1 : Int), σ)
noncomputable def L_X9_fillRow_r28_6 (N : Nat) (n : Nat) : Int → Nat → Int → mS → Option (mS) := @Nat.rec (fun _ => Int → Nat → Int → mS → Option (mS)) (fun _ _ _ _ => none) (fun n ih x1 y2 x3 σ =>
  if (σ 5 0 0) ≤ x3 then
    some σ
  else
    if (0 ≤ x3 ∧ x3 < 48) ∧ (0 ≤ (σ 13 0 x3.toNat) ∧ (σ 13 0 x3.toNat) < 48) then
      Option.bind (f_X9_given N x1 (σ 14 0 x3.toNat) σ) fun ⟨v177, s176⟩ =>
      if (0 ≤ x3 ∧ x3 < 48) then
        ih x1 y2 (mw (x3 + 1)) (mup s176 28 y2 x3.toNat (mw ((σ 28 y2 ((σ 13 0 x3.toNat).toNat)) * v177)))
      else none
    else none
  ) n
theorem L_X9_fillRow_r28_6_s (N n : Nat) (x1 : Int) (y2 : Nat) (x3 : Int) (σ : mS) : L_X9_fillRow_r28_6 N (n + 1) x1 y2 x3 σ =
  if (σ 5 0 0) ≤ x3 then
    some σ
  else
    if (0 ≤ x3 ∧ x3 < 48) ∧ (0 ≤ (σ 13 0 x3.toNat) ∧ (σ 13 0 x3.toNat) < 48) then
      Option.bind (f_X9_given N x1 (σ 14 0 x3.toNat) σ) fun ⟨v177, s176⟩ =>
      if (0 ≤ x3 ∧ x3 < 48) then
        L_X9_fillRow_r28_6 N n x1 y2 (mw (x3 + 1)) (mup s176 28 y2 x3.toNat (mw ((σ 28 y2 ((σ 13 0 x3.toNat).toNat)) * v177)))
      else none
    else none := rfl
noncomputable def f_X9_fillRow_r28 (N : Nat) (a1 : Int) (q2 : Nat) (σ : mS) : Option (mS) :=
  Option.bind (L_X9_fillRow_r28_6 N N a1 q2 1 (mup σ 28 q2 0 1)) fun s180 =>
  some s180
noncomputable def L_X9_isSign_r28_21 (N : Nat) (n : Nat) : Int → Nat → Int → Int → Int → mS → Option ((Int × mS) ⊕ (mS)) := @Nat.rec (fun _ => Int → Nat → Int → Int → Int → mS → Option ((Int × mS) ⊕ (mS))) (fun _ _ _ _ _ _ => none) (fun n ih x1 y2 x3 x4 x5 σ =>
  if (σ 5 0 0) ≤ x5 then
    some (.inr σ)
  else
    if (0 ≤ x5 ∧ x5 < 48) ∧ (0 ≤ x3 ∧ x3 < 4) ∧ (0 ≤ (σ 12 x5.toNat x3.toNat) ∧ (σ 12 x5.toNat x3.toNat) < 48) then
      if (σ 28 y2 ((σ 12 x5.toNat x3.toNat).toNat)) = (mw ((σ 28 y2 x5.toNat) * x4)) then
        ih x1 y2 x3 x4 (mw (x5 + 1)) σ
      else
        some (.inl ((0 : Int), σ))
    else none
  ) n
theorem L_X9_isSign_r28_21_s (N n : Nat) (x1 : Int) (y2 : Nat) (x3 : Int) (x4 : Int) (x5 : Int) (σ : mS) : L_X9_isSign_r28_21 N (n + 1) x1 y2 x3 x4 x5 σ =
  if (σ 5 0 0) ≤ x5 then
    some (.inr σ)
  else
    if (0 ≤ x5 ∧ x5 < 48) ∧ (0 ≤ x3 ∧ x3 < 4) ∧ (0 ≤ (σ 12 x5.toNat x3.toNat) ∧ (σ 12 x5.toNat x3.toNat) < 48) then
      if (σ 28 y2 ((σ 12 x5.toNat x3.toNat).toNat)) = (mw ((σ 28 y2 x5.toNat) * x4)) then
        L_X9_isSign_r28_21 N n x1 y2 x3 x4 (mw (x5 + 1)) σ
      else
        some (.inl ((0 : Int), σ))
    else none := rfl
noncomputable def L_X9_isSign_r28_2 (N : Nat) (n : Nat) : Int → Nat → Int → mS → Option ((Int × mS) ⊕ (mS)) := @Nat.rec (fun _ => Int → Nat → Int → mS → Option ((Int × mS) ⊕ (mS))) (fun _ _ _ _ => none) (fun n ih x1 y2 x3 σ =>
  if (σ 5 0 1) ≤ x3 then
    some (.inr σ)
  else
    Option.bind (f_X9_given N x1 x3 σ) fun ⟨v184, s183⟩ =>
    Option.bind (L_X9_isSign_r28_21 N N x1 y2 x3 v184 0 s183) fun o => match o with
      | .inl (v189, s190) => some (.inl (v189, s190))
      | .inr s187 =>
        ih x1 y2 (mw (x3 + 1)) s187
  ) n
theorem L_X9_isSign_r28_2_s (N n : Nat) (x1 : Int) (y2 : Nat) (x3 : Int) (σ : mS) : L_X9_isSign_r28_2 N (n + 1) x1 y2 x3 σ =
  if (σ 5 0 1) ≤ x3 then
    some (.inr σ)
  else
    Option.bind (f_X9_given N x1 x3 σ) fun ⟨v184, s183⟩ =>
    Option.bind (L_X9_isSign_r28_21 N N x1 y2 x3 v184 0 s183) fun o => match o with
      | .inl (v189, s190) => some (.inl (v189, s190))
      | .inr s187 =>
        L_X9_isSign_r28_2 N n x1 y2 (mw (x3 + 1)) s187 := rfl
noncomputable def f_X9_isSign_r28 (N : Nat) (a1 : Int) (q2 : Nat) (σ : mS) : Option (Int × mS) :=
  Option.bind (L_X9_isSign_r28_2 N N a1 q2 0 σ) fun o => match o with
    | .inl (v195, s196) => some (v195, s196)
    | .inr s193 =>
      some ((1 : Int), s193)
noncomputable def L_X9_makeOf_7 (N : Nat) (n : Nat) : Int → mS → Option (mS) := @Nat.rec (fun _ => Int → mS → Option (mS)) (fun _ _ => none) (fun n ih x2 σ =>
  if (o_shl 1 (σ 5 0 1)) ≤ x2 then
    some σ
  else
    if (16 : Int) ≤ (σ 26 0 0) then
      some σ
    else
      if (0 ≤ (σ 26 0 0) ∧ (σ 26 0 0) < 16) then
        Option.bind (f_X9_fillRow_r28 N x2 ((σ 26 0 0).toNat) σ) fun s182 =>
        if (0 ≤ (s182 26 0 0) ∧ (s182 26 0 0) < 16) then
          Option.bind (f_X9_isSign_r28 N x2 ((s182 26 0 0).toNat) s182) fun ⟨v198, s197⟩ =>
          if v198 = 0 then
            ih (mw (x2 + 1)) s197
          else
            ih (mw (x2 + 1)) (mup s197 26 0 0 (mw ((s197 26 0 0) + 1)))
        else none
      else none
  ) n
theorem L_X9_makeOf_7_s (N n : Nat) (x2 : Int) (σ : mS) : L_X9_makeOf_7 N (n + 1) x2 σ =
  if (o_shl 1 (σ 5 0 1)) ≤ x2 then
    some σ
  else
    if (16 : Int) ≤ (σ 26 0 0) then
      some σ
    else
      if (0 ≤ (σ 26 0 0) ∧ (σ 26 0 0) < 16) then
        Option.bind (f_X9_fillRow_r28 N x2 ((σ 26 0 0).toNat) σ) fun s182 =>
        if (0 ≤ (s182 26 0 0) ∧ (s182 26 0 0) < 16) then
          Option.bind (f_X9_isSign_r28 N x2 ((s182 26 0 0).toNat) s182) fun ⟨v198, s197⟩ =>
          if v198 = 0 then
            L_X9_makeOf_7 N n (mw (x2 + 1)) s197
          else
            L_X9_makeOf_7 N n (mw (x2 + 1)) (mup s197 26 0 0 (mw ((s197 26 0 0) + 1)))
        else none
      else none := rfl
noncomputable def f_X9_makeOf (N : Nat) (σ : mS) : Option (mS) :=
  Option.bind (L_X9_makeOf_7 N N 0 (mup σ 26 0 0 0)) fun s204 =>
  some s204
noncomputable def f_X0_forget (N : Nat) (σ : mS) : Option (mS) :=
  some (mup σ 42 0 1 0)
noncomputable def f_X11_makeGroup (N : Nat) (σ : mS) : Option (mS) :=
  Option.bind (f_X1_makeOf N σ) fun s174 =>
  Option.bind (f_X9_makeOf N s174) fun s206 =>
  Option.bind (f_X0_forget N s206) fun s207 =>
  some s207
noncomputable def f_X11_group (N : Nat) (σ : mS) : Option (Int × mS) :=
  Option.bind (f_X11_makeGroup N σ) fun s211 =>
  some ((s211 5 0 0), s211)
noncomputable def L_X1_kind_4 (N : Nat) (n : Nat) : Int → Int → mS → Option ((Int × mS) ⊕ (Int × mS)) := @Nat.rec (fun _ => Int → Int → mS → Option ((Int × mS) ⊕ (Int × mS))) (fun _ _ _ => none) (fun n ih x1 x2 σ =>
  if (σ 5 0 0) ≤ x2 then
    some (.inr (x1, σ))
  else
    if (0 ≤ x2 ∧ x2 < 48) then
      if (σ 18 0 x2.toNat) = (σ 5 0 0) then
        some (.inl ((0 : Int), σ))
      else
        if x1 = 0 then
          if (0 ≤ x2 ∧ x2 < 48) then
            if (σ 7 x2.toNat 0) < 0 then
              ih 1 (mw (x2 + 1)) σ
            else
              if (0 ≤ x2 ∧ x2 < 48) then
                if (σ 7 x2.toNat 1) < 0 then
                  ih 1 (mw (x2 + 1)) σ
                else
                  if (0 ≤ x2 ∧ x2 < 48) then
                    if 0 ≤ (σ 7 x2.toNat 2) then
                      ih 0 (mw (x2 + 1)) σ
                    else
                      ih 1 (mw (x2 + 1)) σ
                  else none
              else none
          else none
        else
          ih 1 (mw (x2 + 1)) σ
    else none
  ) n
theorem L_X1_kind_4_s (N n : Nat) (x1 : Int) (x2 : Int) (σ : mS) : L_X1_kind_4 N (n + 1) x1 x2 σ =
  if (σ 5 0 0) ≤ x2 then
    some (.inr (x1, σ))
  else
    if (0 ≤ x2 ∧ x2 < 48) then
      if (σ 18 0 x2.toNat) = (σ 5 0 0) then
        some (.inl ((0 : Int), σ))
      else
        if x1 = 0 then
          if (0 ≤ x2 ∧ x2 < 48) then
            if (σ 7 x2.toNat 0) < 0 then
              L_X1_kind_4 N n 1 (mw (x2 + 1)) σ
            else
              if (0 ≤ x2 ∧ x2 < 48) then
                if (σ 7 x2.toNat 1) < 0 then
                  L_X1_kind_4 N n 1 (mw (x2 + 1)) σ
                else
                  if (0 ≤ x2 ∧ x2 < 48) then
                    if 0 ≤ (σ 7 x2.toNat 2) then
                      L_X1_kind_4 N n 0 (mw (x2 + 1)) σ
                    else
                      L_X1_kind_4 N n 1 (mw (x2 + 1)) σ
                  else none
              else none
          else none
        else
          L_X1_kind_4 N n 1 (mw (x2 + 1)) σ
    else none := rfl
noncomputable def f_X1_kind (N : Nat) (σ : mS) : Option (Int × mS) :=
  Option.bind (L_X1_kind_4 N N 0 0 σ) fun o => match o with
    | .inl (v223, s224) => some (v223, s224)
    | .inr (o220, s219) =>
      if o220 = 0 then
        some ((1 : Int), s219)
      else
        some ((2 : Int), s219)
noncomputable def f_J13_bitCount_95d88 (N : Nat) (a0 : Int) (σ : mS) : Option (Int × mS) :=
  some ((o_and (mw (mx ((mx ((mx ((o_land (mx ((mx ((o_land (mx (a0 - (o_land (o_lushr a0 1) 6148914691236517205))) 3689348814741910323) + (o_land (o_lushr (mx (a0 - (o_land (o_lushr a0 1) 6148914691236517205))) 2) 3689348814741910323))) + (o_lushr (mx ((o_land (mx (a0 - (o_land (o_lushr a0 1) 6148914691236517205))) 3689348814741910323) + (o_land (o_lushr (mx (a0 - (o_land (o_lushr a0 1) 6148914691236517205))) 2) 3689348814741910323))) 4))) 1085102592571150095) + (o_lushr (o_land (mx ((mx ((o_land (mx (a0 - (o_land (o_lushr a0 1) 6148914691236517205))) 3689348814741910323) + (o_land (o_lushr (mx (a0 - (o_land (o_lushr a0 1) 6148914691236517205))) 2) 3689348814741910323))) + (o_lushr (mx ((o_land (mx (a0 - (o_land (o_lushr a0 1) 6148914691236517205))) 3689348814741910323) + (o_land (o_lushr (mx (a0 - (o_land (o_lushr a0 1) 6148914691236517205))) 2) 3689348814741910323))) 4))) 1085102592571150095) 8))) + (o_lushr (mx ((o_land (mx ((mx ((o_land (mx (a0 - (o_land (o_lushr a0 1) 6148914691236517205))) 3689348814741910323) + (o_land (o_lushr (mx (a0 - (o_land (o_lushr a0 1) 6148914691236517205))) 2) 3689348814741910323))) + (o_lushr (mx ((o_land (mx (a0 - (o_land (o_lushr a0 1) 6148914691236517205))) 3689348814741910323) + (o_land (o_lushr (mx (a0 - (o_land (o_lushr a0 1) 6148914691236517205))) 2) 3689348814741910323))) 4))) 1085102592571150095) + (o_lushr (o_land (mx ((mx ((o_land (mx (a0 - (o_land (o_lushr a0 1) 6148914691236517205))) 3689348814741910323) + (o_land (o_lushr (mx (a0 - (o_land (o_lushr a0 1) 6148914691236517205))) 2) 3689348814741910323))) + (o_lushr (mx ((o_land (mx (a0 - (o_land (o_lushr a0 1) 6148914691236517205))) 3689348814741910323) + (o_land (o_lushr (mx (a0 - (o_land (o_lushr a0 1) 6148914691236517205))) 2) 3689348814741910323))) 4))) 1085102592571150095) 8))) 16))) + (o_lushr (mx ((mx ((o_land (mx ((mx ((o_land (mx (a0 - (o_land (o_lushr a0 1) 6148914691236517205))) 3689348814741910323) + (o_land (o_lushr (mx (a0 - (o_land (o_lushr a0 1) 6148914691236517205))) 2) 3689348814741910323))) + (o_lushr (mx ((o_land (mx (a0 - (o_land (o_lushr a0 1) 6148914691236517205))) 3689348814741910323) + (o_land (o_lushr (mx (a0 - (o_land (o_lushr a0 1) 6148914691236517205))) 2) 3689348814741910323))) 4))) 1085102592571150095) + (o_lushr (o_land (mx ((mx ((o_land (mx (a0 - (o_land (o_lushr a0 1) 6148914691236517205))) 3689348814741910323) + (o_land (o_lushr (mx (a0 - (o_land (o_lushr a0 1) 6148914691236517205))) 2) 3689348814741910323))) + (o_lushr (mx ((o_land (mx (a0 - (o_land (o_lushr a0 1) 6148914691236517205))) 3689348814741910323) + (o_land (o_lushr (mx (a0 - (o_land (o_lushr a0 1) 6148914691236517205))) 2) 3689348814741910323))) 4))) 1085102592571150095) 8))) + (o_lushr (mx ((o_land (mx ((mx ((o_land (mx (a0 - (o_land (o_lushr a0 1) 6148914691236517205))) 3689348814741910323) + (o_land (o_lushr (mx (a0 - (o_land (o_lushr a0 1) 6148914691236517205))) 2) 3689348814741910323))) + (o_lushr (mx ((o_land (mx (a0 - (o_land (o_lushr a0 1) 6148914691236517205))) 3689348814741910323) + (o_land (o_lushr (mx (a0 - (o_land (o_lushr a0 1) 6148914691236517205))) 2) 3689348814741910323))) 4))) 1085102592571150095) + (o_lushr (o_land (mx ((mx ((o_land (mx (a0 - (o_land (o_lushr a0 1) 6148914691236517205))) 3689348814741910323) + (o_land (o_lushr (mx (a0 - (o_land (o_lushr a0 1) 6148914691236517205))) 2) 3689348814741910323))) + (o_lushr (mx ((o_land (mx (a0 - (o_land (o_lushr a0 1) 6148914691236517205))) 3689348814741910323) + (o_land (o_lushr (mx (a0 - (o_land (o_lushr a0 1) 6148914691236517205))) 2) 3689348814741910323))) 4))) 1085102592571150095) 8))) 16))) 32)))) 127), σ)
noncomputable def L_X1_oneMirrorMore_17 (N : Nat) (n : Nat) : Int → Int → Int → Int → mS → Option (Int × mS) := @Nat.rec (fun _ => Int → Int → Int → Int → mS → Option (Int × mS)) (fun _ _ _ _ _ => none) (fun n ih x1 x3 x5 x6 σ =>
  if (σ 5 0 0) ≤ x6 then
    some (x3, σ)
  else
    if (if (o_land (o_lshr x1 x5) 1) > (1 : Int) then 1 else if (o_land (o_lshr x1 x5) 1) = (1 : Int) then 0 else -1) = 0 then
      if (0 ≤ x6 ∧ x6 < 48) then
        if (σ 22 0 x6.toNat) = 0 then
          ih x1 (o_lor x3 0) x5 (mw (x6 + 1)) σ
        else
          if (0 ≤ x5 ∧ x5 < 48) ∧ (0 ≤ x6 ∧ x6 < 48) then
            ih x1 (o_lor x3 (o_lshl 1 (σ 16 x5.toNat x6.toNat))) x5 (mw (x6 + 1)) σ
          else none
      else none
    else
      some (x3, σ)
  ) n
theorem L_X1_oneMirrorMore_17_s (N n : Nat) (x1 : Int) (x3 : Int) (x5 : Int) (x6 : Int) (σ : mS) : L_X1_oneMirrorMore_17 N (n + 1) x1 x3 x5 x6 σ =
  if (σ 5 0 0) ≤ x6 then
    some (x3, σ)
  else
    if (if (o_land (o_lshr x1 x5) 1) > (1 : Int) then 1 else if (o_land (o_lshr x1 x5) 1) = (1 : Int) then 0 else -1) = 0 then
      if (0 ≤ x6 ∧ x6 < 48) then
        if (σ 22 0 x6.toNat) = 0 then
          L_X1_oneMirrorMore_17 N n x1 (o_lor x3 0) x5 (mw (x6 + 1)) σ
        else
          if (0 ≤ x5 ∧ x5 < 48) ∧ (0 ≤ x6 ∧ x6 < 48) then
            L_X1_oneMirrorMore_17 N n x1 (o_lor x3 (o_lshl 1 (σ 16 x5.toNat x6.toNat))) x5 (mw (x6 + 1)) σ
          else none
      else none
    else
      some (x3, σ) := rfl
noncomputable def L_X1_oneMirrorMore_5 (N : Nat) (n : Nat) : Int → Int → Int → mS → Option (Int × mS) := @Nat.rec (fun _ => Int → Int → Int → mS → Option (Int × mS)) (fun _ _ _ _ => none) (fun n ih x1 x3 x5 σ =>
  if (σ 5 0 0) ≤ x5 then
    some (x3, σ)
  else
    Option.bind (L_X1_oneMirrorMore_17 N N x1 x3 x5 0 σ) fun ⟨o236, s235⟩ =>
    ih x1 o236 (mw (x5 + 1)) s235
  ) n
theorem L_X1_oneMirrorMore_5_s (N n : Nat) (x1 : Int) (x3 : Int) (x5 : Int) (σ : mS) : L_X1_oneMirrorMore_5 N (n + 1) x1 x3 x5 σ =
  if (σ 5 0 0) ≤ x5 then
    some (x3, σ)
  else
    Option.bind (L_X1_oneMirrorMore_17 N N x1 x3 x5 0 σ) fun ⟨o236, s235⟩ =>
    L_X1_oneMirrorMore_5 N n x1 o236 (mw (x5 + 1)) s235 := rfl
noncomputable def f_X1_oneMirrorMore (N : Nat) (a1 : Int) (σ : mS) : Option (Int × mS) :=
  Option.bind (L_X1_oneMirrorMore_5 N N a1 0 0 σ) fun ⟨o240, s239⟩ =>
  some (o240, s239)
noncomputable def L_X1_isMadeOfMirrors_4 (N : Nat) (n : Nat) : Int → Int → mS → Option (Int × mS) := @Nat.rec (fun _ => Int → Int → mS → Option (Int × mS)) (fun _ _ _ => none) (fun n ih x1 x3 σ =>
  Option.bind (f_J13_bitCount_95d88 N x1 σ) fun ⟨v229, s228⟩ =>
  if v229 ≤ x3 then
    some (x3, s228)
  else
    if (48 : Int) ≤ x3 then
      some (x3, s228)
    else
      Option.bind (f_J13_bitCount_95d88 N x1 s228) fun ⟨v231, s230⟩ =>
      Option.bind (f_X1_oneMirrorMore N x1 s230) fun ⟨v243, s242⟩ =>
      ih (o_lor x1 v243) v231 s242
  ) n
theorem L_X1_isMadeOfMirrors_4_s (N n : Nat) (x1 : Int) (x3 : Int) (σ : mS) : L_X1_isMadeOfMirrors_4 N (n + 1) x1 x3 σ =
  Option.bind (f_J13_bitCount_95d88 N x1 σ) fun ⟨v229, s228⟩ =>
  if v229 ≤ x3 then
    some (x3, s228)
  else
    if (48 : Int) ≤ x3 then
      some (x3, s228)
    else
      Option.bind (f_J13_bitCount_95d88 N x1 s228) fun ⟨v231, s230⟩ =>
      Option.bind (f_X1_oneMirrorMore N x1 s230) fun ⟨v243, s242⟩ =>
      L_X1_isMadeOfMirrors_4 N n (o_lor x1 v243) v231 s242 := rfl
noncomputable def f_X1_isMadeOfMirrors (N : Nat) (σ : mS) : Option (Int × mS) :=
  Option.bind (L_X1_isMadeOfMirrors_4 N N 1 0 σ) fun ⟨o250, s249⟩ =>
  if o250 = (s249 5 0 0) then
    some ((1 : Int), s249)
  else
    some ((0 : Int), s249)
noncomputable def f_X3_empty (N : Nat) (q0 : Nat) (σ : mS) : Option (mS) :=
  some (mup (mup σ 47 q0 3 0) 47 q0 7 0)
noncomputable def L_J7_fill_53178_r60_5 (N : Nat) (n : Nat) : Nat → Int → Int → Int → mS → Option (mS) := @Nat.rec (fun _ => Nat → Int → Int → Int → mS → Option (mS)) (fun _ _ _ _ _ => none) (fun n ih y0 x1 x2 x3 σ =>
  if x3 ≤ x2 then
    some σ
  else
    if (0 ≤ x2 ∧ x2 < ((gwd y0 : Nat) : Int)) then
      ih y0 x1 (mw (x2 + 1)) x3 (mup σ 60 y0 x2.toNat x1)
    else none
  ) n
theorem L_J7_fill_53178_r60_5_s (N n : Nat) (y0 : Nat) (x1 : Int) (x2 : Int) (x3 : Int) (σ : mS) : L_J7_fill_53178_r60_5 N (n + 1) y0 x1 x2 x3 σ =
  if x3 ≤ x2 then
    some σ
  else
    if (0 ≤ x2 ∧ x2 < ((gwd y0 : Nat) : Int)) then
      L_J7_fill_53178_r60_5 N n y0 x1 (mw (x2 + 1)) x3 (mup σ 60 y0 x2.toNat x1)
    else none := rfl
noncomputable def f_J7_fill_53178_r60 (N : Nat) (q0 : Nat) (a1 : Int) (σ : mS) : Option (mS) :=
  Option.bind (L_J7_fill_53178_r60_5 N N q0 a1 0 ((gwd q0 : Nat) : Int) σ) fun s259 =>
  some s259
noncomputable def L_X11_takeOff_r59_r55_10 (N : Nat) (n : Nat) : Nat → Nat → Int → Int → Int → mS → Option (mS) := @Nat.rec (fun _ => Nat → Nat → Int → Int → Int → mS → Option (mS)) (fun _ _ _ _ _ _ => none) (fun n ih y0 y1 x3 x4 x5 σ =>
  if x3 ≤ x5 then
    some σ
  else
    if (0 ≤ x5 ∧ x5 < ((gwd (y1 / 64) : Nat) : Int)) then
      if (σ 55 y1 x5.toNat) = 0 then
        ih y0 y1 x3 x4 (mw (x5 + 1)) σ
      else
        if (0 ≤ x5 ∧ x5 < ((gwd y0 : Nat) : Int)) ∧ (0 ≤ x5 ∧ x5 < ((gwd (y1 / 64) : Nat) : Int)) then
          ih y0 y1 x3 x4 (mw (x5 + 1)) (mup σ 59 y0 x5.toNat (o_rem (mw ((σ 59 y0 x5.toNat) + (mw (x4 * (σ 55 y1 x5.toNat))))) 32003))
        else none
    else none
  ) n
theorem L_X11_takeOff_r59_r55_10_s (N n : Nat) (y0 : Nat) (y1 : Nat) (x3 : Int) (x4 : Int) (x5 : Int) (σ : mS) : L_X11_takeOff_r59_r55_10 N (n + 1) y0 y1 x3 x4 x5 σ =
  if x3 ≤ x5 then
    some σ
  else
    if (0 ≤ x5 ∧ x5 < ((gwd (y1 / 64) : Nat) : Int)) then
      if (σ 55 y1 x5.toNat) = 0 then
        L_X11_takeOff_r59_r55_10 N n y0 y1 x3 x4 (mw (x5 + 1)) σ
      else
        if (0 ≤ x5 ∧ x5 < ((gwd y0 : Nat) : Int)) ∧ (0 ≤ x5 ∧ x5 < ((gwd (y1 / 64) : Nat) : Int)) then
          L_X11_takeOff_r59_r55_10 N n y0 y1 x3 x4 (mw (x5 + 1)) (mup σ 59 y0 x5.toNat (o_rem (mw ((σ 59 y0 x5.toNat) + (mw (x4 * (σ 55 y1 x5.toNat))))) 32003))
        else none
    else none := rfl
noncomputable def f_X11_takeOff_r59_r55 (N : Nat) (q0 : Nat) (q1 : Nat) (a2 : Int) (a3 : Int) (σ : mS) : Option (mS) :=
  Option.bind (L_X11_takeOff_r59_r55_10 N N q0 q1 a3 (mw ((32003 : Int) - a2)) 0 σ) fun s264 =>
  some s264
noncomputable def L_X11_takeOff_r60_r57_10 (N : Nat) (n : Nat) : Nat → Nat → Int → Int → Int → mS → Option (mS) := @Nat.rec (fun _ => Nat → Nat → Int → Int → Int → mS → Option (mS)) (fun _ _ _ _ _ _ => none) (fun n ih y0 y1 x3 x4 x5 σ =>
  if x3 ≤ x5 then
    some σ
  else
    if (0 ≤ x5 ∧ x5 < ((gwd (y1 / 64) : Nat) : Int)) then
      if (σ 57 y1 x5.toNat) = 0 then
        ih y0 y1 x3 x4 (mw (x5 + 1)) σ
      else
        if (0 ≤ x5 ∧ x5 < ((gwd y0 : Nat) : Int)) ∧ (0 ≤ x5 ∧ x5 < ((gwd (y1 / 64) : Nat) : Int)) then
          ih y0 y1 x3 x4 (mw (x5 + 1)) (mup σ 60 y0 x5.toNat (o_rem (mw ((σ 60 y0 x5.toNat) + (mw (x4 * (σ 57 y1 x5.toNat))))) 32003))
        else none
    else none
  ) n
theorem L_X11_takeOff_r60_r57_10_s (N n : Nat) (y0 : Nat) (y1 : Nat) (x3 : Int) (x4 : Int) (x5 : Int) (σ : mS) : L_X11_takeOff_r60_r57_10 N (n + 1) y0 y1 x3 x4 x5 σ =
  if x3 ≤ x5 then
    some σ
  else
    if (0 ≤ x5 ∧ x5 < ((gwd (y1 / 64) : Nat) : Int)) then
      if (σ 57 y1 x5.toNat) = 0 then
        L_X11_takeOff_r60_r57_10 N n y0 y1 x3 x4 (mw (x5 + 1)) σ
      else
        if (0 ≤ x5 ∧ x5 < ((gwd y0 : Nat) : Int)) ∧ (0 ≤ x5 ∧ x5 < ((gwd (y1 / 64) : Nat) : Int)) then
          L_X11_takeOff_r60_r57_10 N n y0 y1 x3 x4 (mw (x5 + 1)) (mup σ 60 y0 x5.toNat (o_rem (mw ((σ 60 y0 x5.toNat) + (mw (x4 * (σ 57 y1 x5.toNat))))) 32003))
        else none
    else none := rfl
noncomputable def f_X11_takeOff_r60_r57 (N : Nat) (q0 : Nat) (q1 : Nat) (a2 : Int) (a3 : Int) (σ : mS) : Option (mS) :=
  Option.bind (L_X11_takeOff_r60_r57_10 N N q0 q1 a3 (mw ((32003 : Int) - a2)) 0 σ) fun s269 =>
  some s269
noncomputable def L_X3_reduceWork_2 (N : Nat) (n : Nat) : Nat → Int → mS → Option (mS) := @Nat.rec (fun _ => Nat → Int → mS → Option (mS)) (fun _ _ _ => none) (fun n ih y0 x1 σ =>
  if (σ 47 y0 7) ≤ x1 then
    some σ
  else
    if (0 ≤ x1 ∧ x1 < ((gwd y0 : Nat) : Int)) ∧ (0 ≤ (σ 58 y0 x1.toNat) ∧ (σ 58 y0 x1.toNat) < ((gwd y0 : Nat) : Int)) then
      if (σ 59 y0 ((σ 58 y0 x1.toNat).toNat)) = 0 then
        ih y0 (mw (x1 + 1)) σ
      else
        if (0 ≤ x1 ∧ x1 < ((gwd y0 : Nat) : Int)) then
          Option.bind (f_X11_takeOff_r59_r55 N y0 (64 * y0 + x1.toNat) (σ 59 y0 ((σ 58 y0 x1.toNat).toNat)) (σ 47 y0 1) σ) fun s266 =>
          if (0 ≤ x1 ∧ x1 < ((gwd y0 : Nat) : Int)) then
            Option.bind (f_X11_takeOff_r60_r57 N y0 (64 * y0 + x1.toNat) (σ 59 y0 ((σ 58 y0 x1.toNat).toNat)) (s266 47 y0 7) s266) fun s271 =>
            ih y0 (mw (x1 + 1)) s271
          else none
        else none
    else none
  ) n
theorem L_X3_reduceWork_2_s (N n : Nat) (y0 : Nat) (x1 : Int) (σ : mS) : L_X3_reduceWork_2 N (n + 1) y0 x1 σ =
  if (σ 47 y0 7) ≤ x1 then
    some σ
  else
    if (0 ≤ x1 ∧ x1 < ((gwd y0 : Nat) : Int)) ∧ (0 ≤ (σ 58 y0 x1.toNat) ∧ (σ 58 y0 x1.toNat) < ((gwd y0 : Nat) : Int)) then
      if (σ 59 y0 ((σ 58 y0 x1.toNat).toNat)) = 0 then
        L_X3_reduceWork_2 N n y0 (mw (x1 + 1)) σ
      else
        if (0 ≤ x1 ∧ x1 < ((gwd y0 : Nat) : Int)) then
          Option.bind (f_X11_takeOff_r59_r55 N y0 (64 * y0 + x1.toNat) (σ 59 y0 ((σ 58 y0 x1.toNat).toNat)) (σ 47 y0 1) σ) fun s266 =>
          if (0 ≤ x1 ∧ x1 < ((gwd y0 : Nat) : Int)) then
            Option.bind (f_X11_takeOff_r60_r57 N y0 (64 * y0 + x1.toNat) (σ 59 y0 ((σ 58 y0 x1.toNat).toNat)) (s266 47 y0 7) s266) fun s271 =>
            L_X3_reduceWork_2 N n y0 (mw (x1 + 1)) s271
          else none
        else none
    else none := rfl
noncomputable def f_X3_reduceWork (N : Nat) (q0 : Nat) (σ : mS) : Option (mS) :=
  Option.bind (L_X3_reduceWork_2 N N q0 0 σ) fun s276 =>
  some s276
noncomputable def L_X3_firstOfWork_2 (N : Nat) (n : Nat) : Nat → Int → mS → Option ((Int × mS) ⊕ (mS)) := @Nat.rec (fun _ => Nat → Int → mS → Option ((Int × mS) ⊕ (mS))) (fun _ _ _ => none) (fun n ih y0 x1 σ =>
  if (σ 47 y0 1) ≤ x1 then
    some (.inr σ)
  else
    if (0 ≤ x1 ∧ x1 < ((gwd y0 : Nat) : Int)) then
      if (σ 59 y0 x1.toNat) = 0 then
        ih y0 (mw (x1 + 1)) σ
      else
        some (.inl (x1, σ))
    else none
  ) n
theorem L_X3_firstOfWork_2_s (N n : Nat) (y0 : Nat) (x1 : Int) (σ : mS) : L_X3_firstOfWork_2 N (n + 1) y0 x1 σ =
  if (σ 47 y0 1) ≤ x1 then
    some (.inr σ)
  else
    if (0 ≤ x1 ∧ x1 < ((gwd y0 : Nat) : Int)) then
      if (σ 59 y0 x1.toNat) = 0 then
        L_X3_firstOfWork_2 N n y0 (mw (x1 + 1)) σ
      else
        some (.inl (x1, σ))
    else none := rfl
noncomputable def f_X3_firstOfWork (N : Nat) (q0 : Nat) (σ : mS) : Option (Int × mS) :=
  Option.bind (L_X3_firstOfWork_2 N N q0 0 σ) fun o => match o with
    | .inl (v283, s284) => some (v283, s284)
    | .inr s281 =>
      some ((-1 : Int), s281)
noncomputable def f_J9_floorMod_7cf53 (N : Nat) (a0 : Int) (a1 : Int) (σ : mS) : Option (Int × mS) :=
  if ¬ a1 = 0 then
    if 0 ≤ (o_xor a0 a1) then
      some ((o_rem a0 a1), σ)
    else
      if (o_rem a0 a1) = 0 then
        some ((o_rem a0 a1), σ)
      else
        some ((mw ((o_rem a0 a1) + a1)), σ)
  else none
noncomputable def f_X11_leftOver (N : Nat) (a0 : Int) (σ : mS) : Option (Int × mS) :=
  Option.bind (f_J9_floorMod_7cf53 N a0 32003 σ) fun ⟨v290, s289⟩ =>
  some (v290, s289)
noncomputable def L_X11_inverse_11 (N : Nat) (n : Nat) : Int → Int → Int → mS → Option (Int × mS) := @Nat.rec (fun _ => Int → Int → Int → mS → Option (Int × mS)) (fun _ _ _ _ => none) (fun n ih x1 x2 x3 σ =>
  if x3 ≤ 0 then
    some (x1, σ)
  else
    if (o_and x3 1) = (1 : Int) then
      ih (o_rem (mw (x1 * x2)) 32003) (o_rem (mw (x2 * x2)) 32003) (o_shr x3 1) σ
    else
      ih x1 (o_rem (mw (x2 * x2)) 32003) (o_shr x3 1) σ
  ) n
theorem L_X11_inverse_11_s (N n : Nat) (x1 : Int) (x2 : Int) (x3 : Int) (σ : mS) : L_X11_inverse_11 N (n + 1) x1 x2 x3 σ =
  if x3 ≤ 0 then
    some (x1, σ)
  else
    if (o_and x3 1) = (1 : Int) then
      L_X11_inverse_11 N n (o_rem (mw (x1 * x2)) 32003) (o_rem (mw (x2 * x2)) 32003) (o_shr x3 1) σ
    else
      L_X11_inverse_11 N n x1 (o_rem (mw (x2 * x2)) 32003) (o_shr x3 1) σ := rfl
noncomputable def f_X11_inverse (N : Nat) (a0 : Int) (σ : mS) : Option (Int × mS) :=
  Option.bind (f_X11_leftOver N a0 σ) fun ⟨v293, s292⟩ =>
  Option.bind (L_X11_inverse_11 N N 1 v293 32001 s292) fun ⟨o297, s296⟩ =>
  some (o297, s296)
noncomputable def L_X3_keepIfFree_r51_73 (N : Nat) (n : Nat) : Nat → Int → Int → Int → Int → mS → Option (mS) := @Nat.rec (fun _ => Nat → Int → Int → Int → Int → mS → Option (mS)) (fun _ _ _ _ _ _ => none) (fun n ih y0 x2 x3 x4 x5 σ =>
  if (σ 47 y0 1) ≤ x5 then
    some σ
  else
    if (0 ≤ (σ 47 y0 7) ∧ (σ 47 y0 7) < ((gwd y0 : Nat) : Int)) ∧ (0 ≤ x5 ∧ x5 < ((gwd y0 : Nat) : Int)) ∧ (0 ≤ x5 ∧ x5 < ((gwd ((64 * y0 + (σ 47 y0 7).toNat) / 64) : Nat) : Int)) then
      ih y0 x2 x3 x4 (mw (x5 + 1)) (mup (mup σ 55 (64 * y0 + (σ 47 y0 7).toNat) x5.toNat (o_rem (mw ((σ 59 y0 x5.toNat) * x4)) 32003)) 57 (64 * y0 + (σ 47 y0 7).toNat) x5.toNat (o_rem (mw ((σ 60 y0 x5.toNat) * x4)) 32003))
    else none
  ) n
theorem L_X3_keepIfFree_r51_73_s (N n : Nat) (y0 : Nat) (x2 : Int) (x3 : Int) (x4 : Int) (x5 : Int) (σ : mS) : L_X3_keepIfFree_r51_73 N (n + 1) y0 x2 x3 x4 x5 σ =
  if (σ 47 y0 1) ≤ x5 then
    some σ
  else
    if (0 ≤ (σ 47 y0 7) ∧ (σ 47 y0 7) < ((gwd y0 : Nat) : Int)) ∧ (0 ≤ x5 ∧ x5 < ((gwd y0 : Nat) : Int)) ∧ (0 ≤ x5 ∧ x5 < ((gwd ((64 * y0 + (σ 47 y0 7).toNat) / 64) : Nat) : Int)) then
      L_X3_keepIfFree_r51_73 N n y0 x2 x3 x4 (mw (x5 + 1)) (mup (mup σ 55 (64 * y0 + (σ 47 y0 7).toNat) x5.toNat (o_rem (mw ((σ 59 y0 x5.toNat) * x4)) 32003)) 57 (64 * y0 + (σ 47 y0 7).toNat) x5.toNat (o_rem (mw ((σ 60 y0 x5.toNat) * x4)) 32003))
    else none := rfl
noncomputable def f_X3_keepIfFree_r51 (N : Nat) (q0 : Nat) (q1 : Nat) (a2 : Int) (σ : mS) : Option (Int × mS) :=
  if 0 ≤ (0 : Int) ∧ 0 ≤ (0 : Int) ∧ 0 ≤ (σ 47 q0 1) ∧ (0 : Int) + (σ 47 q0 1) ≤ ((gwd (q1 / 64) : Nat) : Int) ∧ (0 : Int) + (σ 47 q0 1) ≤ ((gwd q0 : Nat) : Int) then
    Option.bind (f_J7_fill_53178_r60 N q0 0 (mcp σ 51 q1 0 59 q0 0 (σ 47 q0 1))) fun s261 =>
    Option.bind (f_X3_reduceWork N q0 s261) fun s278 =>
    Option.bind (f_X3_firstOfWork N q0 s278) fun ⟨v286, s285⟩ =>
    if v286 = (-1 : Int) then
      some ((0 : Int), s285)
    else
      if (s285 47 q0 7) < (s285 47 q0 1) then
        if (0 ≤ (s285 47 q0 7) ∧ (s285 47 q0 7) < ((gwd q0 : Nat) : Int)) ∧ (0 ≤ v286 ∧ v286 < ((gwd q0 : Nat) : Int)) then
          Option.bind (f_X11_inverse N (s285 59 q0 v286.toNat) (mup s285 60 q0 ((s285 47 q0 7).toNat) 1)) fun ⟨v301, s300⟩ =>
          Option.bind (L_X3_keepIfFree_r51_73 N N q0 a2 v286 v301 0 s300) fun s303 =>
          if (0 ≤ (s303 47 q0 7) ∧ (s303 47 q0 7) < ((gwd q0 : Nat) : Int)) then
            some ((1 : Int), (mup (mup (mup s303 58 q0 ((s303 47 q0 7).toNat) v286) 53 q0 ((s303 47 q0 7).toNat) a2) 47 q0 7 (mw ((s303 47 q0 7) + 1))))
          else none
        else none
      else
        some ((0 : Int), s285)
  else none
noncomputable def f_X0_addProductOfNothing (N : Nat) (σ : mS) : Option (mS) :=
  Option.bind (f_X3_empty N 0 σ) fun s257 =>
  if (0 ≤ (0 : Int) ∧ (0 : Int) < ((gmo 0 : Nat) : Int)) ∧ (0 ≤ (0 : Int) ∧ (0 : Int) < ((gwd ((64 * 0 + 0) / 64) : Nat) : Int)) then
    Option.bind (f_X3_keepIfFree_r51 N 0 (64 * 0 + 0) 0 (mup (mup s257 51 (64 * 0 + 0) 0 1) 52 0 0 6)) fun ⟨v312, s311⟩ =>
    some (mup s311 47 0 3 1)
  else none
noncomputable def f_X3_isFull (N : Nat) (q0 : Nat) (σ : mS) : Option (Int × mS) :=
  if (σ 47 q0 3) < (σ 47 q0 2) then
    some ((0 : Int), σ)
  else
    some ((1 : Int), σ)
noncomputable def L_J7_fill_53178_r51_5 (N : Nat) (n : Nat) : Nat → Int → Int → Int → mS → Option (mS) := @Nat.rec (fun _ => Nat → Int → Int → Int → mS → Option (mS)) (fun _ _ _ _ _ => none) (fun n ih y0 x1 x2 x3 σ =>
  if x3 ≤ x2 then
    some σ
  else
    if (0 ≤ x2 ∧ x2 < ((gwd (y0 / 64) : Nat) : Int)) then
      ih y0 x1 (mw (x2 + 1)) x3 (mup σ 51 y0 x2.toNat x1)
    else none
  ) n
theorem L_J7_fill_53178_r51_5_s (N n : Nat) (y0 : Nat) (x1 : Int) (x2 : Int) (x3 : Int) (σ : mS) : L_J7_fill_53178_r51_5 N (n + 1) y0 x1 x2 x3 σ =
  if x3 ≤ x2 then
    some σ
  else
    if (0 ≤ x2 ∧ x2 < ((gwd (y0 / 64) : Nat) : Int)) then
      L_J7_fill_53178_r51_5 N n y0 x1 (mw (x2 + 1)) x3 (mup σ 51 y0 x2.toNat x1)
    else none := rfl
noncomputable def f_J7_fill_53178_r51 (N : Nat) (q0 : Nat) (a1 : Int) (σ : mS) : Option (mS) :=
  Option.bind (L_J7_fill_53178_r51_5 N N q0 a1 0 ((gwd (q0 / 64) : Nat) : Int) σ) fun s321 =>
  some s321
noncomputable def f_X7_firstOf (N : Nat) (a0 : Int) (σ : mS) : Option (Int × mS) :=
  some ((o_div (mw ((mw (a0 * (mw (a0 + 1)))) * (mw (a0 + 2)))) 6), σ)
noncomputable def f_X7_indexOf (N : Nat) (a0 : Int) (a1 : Int) (a2 : Int) (σ : mS) : Option (Int × mS) :=
  some ((mw ((mw ((o_div (mw ((mw ((mw (a0 + (mw (a1 + a2)))) * (mw ((mw (a0 + (mw (a1 + a2)))) + 1)))) * (mw ((mw (a0 + (mw (a1 + a2)))) + 2)))) 6) + (o_div (mw ((mw (a1 + a2)) * (mw ((mw (a1 + a2)) + 1)))) 2))) + a2)), σ)
noncomputable def f_X7_indexOfProduct (N : Nat) (a1 : Int) (a2 : Int) (σ : mS) : Option (Int × mS) :=
  if (0 ≤ a1 ∧ a1 < 165) ∧ (0 ≤ a2 ∧ a2 < 165) then
    Option.bind (f_X7_indexOf N (mw ((σ 39 0 a1.toNat) + (σ 39 0 a2.toNat))) (mw ((σ 39 1 a1.toNat) + (σ 39 1 a2.toNat))) (mw ((σ 39 2 a1.toNat) + (σ 39 2 a2.toNat))) σ) fun ⟨v331, s330⟩ =>
    some (v331, s330)
  else none
noncomputable def L_X0_multiplyInto_r51_63 (N : Nat) (n : Nat) : Nat → Nat → Int → Nat → Int → Int → Int → Int → Int → Int → Int → mS → Option (mS) := @Nat.rec (fun _ => Nat → Nat → Int → Nat → Int → Int → Int → Int → Int → Int → Int → mS → Option (mS)) (fun _ _ _ _ _ _ _ _ _ _ _ _ => none) (fun n ih y0 y1 x2 y3 x4 x6 x7 x8 x9 x10 x11 σ =>
  if x10 = 0 then
    some σ
  else
    if (σ 47 y3 1) ≤ x11 then
      some σ
    else
      Option.bind (f_X7_indexOfProduct N (mw (x6 + x9)) (mw (x7 + x11)) σ) fun ⟨v334, s333⟩ =>
      if (mw (v334 - x8)) < 0 then
        ih y0 y1 x2 y3 x4 x6 x7 x8 x9 x10 (mw (x11 + 1)) s333
      else
        if ((gwd (y0 / 64) : Nat) : Int) ≤ (mw (v334 - x8)) then
          ih y0 y1 x2 y3 x4 x6 x7 x8 x9 x10 (mw (x11 + 1)) s333
        else
          if (0 ≤ (mw (v334 - x8)) ∧ (mw (v334 - x8)) < ((gwd (y0 / 64) : Nat) : Int)) ∧ (0 ≤ x4 ∧ x4 < ((gmo y3 : Nat) : Int)) ∧ (0 ≤ x11 ∧ x11 < ((gwd ((64 * y3 + x4.toNat) / 64) : Nat) : Int)) then
            ih y0 y1 x2 y3 x4 x6 x7 x8 x9 x10 (mw (x11 + 1)) (mup s333 51 y0 ((mw (v334 - x8)).toNat) (o_rem (mw ((s333 51 y0 ((mw (v334 - x8)).toNat)) + (mw (x10 * (s333 51 (64 * y3 + x4.toNat) x11.toNat))))) 32003))
          else none
  ) n
theorem L_X0_multiplyInto_r51_63_s (N n : Nat) (y0 : Nat) (y1 : Nat) (x2 : Int) (y3 : Nat) (x4 : Int) (x6 : Int) (x7 : Int) (x8 : Int) (x9 : Int) (x10 : Int) (x11 : Int) (σ : mS) : L_X0_multiplyInto_r51_63 N (n + 1) y0 y1 x2 y3 x4 x6 x7 x8 x9 x10 x11 σ =
  if x10 = 0 then
    some σ
  else
    if (σ 47 y3 1) ≤ x11 then
      some σ
    else
      Option.bind (f_X7_indexOfProduct N (mw (x6 + x9)) (mw (x7 + x11)) σ) fun ⟨v334, s333⟩ =>
      if (mw (v334 - x8)) < 0 then
        L_X0_multiplyInto_r51_63 N n y0 y1 x2 y3 x4 x6 x7 x8 x9 x10 (mw (x11 + 1)) s333
      else
        if ((gwd (y0 / 64) : Nat) : Int) ≤ (mw (v334 - x8)) then
          L_X0_multiplyInto_r51_63 N n y0 y1 x2 y3 x4 x6 x7 x8 x9 x10 (mw (x11 + 1)) s333
        else
          if (0 ≤ (mw (v334 - x8)) ∧ (mw (v334 - x8)) < ((gwd (y0 / 64) : Nat) : Int)) ∧ (0 ≤ x4 ∧ x4 < ((gmo y3 : Nat) : Int)) ∧ (0 ≤ x11 ∧ x11 < ((gwd ((64 * y3 + x4.toNat) / 64) : Nat) : Int)) then
            L_X0_multiplyInto_r51_63 N n y0 y1 x2 y3 x4 x6 x7 x8 x9 x10 (mw (x11 + 1)) (mup s333 51 y0 ((mw (v334 - x8)).toNat) (o_rem (mw ((s333 51 y0 ((mw (v334 - x8)).toNat)) + (mw (x10 * (s333 51 (64 * y3 + x4.toNat) x11.toNat))))) 32003))
          else none := rfl
noncomputable def L_X0_multiplyInto_r51_40 (N : Nat) (n : Nat) : Nat → Nat → Int → Nat → Int → Int → Int → Int → Int → mS → Option (mS) := @Nat.rec (fun _ => Nat → Nat → Int → Nat → Int → Int → Int → Int → Int → mS → Option (mS)) (fun _ _ _ _ _ _ _ _ _ _ => none) (fun n ih y0 y1 x2 y3 x4 x6 x7 x8 x9 σ =>
  if (σ 47 y1 1) ≤ x9 then
    some σ
  else
    if (0 ≤ x2 ∧ x2 < ((gmo y1 : Nat) : Int)) ∧ (0 ≤ x9 ∧ x9 < ((gwd ((64 * y1 + x2.toNat) / 64) : Nat) : Int)) then
      Option.bind (L_X0_multiplyInto_r51_63 N N y0 y1 x2 y3 x4 x6 x7 x8 x9 (σ 51 (64 * y1 + x2.toNat) x9.toNat) 0 σ) fun s340 =>
      ih y0 y1 x2 y3 x4 x6 x7 x8 (mw (x9 + 1)) s340
    else none
  ) n
theorem L_X0_multiplyInto_r51_40_s (N n : Nat) (y0 : Nat) (y1 : Nat) (x2 : Int) (y3 : Nat) (x4 : Int) (x6 : Int) (x7 : Int) (x8 : Int) (x9 : Int) (σ : mS) : L_X0_multiplyInto_r51_40 N (n + 1) y0 y1 x2 y3 x4 x6 x7 x8 x9 σ =
  if (σ 47 y1 1) ≤ x9 then
    some σ
  else
    if (0 ≤ x2 ∧ x2 < ((gmo y1 : Nat) : Int)) ∧ (0 ≤ x9 ∧ x9 < ((gwd ((64 * y1 + x2.toNat) / 64) : Nat) : Int)) then
      Option.bind (L_X0_multiplyInto_r51_63 N N y0 y1 x2 y3 x4 x6 x7 x8 x9 (σ 51 (64 * y1 + x2.toNat) x9.toNat) 0 σ) fun s340 =>
      L_X0_multiplyInto_r51_40 N n y0 y1 x2 y3 x4 x6 x7 x8 (mw (x9 + 1)) s340
    else none := rfl
noncomputable def f_X0_multiplyInto_r51 (N : Nat) (q0 : Nat) (q1 : Nat) (a2 : Int) (q3 : Nat) (a4 : Int) (σ : mS) : Option (mS) :=
  Option.bind (f_J7_fill_53178_r51 N q0 0 σ) fun s323 =>
  Option.bind (f_X7_firstOf N (s323 47 q1 0) s323) fun ⟨v325, s324⟩ =>
  Option.bind (f_X7_firstOf N (s324 47 q3 0) s324) fun ⟨v327, s326⟩ =>
  Option.bind (f_X7_firstOf N (mw ((s326 47 q1 0) + (s326 47 q3 0))) s326) fun ⟨v329, s328⟩ =>
  Option.bind (L_X0_multiplyInto_r51_40 N N q0 q1 a2 q3 a4 v325 v327 v329 0 s328) fun s343 =>
  some s343
noncomputable def f_X0_addProduct (N : Nat) (q1 : Nat) (a2 : Int) (q3 : Nat) (a4 : Int) (σ : mS) : Option (mS) :=
  if (0 ≤ a4 ∧ a4 < ((gmo q3 : Nat) : Int)) ∧ (0 ≤ (σ 47 q1 3) ∧ (σ 47 q1 3) < ((gmo q1 : Nat) : Int)) then
    if (0 ≤ (σ 47 q1 3) ∧ (σ 47 q1 3) < ((gmo q1 : Nat) : Int)) ∧ (0 ≤ a2 ∧ a2 < 6) ∧ (0 ≤ (σ 43 0 a2.toNat) ∧ (σ 43 0 a2.toNat) < 7) then
      Option.bind (f_X0_multiplyInto_r51 N (64 * q1 + (σ 47 q1 3).toNat) ((σ 43 0 a2.toNat).toNat) (σ 44 0 a2.toNat) q3 a4 (mup (mup (mcp σ 49 (64 * q3 + a4.toNat) 0 49 (64 * q1 + (σ 47 q1 3).toNat) 0 6) 49 (64 * q1 + (σ 47 q1 3).toNat) a2.toNat (mw (((mcp σ 49 (64 * q3 + a4.toNat) 0 49 (64 * q1 + (σ 47 q1 3).toNat) 0 6) 49 (64 * q1 + (σ 47 q1 3).toNat) a2.toNat) + 1))) 52 q1 ((σ 47 q1 3).toNat) a2)) fun s349 =>
      if (0 ≤ (σ 47 q1 3) ∧ (σ 47 q1 3) < ((gmo q1 : Nat) : Int)) then
        Option.bind (f_X3_keepIfFree_r51 N q1 (64 * q1 + (σ 47 q1 3).toNat) (σ 47 q1 3) s349) fun ⟨v351, s350⟩ =>
        some (mup s350 47 q1 3 (mw ((s350 47 q1 3) + 1)))
      else none
    else none
  else none
noncomputable def L_X0_addProducts_50 (N : Nat) (n : Nat) : Nat → Int → Nat → Int → mS → Option (mS) := @Nat.rec (fun _ => Nat → Int → Nat → Int → mS → Option (mS)) (fun _ _ _ _ _ => none) (fun n ih y1 x3 y5 x6 σ =>
  if (σ 47 y5 3) ≤ x6 then
    some σ
  else
    if (0 ≤ x6 ∧ x6 < ((gmo y5 : Nat) : Int)) then
      if (σ 52 y5 x6.toNat) < x3 then
        ih y1 x3 y5 (mw (x6 + 1)) σ
      else
        Option.bind (f_X3_isFull N y1 σ) fun ⟨v319, s318⟩ =>
        if v319 = 0 then
          Option.bind (f_X0_addProduct N y1 x3 y5 x6 s318) fun s354 =>
          ih y1 x3 y5 (mw (x6 + 1)) s354
        else
          ih y1 x3 y5 (mw (x6 + 1)) s318
    else none
  ) n
theorem L_X0_addProducts_50_s (N n : Nat) (y1 : Nat) (x3 : Int) (y5 : Nat) (x6 : Int) (σ : mS) : L_X0_addProducts_50 N (n + 1) y1 x3 y5 x6 σ =
  if (σ 47 y5 3) ≤ x6 then
    some σ
  else
    if (0 ≤ x6 ∧ x6 < ((gmo y5 : Nat) : Int)) then
      if (σ 52 y5 x6.toNat) < x3 then
        L_X0_addProducts_50 N n y1 x3 y5 (mw (x6 + 1)) σ
      else
        Option.bind (f_X3_isFull N y1 σ) fun ⟨v319, s318⟩ =>
        if v319 = 0 then
          Option.bind (f_X0_addProduct N y1 x3 y5 x6 s318) fun s354 =>
          L_X0_addProducts_50 N n y1 x3 y5 (mw (x6 + 1)) s354
        else
          L_X0_addProducts_50 N n y1 x3 y5 (mw (x6 + 1)) s318
    else none := rfl
noncomputable def L_X0_addProducts_2 (N : Nat) (n : Nat) : Nat → Int → mS → Option (mS) := @Nat.rec (fun _ => Nat → Int → mS → Option (mS)) (fun _ _ _ => none) (fun n ih y1 x3 σ =>
  if (σ 42 0 0) ≤ x3 then
    some σ
  else
    if (0 ≤ x3 ∧ x3 < 6) then
      if (mw ((σ 47 y1 0) - (σ 43 0 x3.toNat))) < 0 then
        ih y1 (mw (x3 + 1)) σ
      else
        if (mw ((σ 47 y1 0) - (σ 43 0 x3.toNat))) ≤ (6 : Int) then
          if (0 ≤ (mw ((σ 47 y1 0) - (σ 43 0 x3.toNat))) ∧ (mw ((σ 47 y1 0) - (σ 43 0 x3.toNat))) < 7) then
            Option.bind (L_X0_addProducts_50 N N y1 x3 ((mw ((σ 47 y1 0) - (σ 43 0 x3.toNat))).toNat) 0 σ) fun s360 =>
            ih y1 (mw (x3 + 1)) s360
          else none
        else
          ih y1 (mw (x3 + 1)) σ
    else none
  ) n
theorem L_X0_addProducts_2_s (N n : Nat) (y1 : Nat) (x3 : Int) (σ : mS) : L_X0_addProducts_2 N (n + 1) y1 x3 σ =
  if (σ 42 0 0) ≤ x3 then
    some σ
  else
    if (0 ≤ x3 ∧ x3 < 6) then
      if (mw ((σ 47 y1 0) - (σ 43 0 x3.toNat))) < 0 then
        L_X0_addProducts_2 N n y1 (mw (x3 + 1)) σ
      else
        if (mw ((σ 47 y1 0) - (σ 43 0 x3.toNat))) ≤ (6 : Int) then
          if (0 ≤ (mw ((σ 47 y1 0) - (σ 43 0 x3.toNat))) ∧ (mw ((σ 47 y1 0) - (σ 43 0 x3.toNat))) < 7) then
            Option.bind (L_X0_addProducts_50 N N y1 x3 ((mw ((σ 47 y1 0) - (σ 43 0 x3.toNat))).toNat) 0 σ) fun s360 =>
            L_X0_addProducts_2 N n y1 (mw (x3 + 1)) s360
          else none
        else
          L_X0_addProducts_2 N n y1 (mw (x3 + 1)) σ
    else none := rfl
noncomputable def f_X0_addProducts (N : Nat) (q1 : Nat) (σ : mS) : Option (mS) :=
  Option.bind (L_X0_addProducts_2 N N q1 0 σ) fun s365 =>
  some s365
noncomputable def L_J7_fill_53178_r46_5 (N : Nat) (n : Nat) : Int → Int → Int → mS → Option (mS) := @Nat.rec (fun _ => Int → Int → Int → mS → Option (mS)) (fun _ _ _ _ => none) (fun n ih x1 x2 x3 σ =>
  if x3 ≤ x2 then
    some σ
  else
    if (0 ≤ x2 ∧ x2 < 28) then
      ih x1 (mw (x2 + 1)) x3 (mup σ 46 0 x2.toNat x1)
    else none
  ) n
theorem L_J7_fill_53178_r46_5_s (N n : Nat) (x1 : Int) (x2 : Int) (x3 : Int) (σ : mS) : L_J7_fill_53178_r46_5 N (n + 1) x1 x2 x3 σ =
  if x3 ≤ x2 then
    some σ
  else
    if (0 ≤ x2 ∧ x2 < 28) then
      L_J7_fill_53178_r46_5 N n x1 (mw (x2 + 1)) x3 (mup σ 46 0 x2.toNat x1)
    else none := rfl
noncomputable def f_J7_fill_53178_r46 (N : Nat) (a1 : Int) (σ : mS) : Option (mS) :=
  Option.bind (L_J7_fill_53178_r46_5 N N a1 0 28 σ) fun s371 =>
  some s371
noncomputable def L_X7_turnedCode_r7_5 (N : Nat) (n : Nat) : Nat → Int → Int → Int → mS → Option (Int × mS) := @Nat.rec (fun _ => Nat → Int → Int → Int → mS → Option (Int × mS)) (fun _ _ _ _ _ => none) (fun n ih y1 x2 x3 x4 σ =>
  if (3 : Int) ≤ x4 then
    some (x3, σ)
  else
    if (0 ≤ x4 ∧ x4 < 3) ∧ (0 ≤ x2 ∧ x2 < 165) then
      Option.bind (f_X11_indexOfCode N (σ 7 y1 x4.toNat) σ) fun ⟨v377, s376⟩ =>
      if (0 ≤ v377 ∧ v377 < 3) ∧ (0 ≤ x4 ∧ x4 < 3) then
        if 0 ≤ (s376 7 y1 x4.toNat) then
          ih y1 x2 x3 (mw (x4 + 1)) (mup s376 41 0 v377.toNat (σ 39 x4.toNat x2.toNat))
        else
          if (o_and (σ 39 x4.toNat x2.toNat) 1) = (1 : Int) then
            ih y1 x2 (mw (-x3)) (mw (x4 + 1)) (mup s376 41 0 v377.toNat (σ 39 x4.toNat x2.toNat))
          else
            ih y1 x2 x3 (mw (x4 + 1)) (mup s376 41 0 v377.toNat (σ 39 x4.toNat x2.toNat))
      else none
    else none
  ) n
theorem L_X7_turnedCode_r7_5_s (N n : Nat) (y1 : Nat) (x2 : Int) (x3 : Int) (x4 : Int) (σ : mS) : L_X7_turnedCode_r7_5 N (n + 1) y1 x2 x3 x4 σ =
  if (3 : Int) ≤ x4 then
    some (x3, σ)
  else
    if (0 ≤ x4 ∧ x4 < 3) ∧ (0 ≤ x2 ∧ x2 < 165) then
      Option.bind (f_X11_indexOfCode N (σ 7 y1 x4.toNat) σ) fun ⟨v377, s376⟩ =>
      if (0 ≤ v377 ∧ v377 < 3) ∧ (0 ≤ x4 ∧ x4 < 3) then
        if 0 ≤ (s376 7 y1 x4.toNat) then
          L_X7_turnedCode_r7_5 N n y1 x2 x3 (mw (x4 + 1)) (mup s376 41 0 v377.toNat (σ 39 x4.toNat x2.toNat))
        else
          if (o_and (σ 39 x4.toNat x2.toNat) 1) = (1 : Int) then
            L_X7_turnedCode_r7_5 N n y1 x2 (mw (-x3)) (mw (x4 + 1)) (mup s376 41 0 v377.toNat (σ 39 x4.toNat x2.toNat))
          else
            L_X7_turnedCode_r7_5 N n y1 x2 x3 (mw (x4 + 1)) (mup s376 41 0 v377.toNat (σ 39 x4.toNat x2.toNat))
      else none
    else none := rfl
noncomputable def f_X7_turnedCode_r7 (N : Nat) (q1 : Nat) (a2 : Int) (σ : mS) : Option (Int × mS) :=
  Option.bind (L_X7_turnedCode_r7_5 N N q1 a2 1 0 σ) fun ⟨o383, s382⟩ =>
  Option.bind (f_X7_indexOf N (s382 41 0 0) (s382 41 0 1) (s382 41 0 2) s382) fun ⟨v385, s384⟩ =>
  some ((mw (o383 * (mw (v385 + 1)))), s384)
noncomputable def f_X11_signedNumber (N : Nat) (a0 : Int) (a1 : Int) (σ : mS) : Option (Int × mS) :=
  if 0 ≤ a0 then
    some (a1, σ)
  else
    if a1 = 0 then
      some (a1, σ)
    else
      some ((mw ((32003 : Int) - a1)), σ)
noncomputable def L_X0_averagePowers_20 (N : Nat) (n : Nat) : Nat → Int → Int → Int → Int → mS → Option (mS) := @Nat.rec (fun _ => Nat → Int → Int → Int → Int → mS → Option (mS)) (fun _ _ _ _ _ _ => none) (fun n ih y1 x2 x5 x6 x7 σ =>
  if (σ 5 0 0) ≤ x7 then
    some σ
  else
    if (0 ≤ x7 ∧ x7 < 48) then
      Option.bind (f_X7_turnedCode_r7 N x7.toNat (mw (x6 + x2)) σ) fun ⟨v389, s388⟩ =>
      Option.bind (f_X11_indexOfCode N v389 s388) fun ⟨v391, s390⟩ =>
      if (mw (v391 - x6)) < 0 then
        ih y1 x2 x5 x6 (mw (x7 + 1)) s390
      else
        if (s390 47 y1 1) ≤ (mw (v391 - x6)) then
          ih y1 x2 x5 x6 (mw (x7 + 1)) s390
        else
          if (0 ≤ (mw (v391 - x6)) ∧ (mw (v391 - x6)) < 28) then
            Option.bind (f_X11_signedNumber N v389 x5 s390) fun ⟨v395, s394⟩ =>
            if (0 ≤ (mw (v391 - x6)) ∧ (mw (v391 - x6)) < 28) then
              ih y1 x2 x5 x6 (mw (x7 + 1)) (mup s394 46 0 ((mw (v391 - x6)).toNat) (o_rem (mw ((s390 46 0 ((mw (v391 - x6)).toNat)) + v395)) 32003))
            else none
          else none
    else none
  ) n
theorem L_X0_averagePowers_20_s (N n : Nat) (y1 : Nat) (x2 : Int) (x5 : Int) (x6 : Int) (x7 : Int) (σ : mS) : L_X0_averagePowers_20 N (n + 1) y1 x2 x5 x6 x7 σ =
  if (σ 5 0 0) ≤ x7 then
    some σ
  else
    if (0 ≤ x7 ∧ x7 < 48) then
      Option.bind (f_X7_turnedCode_r7 N x7.toNat (mw (x6 + x2)) σ) fun ⟨v389, s388⟩ =>
      Option.bind (f_X11_indexOfCode N v389 s388) fun ⟨v391, s390⟩ =>
      if (mw (v391 - x6)) < 0 then
        L_X0_averagePowers_20 N n y1 x2 x5 x6 (mw (x7 + 1)) s390
      else
        if (s390 47 y1 1) ≤ (mw (v391 - x6)) then
          L_X0_averagePowers_20 N n y1 x2 x5 x6 (mw (x7 + 1)) s390
        else
          if (0 ≤ (mw (v391 - x6)) ∧ (mw (v391 - x6)) < 28) then
            Option.bind (f_X11_signedNumber N v389 x5 s390) fun ⟨v395, s394⟩ =>
            if (0 ≤ (mw (v391 - x6)) ∧ (mw (v391 - x6)) < 28) then
              L_X0_averagePowers_20 N n y1 x2 x5 x6 (mw (x7 + 1)) (mup s394 46 0 ((mw (v391 - x6)).toNat) (o_rem (mw ((s390 46 0 ((mw (v391 - x6)).toNat)) + v395)) 32003))
            else none
          else none
    else none := rfl
noncomputable def f_X0_averagePowers (N : Nat) (q1 : Nat) (a2 : Int) (a5 : Int) (σ : mS) : Option (mS) :=
  Option.bind (f_J7_fill_53178_r46 N 0 σ) fun s373 =>
  Option.bind (f_X7_firstOf N (s373 47 q1 0) s373) fun ⟨v375, s374⟩ =>
  Option.bind (L_X0_averagePowers_20 N N q1 a2 a5 v375 0 s374) fun s402 =>
  some s402
noncomputable def L_X3_keepIfFree_r46_73 (N : Nat) (n : Nat) : Nat → Int → Int → Int → Int → mS → Option (mS) := @Nat.rec (fun _ => Nat → Int → Int → Int → Int → mS → Option (mS)) (fun _ _ _ _ _ _ => none) (fun n ih y0 x2 x3 x4 x5 σ =>
  if (σ 47 y0 1) ≤ x5 then
    some σ
  else
    if (0 ≤ (σ 47 y0 7) ∧ (σ 47 y0 7) < ((gwd y0 : Nat) : Int)) ∧ (0 ≤ x5 ∧ x5 < ((gwd y0 : Nat) : Int)) ∧ (0 ≤ x5 ∧ x5 < ((gwd ((64 * y0 + (σ 47 y0 7).toNat) / 64) : Nat) : Int)) then
      ih y0 x2 x3 x4 (mw (x5 + 1)) (mup (mup σ 55 (64 * y0 + (σ 47 y0 7).toNat) x5.toNat (o_rem (mw ((σ 59 y0 x5.toNat) * x4)) 32003)) 57 (64 * y0 + (σ 47 y0 7).toNat) x5.toNat (o_rem (mw ((σ 60 y0 x5.toNat) * x4)) 32003))
    else none
  ) n
theorem L_X3_keepIfFree_r46_73_s (N n : Nat) (y0 : Nat) (x2 : Int) (x3 : Int) (x4 : Int) (x5 : Int) (σ : mS) : L_X3_keepIfFree_r46_73 N (n + 1) y0 x2 x3 x4 x5 σ =
  if (σ 47 y0 1) ≤ x5 then
    some σ
  else
    if (0 ≤ (σ 47 y0 7) ∧ (σ 47 y0 7) < ((gwd y0 : Nat) : Int)) ∧ (0 ≤ x5 ∧ x5 < ((gwd y0 : Nat) : Int)) ∧ (0 ≤ x5 ∧ x5 < ((gwd ((64 * y0 + (σ 47 y0 7).toNat) / 64) : Nat) : Int)) then
      L_X3_keepIfFree_r46_73 N n y0 x2 x3 x4 (mw (x5 + 1)) (mup (mup σ 55 (64 * y0 + (σ 47 y0 7).toNat) x5.toNat (o_rem (mw ((σ 59 y0 x5.toNat) * x4)) 32003)) 57 (64 * y0 + (σ 47 y0 7).toNat) x5.toNat (o_rem (mw ((σ 60 y0 x5.toNat) * x4)) 32003))
    else none := rfl
noncomputable def f_X3_keepIfFree_r46 (N : Nat) (q0 : Nat) (a2 : Int) (σ : mS) : Option (Int × mS) :=
  if 0 ≤ (0 : Int) ∧ 0 ≤ (0 : Int) ∧ 0 ≤ (σ 47 q0 1) ∧ (0 : Int) + (σ 47 q0 1) ≤ 28 ∧ (0 : Int) + (σ 47 q0 1) ≤ ((gwd q0 : Nat) : Int) then
    Option.bind (f_J7_fill_53178_r60 N q0 0 (mcp σ 46 0 0 59 q0 0 (σ 47 q0 1))) fun s409 =>
    Option.bind (f_X3_reduceWork N q0 s409) fun s410 =>
    Option.bind (f_X3_firstOfWork N q0 s410) fun ⟨v412, s411⟩ =>
    if v412 = (-1 : Int) then
      some ((0 : Int), s411)
    else
      if (s411 47 q0 7) < (s411 47 q0 1) then
        if (0 ≤ (s411 47 q0 7) ∧ (s411 47 q0 7) < ((gwd q0 : Nat) : Int)) ∧ (0 ≤ v412 ∧ v412 < ((gwd q0 : Nat) : Int)) then
          Option.bind (f_X11_inverse N (s411 59 q0 v412.toNat) (mup s411 60 q0 ((s411 47 q0 7).toNat) 1)) fun ⟨v414, s413⟩ =>
          Option.bind (L_X3_keepIfFree_r46_73 N N q0 a2 v412 v414 0 s413) fun s416 =>
          if (0 ≤ (s416 47 q0 7) ∧ (s416 47 q0 7) < ((gwd q0 : Nat) : Int)) then
            some ((1 : Int), (mup (mup (mup s416 58 q0 ((s416 47 q0 7).toNat) v412) 53 q0 ((s416 47 q0 7).toNat) a2) 47 q0 7 (mw ((s416 47 q0 7) + 1))))
          else none
        else none
      else
        some ((0 : Int), s411)
  else none
noncomputable def L_J7_fill_53178_r49_5 (N : Nat) (n : Nat) : Nat → Int → Int → Int → mS → Option (mS) := @Nat.rec (fun _ => Nat → Int → Int → Int → mS → Option (mS)) (fun _ _ _ _ _ => none) (fun n ih y0 x1 x2 x3 σ =>
  if x3 ≤ x2 then
    some σ
  else
    if (0 ≤ x2 ∧ x2 < 6) then
      ih y0 x1 (mw (x2 + 1)) x3 (mup σ 49 y0 x2.toNat x1)
    else none
  ) n
theorem L_J7_fill_53178_r49_5_s (N n : Nat) (y0 : Nat) (x1 : Int) (x2 : Int) (x3 : Int) (σ : mS) : L_J7_fill_53178_r49_5 N (n + 1) y0 x1 x2 x3 σ =
  if x3 ≤ x2 then
    some σ
  else
    if (0 ≤ x2 ∧ x2 < 6) then
      L_J7_fill_53178_r49_5 N n y0 x1 (mw (x2 + 1)) x3 (mup σ 49 y0 x2.toNat x1)
    else none := rfl
noncomputable def f_J7_fill_53178_r49 (N : Nat) (q0 : Nat) (a1 : Int) (σ : mS) : Option (mS) :=
  Option.bind (L_J7_fill_53178_r49_5 N N q0 a1 0 6 σ) fun s427 =>
  some s427
noncomputable def f_X0_addOne (N : Nat) (q1 : Nat) (σ : mS) : Option (mS) :=
  if (0 ≤ (σ 47 q1 3) ∧ (σ 47 q1 3) < ((gmo q1 : Nat) : Int)) then
    if 0 ≤ (0 : Int) ∧ 0 ≤ (0 : Int) ∧ 0 ≤ (σ 47 q1 1) ∧ (0 : Int) + (σ 47 q1 1) ≤ 28 ∧ (0 : Int) + (σ 47 q1 1) ≤ ((gwd ((64 * q1 + (σ 47 q1 3).toNat) / 64) : Nat) : Int) then
      if (0 ≤ (σ 47 q1 3) ∧ (σ 47 q1 3) < ((gmo q1 : Nat) : Int)) then
        Option.bind (f_J7_fill_53178_r49 N (64 * q1 + (σ 47 q1 3).toNat) 0 (mcp σ 46 0 0 51 (64 * q1 + (σ 47 q1 3).toNat) 0 (σ 47 q1 1))) fun s429 =>
        if (0 ≤ (σ 47 q1 3) ∧ (σ 47 q1 3) < ((gmo q1 : Nat) : Int)) ∧ (0 ≤ (s429 42 0 0) ∧ (s429 42 0 0) < 6) then
          some (mup (mup (mup (mup (mup (mup s429 49 (64 * q1 + (σ 47 q1 3).toNat) ((s429 42 0 0).toNat) 1) 52 q1 ((σ 47 q1 3).toNat) (s429 42 0 0)) 47 q1 3 (mw ((s429 47 q1 3) + 1))) 43 0 ((s429 42 0 0).toNat) ((mup (mup (mup s429 49 (64 * q1 + (σ 47 q1 3).toNat) ((s429 42 0 0).toNat) 1) 52 q1 ((σ 47 q1 3).toNat) (s429 42 0 0)) 47 q1 3 (mw ((s429 47 q1 3) + 1))) 47 q1 0)) 44 0 ((s429 42 0 0).toNat) (σ 47 q1 3)) 42 0 0 (mw ((s429 42 0 0) + 1)))
        else none
      else none
    else none
  else none
noncomputable def L_X0_addFew_12 (N : Nat) (n : Nat) : Nat → Int → Int → mS → Option (mS) := @Nat.rec (fun _ => Nat → Int → Int → mS → Option (mS)) (fun _ _ _ _ => none) (fun n ih y1 x4 x5 σ =>
  if (σ 47 y1 1) ≤ x5 then
    some σ
  else
    Option.bind (f_X0_averagePowers N y1 x5 x4 σ) fun s406 =>
    Option.bind (f_X3_isFull N y1 s406) fun ⟨v408, s407⟩ =>
    if v408 = 0 then
      if (6 : Int) ≤ (s407 42 0 0) then
        ih y1 x4 (mw (x5 + 1)) s407
      else
        Option.bind (f_X3_keepIfFree_r46 N y1 (s407 47 y1 3) s407) fun ⟨v425, s424⟩ =>
        if v425 = 0 then
          ih y1 x4 (mw (x5 + 1)) s424
        else
          Option.bind (f_X0_addOne N y1 s424) fun s431 =>
          ih y1 x4 (mw (x5 + 1)) s431
    else
      ih y1 x4 (mw (x5 + 1)) s407
  ) n
theorem L_X0_addFew_12_s (N n : Nat) (y1 : Nat) (x4 : Int) (x5 : Int) (σ : mS) : L_X0_addFew_12 N (n + 1) y1 x4 x5 σ =
  if (σ 47 y1 1) ≤ x5 then
    some σ
  else
    Option.bind (f_X0_averagePowers N y1 x5 x4 σ) fun s406 =>
    Option.bind (f_X3_isFull N y1 s406) fun ⟨v408, s407⟩ =>
    if v408 = 0 then
      if (6 : Int) ≤ (s407 42 0 0) then
        L_X0_addFew_12 N n y1 x4 (mw (x5 + 1)) s407
      else
        Option.bind (f_X3_keepIfFree_r46 N y1 (s407 47 y1 3) s407) fun ⟨v425, s424⟩ =>
        if v425 = 0 then
          L_X0_addFew_12 N n y1 x4 (mw (x5 + 1)) s424
        else
          Option.bind (f_X0_addOne N y1 s424) fun s431 =>
          L_X0_addFew_12 N n y1 x4 (mw (x5 + 1)) s431
    else
      L_X0_addFew_12 N n y1 x4 (mw (x5 + 1)) s407 := rfl
noncomputable def f_X0_addFew (N : Nat) (q1 : Nat) (σ : mS) : Option (mS) :=
  Option.bind (f_X11_inverse N (σ 5 0 0) σ) fun ⟨v369, s368⟩ =>
  Option.bind (L_X0_addFew_12 N N q1 v369 0 s368) fun s440 =>
  some s440
noncomputable def L_X0_find_19 (N : Nat) (n : Nat) : Int → mS → Option (mS) := @Nat.rec (fun _ => Int → mS → Option (mS)) (fun _ _ => none) (fun n ih x3 σ =>
  if (6 : Int) < x3 then
    some σ
  else
    if (0 ≤ x3 ∧ x3 < 7) then
      Option.bind (f_X3_empty N x3.toNat σ) fun s316 =>
      if (0 ≤ x3 ∧ x3 < 7) then
        Option.bind (f_X0_addProducts N x3.toNat s316) fun s367 =>
        if (0 ≤ x3 ∧ x3 < 7) then
          Option.bind (f_X0_addFew N x3.toNat s367) fun s443 =>
          ih (mw (x3 + 1)) s443
        else none
      else none
    else none
  ) n
theorem L_X0_find_19_s (N n : Nat) (x3 : Int) (σ : mS) : L_X0_find_19 N (n + 1) x3 σ =
  if (6 : Int) < x3 then
    some σ
  else
    if (0 ≤ x3 ∧ x3 < 7) then
      Option.bind (f_X3_empty N x3.toNat σ) fun s316 =>
      if (0 ≤ x3 ∧ x3 < 7) then
        Option.bind (f_X0_addProducts N x3.toNat s316) fun s367 =>
        if (0 ≤ x3 ∧ x3 < 7) then
          Option.bind (f_X0_addFew N x3.toNat s367) fun s443 =>
          L_X0_find_19 N n (mw (x3 + 1)) s443
        else none
      else none
    else none := rfl
noncomputable def f_X0_find (N : Nat) (σ : mS) : Option (mS) :=
  if (σ 42 0 1) = 0 then
    Option.bind (f_X0_addProductOfNothing N (mup σ 42 0 0 0)) fun s315 =>
    Option.bind (L_X0_find_19 N N 1 s315) fun s448 =>
    some (mup s448 42 0 1 1)
  else
    some σ
noncomputable def L_X0_degreesTogether_4 (N : Nat) (n : Nat) : Int → Int → mS → Option (Int × mS) := @Nat.rec (fun _ => Int → Int → mS → Option (Int × mS)) (fun _ _ _ => none) (fun n ih x1 x2 σ =>
  if (σ 42 0 0) ≤ x2 then
    some (x1, σ)
  else
    if (0 ≤ x2 ∧ x2 < 6) then
      ih (mw (x1 * (σ 43 0 x2.toNat))) (mw (x2 + 1)) σ
    else none
  ) n
theorem L_X0_degreesTogether_4_s (N n : Nat) (x1 : Int) (x2 : Int) (σ : mS) : L_X0_degreesTogether_4 N (n + 1) x1 x2 σ =
  if (σ 42 0 0) ≤ x2 then
    some (x1, σ)
  else
    if (0 ≤ x2 ∧ x2 < 6) then
      L_X0_degreesTogether_4 N n (mw (x1 * (σ 43 0 x2.toNat))) (mw (x2 + 1)) σ
    else none := rfl
noncomputable def f_X0_degreesTogether (N : Nat) (σ : mS) : Option (Int × mS) :=
  Option.bind (L_X0_degreesTogether_4 N N 1 0 σ) fun ⟨o457, s456⟩ =>
  some (o457, s456)
noncomputable def f_X11_about (N : Nat) (a1 : Int) (σ : mS) : Option (Int × mS) :=
  if a1 = 0 then
    some ((σ 5 0 0), σ)
  else
  if a1 = 1 then
    Option.bind (f_X1_kind N σ) fun ⟨v226, s225⟩ =>
    some (v226, s225)
  else
  if a1 = 2 then
    some ((σ 5 0 2), σ)
  else
  if a1 = 3 then
    some ((σ 26 0 0), σ)
  else
  if a1 = 4 then
    some ((σ 5 0 3), σ)
  else
  if a1 = 5 then
    Option.bind (f_X1_isMadeOfMirrors N σ) fun ⟨v254, s253⟩ =>
    if v254 = 0 then
      some ((0 : Int), s253)
    else
      some ((1 : Int), s253)
  else
  if a1 = 6 then
    Option.bind (f_X0_find N σ) fun s452 =>
    some ((s452 42 0 0), s452)
  else
  if a1 = 7 then
    Option.bind (f_X0_find N σ) fun s454 =>
    Option.bind (f_X0_degreesTogether N s454) fun ⟨v460, s459⟩ =>
    some (v460, s459)
  else
  some ((-1 : Int), σ)
noncomputable def f_X1_has (N : Nat) (a1 : Int) (σ : mS) : Option (Int × mS) :=
  if a1 < 0 then
    some ((0 : Int), σ)
  else
    if (σ 5 0 0) ≤ a1 then
      some ((0 : Int), σ)
    else
      some ((1 : Int), σ)
noncomputable def f_X11_element (N : Nat) (a1 : Int) (a2 : Int) (σ : mS) : Option (Int × mS) :=
  Option.bind (f_X1_has N a1 σ) fun ⟨v467, s466⟩ =>
  if v467 = 0 then
    some ((0 : Int), s466)
  else
    if a2 < 0 then
      some ((0 : Int), s466)
    else
      if (3 : Int) ≤ a2 then
        some ((0 : Int), s466)
      else
        if (0 ≤ a1 ∧ a1 < 48) ∧ (0 ≤ a2 ∧ a2 < 3) then
          some ((s466 7 a1.toNat a2.toNat), s466)
        else none
noncomputable def f_X11_times (N : Nat) (a1 : Int) (a2 : Int) (σ : mS) : Option (Int × mS) :=
  Option.bind (f_X1_has N a1 σ) fun ⟨v473, s472⟩ =>
  if v473 = 0 then
    some ((-1 : Int), s472)
  else
    Option.bind (f_X1_has N a2 s472) fun ⟨v475, s474⟩ =>
    if v475 = 0 then
      some ((-1 : Int), s474)
    else
      if (0 ≤ a1 ∧ a1 < 48) ∧ (0 ≤ a2 ∧ a2 < 48) then
        some ((s474 16 a1.toNat a2.toNat), s474)
      else none
noncomputable def f_X11_of (N : Nat) (a1 : Int) (a2 : Int) (σ : mS) : Option (Int × mS) :=
  Option.bind (f_X1_has N a1 σ) fun ⟨v481, s480⟩ =>
  if v481 = 0 then
    some ((-1 : Int), s480)
  else
    if a2 = 0 then
      if (0 ≤ a1 ∧ a1 < 48) then
        some ((s480 17 0 a1.toNat), s480)
      else none
    else
    if a2 = 1 then
      if (0 ≤ a1 ∧ a1 < 48) then
        some ((s480 18 0 a1.toNat), s480)
      else none
    else
    if a2 = 2 then
      if (0 ≤ a1 ∧ a1 < 48) then
        some ((s480 19 0 a1.toNat), s480)
      else none
    else
    if a2 = 3 then
      if (0 ≤ a1 ∧ a1 < 48) then
        if (s480 22 0 a1.toNat) = 0 then
          some ((0 : Int), s480)
        else
          some ((1 : Int), s480)
      else none
    else
    some ((-1 : Int), s480)
noncomputable def f_X9_has (N : Nat) (a1 : Int) (σ : mS) : Option (Int × mS) :=
  if a1 < 0 then
    some ((0 : Int), σ)
  else
    if (σ 26 0 0) ≤ a1 then
      some ((0 : Int), σ)
    else
      some ((1 : Int), σ)
noncomputable def f_X11_sign (N : Nat) (a1 : Int) (a2 : Int) (σ : mS) : Option (Int × mS) :=
  Option.bind (f_X9_has N a1 σ) fun ⟨v489, s488⟩ =>
  if v489 = 0 then
    some ((0 : Int), s488)
  else
    Option.bind (f_X1_has N a2 s488) fun ⟨v491, s490⟩ =>
    if v491 = 0 then
      some ((0 : Int), s490)
    else
      if (0 ≤ a1 ∧ a1 < 16) ∧ (0 ≤ a2 ∧ a2 < 48) then
        some ((s490 28 a1.toNat a2.toNat), s490)
      else none
noncomputable def f_X6_has (N : Nat) (a1 : Int) (σ : mS) : Option (Int × mS) :=
  if a1 < 0 then
    some ((0 : Int), σ)
  else
    if (8 : Int) ≤ a1 then
      some ((0 : Int), σ)
    else
      some ((1 : Int), σ)
noncomputable def f_X7_are (N : Nat) (a0 : Int) (a1 : Int) (a2 : Int) (σ : mS) : Option (Int × mS) :=
  if a0 < 0 then
    some ((0 : Int), σ)
  else
    if (8 : Int) < a0 then
      some ((0 : Int), σ)
    else
      if a1 < 0 then
        some ((0 : Int), σ)
      else
        if (8 : Int) < a1 then
          some ((0 : Int), σ)
        else
          if a2 < 0 then
            some ((0 : Int), σ)
          else
            if a2 ≤ (8 : Int) then
              if (8 : Int) < (mw ((mw (a0 + a1)) + a2)) then
                some ((0 : Int), σ)
              else
                some ((1 : Int), σ)
            else
              some ((0 : Int), σ)
noncomputable def f_X11_put (N : Nat) (a1 : Int) (a2 : Int) (a3 : Int) (a4 : Int) (a5 : Int) (σ : mS) : Option (Int × mS) :=
  Option.bind (f_X6_has N a1 σ) fun ⟨v499, s498⟩ =>
  if v499 = 0 then
    some ((0 : Int), s498)
  else
    Option.bind (f_X7_are N a2 a3 a4 s498) fun ⟨v508, s507⟩ =>
    if v508 = 0 then
      some ((0 : Int), s507)
    else
      if (0 ≤ a1 ∧ a1 < 8) then
        Option.bind (f_X7_indexOf N a2 a3 a4 s507) fun ⟨v510, s509⟩ =>
        Option.bind (f_X11_leftOver N a5 s509) fun ⟨v512, s511⟩ =>
        if (0 ≤ v510 ∧ v510 < 165) then
          some ((1 : Int), (mup s511 33 a1.toNat v510.toNat v512))
        else none
      else none
noncomputable def f_X11_number (N : Nat) (a1 : Int) (a2 : Int) (a3 : Int) (a4 : Int) (σ : mS) : Option (Int × mS) :=
  Option.bind (f_X6_has N a1 σ) fun ⟨v520, s519⟩ =>
  if v520 = 0 then
    some ((0 : Int), s519)
  else
    Option.bind (f_X7_are N a2 a3 a4 s519) fun ⟨v522, s521⟩ =>
    if v522 = 0 then
      some ((0 : Int), s521)
    else
      if (0 ≤ a1 ∧ a1 < 8) then
        Option.bind (f_X7_indexOf N a2 a3 a4 s521) fun ⟨v524, s523⟩ =>
        if (0 ≤ v524 ∧ v524 < 165) then
          some ((s523 33 a1.toNat v524.toNat), s523)
        else none
      else none
noncomputable def L_X6_degreeOf_4 (N : Nat) (n : Nat) : Int → Int → mS → Option ((Int × mS) ⊕ (mS)) := @Nat.rec (fun _ => Int → Int → mS → Option ((Int × mS) ⊕ (mS))) (fun _ _ _ => none) (fun n ih x1 x2 σ =>
  if x2 < 0 then
    some (.inr σ)
  else
    if (0 ≤ x1 ∧ x1 < 8) ∧ (0 ≤ x2 ∧ x2 < 165) then
      if (σ 33 x1.toNat x2.toNat) = 0 then
        ih x1 (mw (x2 + (-1))) σ
      else
        if (0 ≤ x2 ∧ x2 < 165) then
          some (.inl ((σ 40 0 x2.toNat), σ))
        else none
    else none
  ) n
theorem L_X6_degreeOf_4_s (N n : Nat) (x1 : Int) (x2 : Int) (σ : mS) : L_X6_degreeOf_4 N (n + 1) x1 x2 σ =
  if x2 < 0 then
    some (.inr σ)
  else
    if (0 ≤ x1 ∧ x1 < 8) ∧ (0 ≤ x2 ∧ x2 < 165) then
      if (σ 33 x1.toNat x2.toNat) = 0 then
        L_X6_degreeOf_4 N n x1 (mw (x2 + (-1))) σ
      else
        if (0 ≤ x2 ∧ x2 < 165) then
          some (.inl ((σ 40 0 x2.toNat), σ))
        else none
    else none := rfl
noncomputable def f_X6_degreeOf (N : Nat) (a1 : Int) (σ : mS) : Option (Int × mS) :=
  Option.bind (L_X6_degreeOf_4 N N a1 164 σ) fun o => match o with
    | .inl (v536, s537) => some (v536, s537)
    | .inr s534 =>
      some ((-1 : Int), s534)
noncomputable def f_X11_degree (N : Nat) (a1 : Int) (σ : mS) : Option (Int × mS) :=
  Option.bind (f_X6_has N a1 σ) fun ⟨v531, s530⟩ =>
  if v531 = 0 then
    some ((-1 : Int), s530)
  else
    Option.bind (f_X6_degreeOf N a1 s530) fun ⟨v539, s538⟩ =>
    some (v539, s538)
noncomputable def L_X6_combine_3 (N : Nat) (n : Nat) : Int → Int → Int → Int → Int → Int → mS → Option (mS) := @Nat.rec (fun _ => Int → Int → Int → Int → Int → Int → mS → Option (mS)) (fun _ _ _ _ _ _ _ => none) (fun n ih x1 x2 x3 x4 x5 x6 σ =>
  if (165 : Int) ≤ x6 then
    some σ
  else
    if (0 ≤ x1 ∧ x1 < 8) ∧ (0 ≤ x2 ∧ x2 < 8) ∧ (0 ≤ x6 ∧ x6 < 165) ∧ (0 ≤ x4 ∧ x4 < 8) then
      ih x1 x2 x3 x4 x5 (mw (x6 + 1)) (mup σ 33 x1.toNat x6.toNat (o_rem (mw ((o_rem (mw ((σ 33 x2.toNat x6.toNat) * x3)) 32003) + (o_rem (mw ((σ 33 x4.toNat x6.toNat) * x5)) 32003))) 32003))
    else none
  ) n
theorem L_X6_combine_3_s (N n : Nat) (x1 : Int) (x2 : Int) (x3 : Int) (x4 : Int) (x5 : Int) (x6 : Int) (σ : mS) : L_X6_combine_3 N (n + 1) x1 x2 x3 x4 x5 x6 σ =
  if (165 : Int) ≤ x6 then
    some σ
  else
    if (0 ≤ x1 ∧ x1 < 8) ∧ (0 ≤ x2 ∧ x2 < 8) ∧ (0 ≤ x6 ∧ x6 < 165) ∧ (0 ≤ x4 ∧ x4 < 8) then
      L_X6_combine_3 N n x1 x2 x3 x4 x5 (mw (x6 + 1)) (mup σ 33 x1.toNat x6.toNat (o_rem (mw ((o_rem (mw ((σ 33 x2.toNat x6.toNat) * x3)) 32003) + (o_rem (mw ((σ 33 x4.toNat x6.toNat) * x5)) 32003))) 32003))
    else none := rfl
noncomputable def f_X6_combine (N : Nat) (a1 : Int) (a2 : Int) (a3 : Int) (a4 : Int) (a5 : Int) (σ : mS) : Option (mS) :=
  Option.bind (L_X6_combine_3 N N a1 a2 a3 a4 a5 0 σ) fun s554 =>
  some s554
noncomputable def f_X11_sum (N : Nat) (a1 : Int) (a2 : Int) (a3 : Int) (a4 : Int) (a5 : Int) (σ : mS) : Option (Int × mS) :=
  Option.bind (f_X6_has N a1 σ) fun ⟨v544, s543⟩ =>
  if v544 = 0 then
    some ((-2 : Int), s543)
  else
    Option.bind (f_X6_has N a2 s543) fun ⟨v546, s545⟩ =>
    if v546 = 0 then
      some ((-2 : Int), s545)
    else
      Option.bind (f_X6_has N a4 s545) fun ⟨v548, s547⟩ =>
      if v548 = 0 then
        some ((-2 : Int), s547)
      else
        Option.bind (f_X11_leftOver N a3 s547) fun ⟨v550, s549⟩ =>
        Option.bind (f_X11_leftOver N a5 s549) fun ⟨v552, s551⟩ =>
        Option.bind (f_X6_combine N a1 a2 v550 a4 v552 s551) fun s556 =>
        Option.bind (f_X6_degreeOf N a1 s556) fun ⟨v558, s557⟩ =>
        some (v558, s557)
noncomputable def L_J7_fill_53178_r34_5 (N : Nat) (n : Nat) : Int → Int → Int → mS → Option (mS) := @Nat.rec (fun _ => Int → Int → Int → mS → Option (mS)) (fun _ _ _ _ => none) (fun n ih x1 x2 x3 σ =>
  if x3 ≤ x2 then
    some σ
  else
    if (0 ≤ x2 ∧ x2 < 165) then
      ih x1 (mw (x2 + 1)) x3 (mup σ 34 0 x2.toNat x1)
    else none
  ) n
theorem L_J7_fill_53178_r34_5_s (N n : Nat) (x1 : Int) (x2 : Int) (x3 : Int) (σ : mS) : L_J7_fill_53178_r34_5 N (n + 1) x1 x2 x3 σ =
  if x3 ≤ x2 then
    some σ
  else
    if (0 ≤ x2 ∧ x2 < 165) then
      L_J7_fill_53178_r34_5 N n x1 (mw (x2 + 1)) x3 (mup σ 34 0 x2.toNat x1)
    else none := rfl
noncomputable def f_J7_fill_53178_r34 (N : Nat) (a1 : Int) (σ : mS) : Option (mS) :=
  Option.bind (L_J7_fill_53178_r34_5 N N a1 0 165 σ) fun s580 =>
  some s580
noncomputable def f_X6_addAside (N : Nat) (a1 : Int) (a2 : Int) (σ : mS) : Option (mS) :=
  if a1 < 0 then
    some σ
  else
    if (165 : Int) ≤ a1 then
      some σ
    else
      if (0 ≤ a1 ∧ a1 < 165) then
        some (mup σ 34 0 a1.toNat (o_rem (mw ((σ 34 0 a1.toNat) + a2)) 32003))
      else none
noncomputable def f_X6_keepAside (N : Nat) (a1 : Int) (σ : mS) : Option (mS) :=
  if (0 ≤ a1 ∧ a1 < 8) then
    some (mcp σ 34 0 0 33 a1.toNat 0 165)
  else none
noncomputable def L_X6_multiply_45 (N : Nat) (n : Nat) : Int → Int → Int → Int → Int → Int → Int → mS → Option (mS) := @Nat.rec (fun _ => Int → Int → Int → Int → Int → Int → Int → mS → Option (mS)) (fun _ _ _ _ _ _ _ _ => none) (fun n ih x1 x2 x3 x4 x5 x6 x7 σ =>
  if x6 = 0 then
    some σ
  else
    if x4 ≤ x7 then
      some σ
    else
      if (0 ≤ x3 ∧ x3 < 8) ∧ (0 ≤ x7 ∧ x7 < 165) then
        if (σ 33 x3.toNat x7.toNat) = 0 then
          ih x1 x2 x3 x4 x5 x6 (mw (x7 + 1)) σ
        else
          Option.bind (f_X7_indexOfProduct N x5 x7 σ) fun ⟨v588, s587⟩ =>
          if (0 ≤ x3 ∧ x3 < 8) ∧ (0 ≤ x7 ∧ x7 < 165) then
            Option.bind (f_X6_addAside N v588 (o_rem (mw (x6 * (s587 33 x3.toNat x7.toNat))) 32003) s587) fun s591 =>
            ih x1 x2 x3 x4 x5 x6 (mw (x7 + 1)) s591
          else none
      else none
  ) n
theorem L_X6_multiply_45_s (N n : Nat) (x1 : Int) (x2 : Int) (x3 : Int) (x4 : Int) (x5 : Int) (x6 : Int) (x7 : Int) (σ : mS) : L_X6_multiply_45 N (n + 1) x1 x2 x3 x4 x5 x6 x7 σ =
  if x6 = 0 then
    some σ
  else
    if x4 ≤ x7 then
      some σ
    else
      if (0 ≤ x3 ∧ x3 < 8) ∧ (0 ≤ x7 ∧ x7 < 165) then
        if (σ 33 x3.toNat x7.toNat) = 0 then
          L_X6_multiply_45 N n x1 x2 x3 x4 x5 x6 (mw (x7 + 1)) σ
        else
          Option.bind (f_X7_indexOfProduct N x5 x7 σ) fun ⟨v588, s587⟩ =>
          if (0 ≤ x3 ∧ x3 < 8) ∧ (0 ≤ x7 ∧ x7 < 165) then
            Option.bind (f_X6_addAside N v588 (o_rem (mw (x6 * (s587 33 x3.toNat x7.toNat))) 32003) s587) fun s591 =>
            L_X6_multiply_45 N n x1 x2 x3 x4 x5 x6 (mw (x7 + 1)) s591
          else none
      else none := rfl
noncomputable def L_X6_multiply_23 (N : Nat) (n : Nat) : Int → Int → Int → Int → Int → mS → Option (mS) := @Nat.rec (fun _ => Int → Int → Int → Int → Int → mS → Option (mS)) (fun _ _ _ _ _ _ => none) (fun n ih x1 x2 x3 x4 x5 σ =>
  if (165 : Int) ≤ x5 then
    some σ
  else
    if (0 ≤ x2 ∧ x2 < 8) ∧ (0 ≤ x5 ∧ x5 < 165) then
      Option.bind (L_X6_multiply_45 N N x1 x2 x3 x4 x5 (σ 33 x2.toNat x5.toNat) 0 σ) fun s597 =>
      ih x1 x2 x3 x4 (mw (x5 + 1)) s597
    else none
  ) n
theorem L_X6_multiply_23_s (N n : Nat) (x1 : Int) (x2 : Int) (x3 : Int) (x4 : Int) (x5 : Int) (σ : mS) : L_X6_multiply_23 N (n + 1) x1 x2 x3 x4 x5 σ =
  if (165 : Int) ≤ x5 then
    some σ
  else
    if (0 ≤ x2 ∧ x2 < 8) ∧ (0 ≤ x5 ∧ x5 < 165) then
      Option.bind (L_X6_multiply_45 N N x1 x2 x3 x4 x5 (σ 33 x2.toNat x5.toNat) 0 σ) fun s597 =>
      L_X6_multiply_23 N n x1 x2 x3 x4 (mw (x5 + 1)) s597
    else none := rfl
noncomputable def f_X6_multiply (N : Nat) (a1 : Int) (a2 : Int) (a3 : Int) (σ : mS) : Option (mS) :=
  Option.bind (f_J7_fill_53178_r34 N 0 σ) fun s582 =>
  Option.bind (f_X6_degreeOf N a3 s582) fun ⟨v584, s583⟩ =>
  Option.bind (f_X7_firstOf N (mw (v584 + 1)) s583) fun ⟨v586, s585⟩ =>
  Option.bind (L_X6_multiply_23 N N a1 a2 a3 v586 0 s585) fun s600 =>
  Option.bind (f_X6_keepAside N a1 s600) fun s601 =>
  some s601
noncomputable def f_X11_product (N : Nat) (a1 : Int) (a2 : Int) (a3 : Int) (σ : mS) : Option (Int × mS) :=
  Option.bind (f_X6_has N a1 σ) fun ⟨v570, s569⟩ =>
  if v570 = 0 then
    some ((-2 : Int), s569)
  else
    Option.bind (f_X6_has N a2 s569) fun ⟨v572, s571⟩ =>
    if v572 = 0 then
      some ((-2 : Int), s571)
    else
      Option.bind (f_X6_has N a3 s571) fun ⟨v574, s573⟩ =>
      if v574 = 0 then
        some ((-2 : Int), s573)
      else
        Option.bind (f_X6_degreeOf N a2 s573) fun ⟨v576, s575⟩ =>
        Option.bind (f_X6_degreeOf N a3 s575) fun ⟨v578, s577⟩ =>
        if (mw (v576 + v578)) ≤ (8 : Int) then
          Option.bind (f_X6_multiply N a1 a2 a3 s577) fun s607 =>
          Option.bind (f_X6_degreeOf N a1 s607) fun ⟨v609, s608⟩ =>
          some (v609, s608)
        else
          some ((-2 : Int), s577)
noncomputable def L_X6_addTurned_r33_r7_3 (N : Nat) (n : Nat) : Nat → Nat → Int → Int → mS → Option (mS) := @Nat.rec (fun _ => Nat → Nat → Int → Int → mS → Option (mS)) (fun _ _ _ _ _ => none) (fun n ih y1 y2 x3 x4 σ =>
  if (165 : Int) ≤ x4 then
    some σ
  else
    if (0 ≤ x4 ∧ x4 < 165) then
      if (σ 33 y1 x4.toNat) = 0 then
        ih y1 y2 x3 (mw (x4 + 1)) σ
      else
        Option.bind (f_X7_turnedCode_r7 N y2 x4 σ) fun ⟨v629, s628⟩ =>
        Option.bind (f_X11_indexOfCode N v629 s628) fun ⟨v631, s630⟩ =>
        if (0 ≤ x4 ∧ x4 < 165) then
          Option.bind (f_X11_signedNumber N (mw (v629 * x3)) (s630 33 y1 x4.toNat) s630) fun ⟨v633, s632⟩ =>
          Option.bind (f_X6_addAside N v631 v633 s632) fun s634 =>
          ih y1 y2 x3 (mw (x4 + 1)) s634
        else none
    else none
  ) n
theorem L_X6_addTurned_r33_r7_3_s (N n : Nat) (y1 : Nat) (y2 : Nat) (x3 : Int) (x4 : Int) (σ : mS) : L_X6_addTurned_r33_r7_3 N (n + 1) y1 y2 x3 x4 σ =
  if (165 : Int) ≤ x4 then
    some σ
  else
    if (0 ≤ x4 ∧ x4 < 165) then
      if (σ 33 y1 x4.toNat) = 0 then
        L_X6_addTurned_r33_r7_3 N n y1 y2 x3 (mw (x4 + 1)) σ
      else
        Option.bind (f_X7_turnedCode_r7 N y2 x4 σ) fun ⟨v629, s628⟩ =>
        Option.bind (f_X11_indexOfCode N v629 s628) fun ⟨v631, s630⟩ =>
        if (0 ≤ x4 ∧ x4 < 165) then
          Option.bind (f_X11_signedNumber N (mw (v629 * x3)) (s630 33 y1 x4.toNat) s630) fun ⟨v633, s632⟩ =>
          Option.bind (f_X6_addAside N v631 v633 s632) fun s634 =>
          L_X6_addTurned_r33_r7_3 N n y1 y2 x3 (mw (x4 + 1)) s634
        else none
    else none := rfl
noncomputable def f_X6_addTurned_r33_r7 (N : Nat) (q1 : Nat) (q2 : Nat) (a3 : Int) (σ : mS) : Option (mS) :=
  Option.bind (L_X6_addTurned_r33_r7_3 N N q1 q2 a3 0 σ) fun s641 =>
  some s641
noncomputable def f_X6_turnInto_r7 (N : Nat) (a1 : Int) (a2 : Int) (q3 : Nat) (σ : mS) : Option (mS) :=
  Option.bind (f_J7_fill_53178_r34 N 0 σ) fun s627 =>
  if (0 ≤ a2 ∧ a2 < 8) then
    Option.bind (f_X6_addTurned_r33_r7 N a2.toNat q3 1 s627) fun s643 =>
    Option.bind (f_X6_keepAside N a1 s643) fun s644 =>
    some s644
  else none
noncomputable def f_X11_turned (N : Nat) (a1 : Int) (a2 : Int) (a3 : Int) (σ : mS) : Option (Int × mS) :=
  Option.bind (f_X6_has N a1 σ) fun ⟨v622, s621⟩ =>
  if v622 = 0 then
    some ((-2 : Int), s621)
  else
    Option.bind (f_X6_has N a2 s621) fun ⟨v624, s623⟩ =>
    if v624 = 0 then
      some ((-2 : Int), s623)
    else
      Option.bind (f_X1_has N a3 s623) fun ⟨v626, s625⟩ =>
      if v626 = 0 then
        some ((-2 : Int), s625)
      else
        if (0 ≤ a3 ∧ a3 < 48) then
          Option.bind (f_X6_turnInto_r7 N a1 a2 a3.toNat s625) fun s648 =>
          Option.bind (f_X6_degreeOf N a1 s648) fun ⟨v650, s649⟩ =>
          some (v650, s649)
        else none
noncomputable def L_X6_averageInto_r28_11 (N : Nat) (n : Nat) : Int → Int → Nat → Int → mS → Option (mS) := @Nat.rec (fun _ => Int → Int → Nat → Int → mS → Option (mS)) (fun _ _ _ _ _ => none) (fun n ih x1 x2 y4 x5 σ =>
  if (σ 5 0 0) ≤ x5 then
    some σ
  else
    if (0 ≤ x2 ∧ x2 < 8) ∧ (0 ≤ x5 ∧ x5 < 48) then
      Option.bind (f_X6_addTurned_r33_r7 N x2.toNat x5.toNat (σ 28 y4 x5.toNat) σ) fun s666 =>
      ih x1 x2 y4 (mw (x5 + 1)) s666
    else none
  ) n
theorem L_X6_averageInto_r28_11_s (N n : Nat) (x1 : Int) (x2 : Int) (y4 : Nat) (x5 : Int) (σ : mS) : L_X6_averageInto_r28_11 N (n + 1) x1 x2 y4 x5 σ =
  if (σ 5 0 0) ≤ x5 then
    some σ
  else
    if (0 ≤ x2 ∧ x2 < 8) ∧ (0 ≤ x5 ∧ x5 < 48) then
      Option.bind (f_X6_addTurned_r33_r7 N x2.toNat x5.toNat (σ 28 y4 x5.toNat) σ) fun s666 =>
      L_X6_averageInto_r28_11 N n x1 x2 y4 (mw (x5 + 1)) s666
    else none := rfl
noncomputable def L_X6_averageInto_r28_60 (N : Nat) (n : Nat) : Int → Int → Int → mS → Option (mS) := @Nat.rec (fun _ => Int → Int → Int → mS → Option (mS)) (fun _ _ _ _ => none) (fun n ih x1 x5 x6 σ =>
  if (165 : Int) ≤ x6 then
    some σ
  else
    if (0 ≤ x6 ∧ x6 < 165) then
      ih x1 x5 (mw (x6 + 1)) (mup σ 34 0 x6.toNat (o_rem (mw ((σ 34 0 x6.toNat) * x5)) 32003))
    else none
  ) n
theorem L_X6_averageInto_r28_60_s (N n : Nat) (x1 : Int) (x5 : Int) (x6 : Int) (σ : mS) : L_X6_averageInto_r28_60 N (n + 1) x1 x5 x6 σ =
  if (165 : Int) ≤ x6 then
    some σ
  else
    if (0 ≤ x6 ∧ x6 < 165) then
      L_X6_averageInto_r28_60 N n x1 x5 (mw (x6 + 1)) (mup σ 34 0 x6.toNat (o_rem (mw ((σ 34 0 x6.toNat) * x5)) 32003))
    else none := rfl
noncomputable def f_X6_averageInto_r28 (N : Nat) (a1 : Int) (a2 : Int) (q4 : Nat) (σ : mS) : Option (mS) :=
  Option.bind (f_J7_fill_53178_r34 N 0 σ) fun s665 =>
  Option.bind (L_X6_averageInto_r28_11 N N a1 a2 q4 0 s665) fun s669 =>
  Option.bind (f_X11_inverse N (s669 5 0 0) s669) fun ⟨v671, s670⟩ =>
  Option.bind (L_X6_averageInto_r28_60 N N a1 v671 0 s670) fun s673 =>
  Option.bind (f_X6_keepAside N a1 s673) fun s674 =>
  some s674
noncomputable def f_X11_mean (N : Nat) (a1 : Int) (a2 : Int) (a3 : Int) (σ : mS) : Option (Int × mS) :=
  Option.bind (f_X6_has N a1 σ) fun ⟨v660, s659⟩ =>
  if v660 = 0 then
    some ((-2 : Int), s659)
  else
    Option.bind (f_X6_has N a2 s659) fun ⟨v662, s661⟩ =>
    if v662 = 0 then
      some ((-2 : Int), s661)
    else
      Option.bind (f_X9_has N a3 s661) fun ⟨v664, s663⟩ =>
      if v664 = 0 then
        some ((-2 : Int), s663)
      else
        if (0 ≤ a3 ∧ a3 < 16) then
          Option.bind (f_X6_averageInto_r28 N a1 a2 a3.toNat s663) fun s680 =>
          Option.bind (f_X6_degreeOf N a1 s680) fun ⟨v682, s681⟩ =>
          some (v682, s681)
        else none
noncomputable def L_X6_isLeft_r28_22 (N : Nat) (n : Nat) : Nat → Nat → Int → Int → mS → Option ((Int × mS) ⊕ (mS)) := @Nat.rec (fun _ => Nat → Nat → Int → Int → mS → Option ((Int × mS) ⊕ (mS))) (fun _ _ _ _ _ => none) (fun n ih y3 y4 x5 x6 σ =>
  if (0 ≤ x5 ∧ x5 < 165) then
    if (σ 33 y4 x5.toNat) = 0 then
      some (.inr σ)
    else
      if (σ 5 0 0) ≤ x6 then
        some (.inr σ)
      else
        if (0 ≤ x6 ∧ x6 < 48) then
          Option.bind (f_X7_turnedCode_r7 N x6.toNat x5 σ) fun ⟨v696, s695⟩ =>
          Option.bind (f_X11_indexOfCode N v696 s695) fun ⟨v698, s697⟩ =>
          if (0 ≤ v698 ∧ v698 < 165) ∧ (0 ≤ x6 ∧ x6 < 48) ∧ (0 ≤ x5 ∧ x5 < 165) then
            Option.bind (f_X11_signedNumber N (mw (v696 * (s697 28 y3 x6.toNat))) (s697 33 y4 x5.toNat) s697) fun ⟨v700, s699⟩ =>
            if (s697 33 y4 v698.toNat) = v700 then
              ih y3 y4 x5 (mw (x6 + 1)) s699
            else
              some (.inl ((0 : Int), s699))
          else none
        else none
  else none
  ) n
theorem L_X6_isLeft_r28_22_s (N n : Nat) (y3 : Nat) (y4 : Nat) (x5 : Int) (x6 : Int) (σ : mS) : L_X6_isLeft_r28_22 N (n + 1) y3 y4 x5 x6 σ =
  if (0 ≤ x5 ∧ x5 < 165) then
    if (σ 33 y4 x5.toNat) = 0 then
      some (.inr σ)
    else
      if (σ 5 0 0) ≤ x6 then
        some (.inr σ)
      else
        if (0 ≤ x6 ∧ x6 < 48) then
          Option.bind (f_X7_turnedCode_r7 N x6.toNat x5 σ) fun ⟨v696, s695⟩ =>
          Option.bind (f_X11_indexOfCode N v696 s695) fun ⟨v698, s697⟩ =>
          if (0 ≤ v698 ∧ v698 < 165) ∧ (0 ≤ x6 ∧ x6 < 48) ∧ (0 ≤ x5 ∧ x5 < 165) then
            Option.bind (f_X11_signedNumber N (mw (v696 * (s697 28 y3 x6.toNat))) (s697 33 y4 x5.toNat) s697) fun ⟨v700, s699⟩ =>
            if (s697 33 y4 v698.toNat) = v700 then
              L_X6_isLeft_r28_22 N n y3 y4 x5 (mw (x6 + 1)) s699
            else
              some (.inl ((0 : Int), s699))
          else none
        else none
  else none := rfl
noncomputable def L_X6_isLeft_r28_11 (N : Nat) (n : Nat) : Nat → Nat → Int → mS → Option ((Int × mS) ⊕ (mS)) := @Nat.rec (fun _ => Nat → Nat → Int → mS → Option ((Int × mS) ⊕ (mS))) (fun _ _ _ _ => none) (fun n ih y3 y4 x5 σ =>
  if (165 : Int) ≤ x5 then
    some (.inr σ)
  else
    Option.bind (L_X6_isLeft_r28_22 N N y3 y4 x5 0 σ) fun o => match o with
      | .inl (v709, s710) => some (.inl (v709, s710))
      | .inr s707 =>
        ih y3 y4 (mw (x5 + 1)) s707
  ) n
theorem L_X6_isLeft_r28_11_s (N n : Nat) (y3 : Nat) (y4 : Nat) (x5 : Int) (σ : mS) : L_X6_isLeft_r28_11 N (n + 1) y3 y4 x5 σ =
  if (165 : Int) ≤ x5 then
    some (.inr σ)
  else
    Option.bind (L_X6_isLeft_r28_22 N N y3 y4 x5 0 σ) fun o => match o with
      | .inl (v709, s710) => some (.inl (v709, s710))
      | .inr s707 =>
        L_X6_isLeft_r28_11 N n y3 y4 (mw (x5 + 1)) s707 := rfl
noncomputable def f_X6_isLeft_r28 (N : Nat) (a1 : Int) (q3 : Nat) (σ : mS) : Option (Int × mS) :=
  if (0 ≤ a1 ∧ a1 < 8) then
    Option.bind (L_X6_isLeft_r28_11 N N q3 a1.toNat 0 σ) fun o => match o with
      | .inl (v714, s715) => some (v714, s715)
      | .inr s712 =>
        some ((1 : Int), s712)
  else none
noncomputable def f_X11_stays (N : Nat) (a1 : Int) (a2 : Int) (σ : mS) : Option (Int × mS) :=
  Option.bind (f_X6_has N a1 σ) fun ⟨v692, s691⟩ =>
  if v692 = 0 then
    some ((-1 : Int), s691)
  else
    Option.bind (f_X9_has N a2 s691) fun ⟨v694, s693⟩ =>
    if v694 = 0 then
      some ((-1 : Int), s693)
    else
      if (0 ≤ a2 ∧ a2 < 16) then
        Option.bind (f_X6_isLeft_r28 N a1 a2.toNat s693) fun ⟨v717, s716⟩ =>
        if v717 = 0 then
          some ((0 : Int), s716)
        else
          some ((1 : Int), s716)
      else none
noncomputable def f_X7_widthOf (N : Nat) (a0 : Int) (σ : mS) : Option (Int × mS) :=
  some ((o_div (mw ((mw (a0 + 1)) * (mw (a0 + 2)))) 2), σ)
noncomputable def L_X6_isFirstOfLeft_r28_3 (N : Nat) (n : Nat) : Int → Nat → Int → mS → Option ((Int × mS) ⊕ (mS)) := @Nat.rec (fun _ => Int → Nat → Int → mS → Option ((Int × mS) ⊕ (mS))) (fun _ _ _ _ => none) (fun n ih x1 y3 x4 σ =>
  if (σ 5 0 0) ≤ x4 then
    some (.inr σ)
  else
    if (0 ≤ x4 ∧ x4 < 48) then
      Option.bind (f_X7_turnedCode_r7 N x4.toNat x1 σ) fun ⟨v731, s730⟩ =>
      Option.bind (f_X11_indexOfCode N v731 s730) fun ⟨v733, s732⟩ =>
      if v733 < x1 then
        some (.inl ((0 : Int), s732))
      else
        if v733 = x1 then
          if (0 ≤ x4 ∧ x4 < 48) then
            if 0 ≤ (mw (v731 * (s732 28 y3 x4.toNat))) then
              ih x1 y3 (mw (x4 + 1)) s732
            else
              some (.inl ((0 : Int), s732))
          else none
        else
          ih x1 y3 (mw (x4 + 1)) s732
    else none
  ) n
theorem L_X6_isFirstOfLeft_r28_3_s (N n : Nat) (x1 : Int) (y3 : Nat) (x4 : Int) (σ : mS) : L_X6_isFirstOfLeft_r28_3 N (n + 1) x1 y3 x4 σ =
  if (σ 5 0 0) ≤ x4 then
    some (.inr σ)
  else
    if (0 ≤ x4 ∧ x4 < 48) then
      Option.bind (f_X7_turnedCode_r7 N x4.toNat x1 σ) fun ⟨v731, s730⟩ =>
      Option.bind (f_X11_indexOfCode N v731 s730) fun ⟨v733, s732⟩ =>
      if v733 < x1 then
        some (.inl ((0 : Int), s732))
      else
        if v733 = x1 then
          if (0 ≤ x4 ∧ x4 < 48) then
            if 0 ≤ (mw (v731 * (s732 28 y3 x4.toNat))) then
              L_X6_isFirstOfLeft_r28_3 N n x1 y3 (mw (x4 + 1)) s732
            else
              some (.inl ((0 : Int), s732))
          else none
        else
          L_X6_isFirstOfLeft_r28_3 N n x1 y3 (mw (x4 + 1)) s732
    else none := rfl
noncomputable def f_X6_isFirstOfLeft_r28 (N : Nat) (a1 : Int) (q3 : Nat) (σ : mS) : Option (Int × mS) :=
  Option.bind (L_X6_isFirstOfLeft_r28_3 N N a1 q3 0 σ) fun o => match o with
    | .inl (v742, s743) => some (v742, s743)
    | .inr s740 =>
      some ((1 : Int), s740)
noncomputable def L_X6_countLeft_r28_13 (N : Nat) (n : Nat) : Int → Nat → Int → Int → Int → mS → Option (Int × mS) := @Nat.rec (fun _ => Int → Nat → Int → Int → Int → mS → Option (Int × mS)) (fun _ _ _ _ _ _ => none) (fun n ih x1 y3 x4 x5 x6 σ =>
  Option.bind (f_X7_widthOf N x1 σ) fun ⟨v729, s728⟩ =>
  if (mw (x5 + v729)) ≤ x6 then
    some (x4, s728)
  else
    Option.bind (f_X6_isFirstOfLeft_r28 N x6 y3 s728) fun ⟨v745, s744⟩ =>
    if v745 = 0 then
      ih x1 y3 (mw (x4 + 0)) x5 (mw (x6 + 1)) s744
    else
      ih x1 y3 (mw (x4 + 1)) x5 (mw (x6 + 1)) s744
  ) n
theorem L_X6_countLeft_r28_13_s (N n : Nat) (x1 : Int) (y3 : Nat) (x4 : Int) (x5 : Int) (x6 : Int) (σ : mS) : L_X6_countLeft_r28_13 N (n + 1) x1 y3 x4 x5 x6 σ =
  Option.bind (f_X7_widthOf N x1 σ) fun ⟨v729, s728⟩ =>
  if (mw (x5 + v729)) ≤ x6 then
    some (x4, s728)
  else
    Option.bind (f_X6_isFirstOfLeft_r28 N x6 y3 s728) fun ⟨v745, s744⟩ =>
    if v745 = 0 then
      L_X6_countLeft_r28_13 N n x1 y3 (mw (x4 + 0)) x5 (mw (x6 + 1)) s744
    else
      L_X6_countLeft_r28_13 N n x1 y3 (mw (x4 + 1)) x5 (mw (x6 + 1)) s744 := rfl
noncomputable def f_X6_countLeft_r28 (N : Nat) (a1 : Int) (q3 : Nat) (σ : mS) : Option (Int × mS) :=
  Option.bind (f_X7_firstOf N a1 σ) fun ⟨v727, s726⟩ =>
  Option.bind (L_X6_countLeft_r28_13 N N a1 q3 0 v727 v727 s726) fun ⟨o751, s750⟩ =>
  some (o751, s750)
noncomputable def f_X11_count (N : Nat) (a1 : Int) (a2 : Int) (σ : mS) : Option (Int × mS) :=
  if a1 < 0 then
    some ((-1 : Int), σ)
  else
    if (8 : Int) < a1 then
      some ((-1 : Int), σ)
    else
      Option.bind (f_X9_has N a2 σ) fun ⟨v725, s724⟩ =>
      if v725 = 0 then
        some ((-1 : Int), s724)
      else
        if (0 ≤ a2 ∧ a2 < 16) then
          Option.bind (f_X6_countLeft_r28 N a1 a2.toNat s724) fun ⟨v755, s754⟩ =>
          some (v755, s754)
        else none
noncomputable def L_J7_fill_53178_r30_5 (N : Nat) (n : Nat) : Int → Int → Int → mS → Option (mS) := @Nat.rec (fun _ => Int → Int → Int → mS → Option (mS)) (fun _ _ _ _ => none) (fun n ih x1 x2 x3 σ =>
  if x3 ≤ x2 then
    some σ
  else
    if (0 ≤ x2 ∧ x2 < 201) then
      ih x1 (mw (x2 + 1)) x3 (mup σ 30 0 x2.toNat x1)
    else none
  ) n
theorem L_J7_fill_53178_r30_5_s (N n : Nat) (x1 : Int) (x2 : Int) (x3 : Int) (σ : mS) : L_J7_fill_53178_r30_5 N (n + 1) x1 x2 x3 σ =
  if x3 ≤ x2 then
    some σ
  else
    if (0 ≤ x2 ∧ x2 < 201) then
      L_J7_fill_53178_r30_5 N n x1 (mw (x2 + 1)) x3 (mup σ 30 0 x2.toNat x1)
    else none := rfl
noncomputable def f_J7_fill_53178_r30 (N : Nat) (a1 : Int) (σ : mS) : Option (mS) :=
  Option.bind (L_J7_fill_53178_r30_5 N N a1 0 201 σ) fun s765 =>
  some s765
noncomputable def L_X4_oneByD_r7_45 (N : Nat) (n : Nat) : Int → Int → Int → Int → mS → Option (mS) := @Nat.rec (fun _ => Int → Int → Int → Int → mS → Option (mS)) (fun _ _ _ _ _ => none) (fun n ih x1 x4 x5 x6 σ =>
  if x1 < x6 then
    some σ
  else
    if (0 ≤ x6 ∧ x6 < 201) ∧ (0 ≤ x4 ∧ x4 < 3) ∧ (0 ≤ (mw (x6 - x5)) ∧ (mw (x6 - x5)) < 201) then
      ih x1 x4 x5 (mw (x6 + 1)) (mup σ 30 0 x6.toNat (mw ((σ 30 0 x6.toNat) + (mw ((σ 25 0 x4.toNat) * (σ 30 0 ((mw (x6 - x5)).toNat)))))))
    else none
  ) n
theorem L_X4_oneByD_r7_45_s (N n : Nat) (x1 : Int) (x4 : Int) (x5 : Int) (x6 : Int) (σ : mS) : L_X4_oneByD_r7_45 N (n + 1) x1 x4 x5 x6 σ =
  if x1 < x6 then
    some σ
  else
    if (0 ≤ x6 ∧ x6 < 201) ∧ (0 ≤ x4 ∧ x4 < 3) ∧ (0 ≤ (mw (x6 - x5)) ∧ (mw (x6 - x5)) < 201) then
      L_X4_oneByD_r7_45 N n x1 x4 x5 (mw (x6 + 1)) (mup σ 30 0 x6.toNat (mw ((σ 30 0 x6.toNat) + (mw ((σ 25 0 x4.toNat) * (σ 30 0 ((mw (x6 - x5)).toNat)))))))
    else none := rfl
noncomputable def L_X4_oneByD_r7_23 (N : Nat) (n : Nat) : Int → Int → mS → Option (mS) := @Nat.rec (fun _ => Int → Int → mS → Option (mS)) (fun _ _ _ => none) (fun n ih x1 x4 σ =>
  if (σ 23 0 2) ≤ x4 then
    some σ
  else
    if (0 ≤ x4 ∧ x4 < 3) then
      Option.bind (L_X4_oneByD_r7_45 N N x1 x4 (σ 24 0 x4.toNat) (σ 24 0 x4.toNat) σ) fun s769 =>
      ih x1 (mw (x4 + 1)) s769
    else none
  ) n
theorem L_X4_oneByD_r7_23_s (N n : Nat) (x1 : Int) (x4 : Int) (σ : mS) : L_X4_oneByD_r7_23 N (n + 1) x1 x4 σ =
  if (σ 23 0 2) ≤ x4 then
    some σ
  else
    if (0 ≤ x4 ∧ x4 < 3) then
      Option.bind (L_X4_oneByD_r7_45 N N x1 x4 (σ 24 0 x4.toNat) (σ 24 0 x4.toNat) σ) fun s769 =>
      L_X4_oneByD_r7_23 N n x1 (mw (x4 + 1)) s769
    else none := rfl
noncomputable def f_X4_oneByD_r7 (N : Nat) (a1 : Int) (q3 : Nat) (σ : mS) : Option (Int × mS) :=
  Option.bind (f_X8_read_r7 N q3 σ) fun s763 =>
  Option.bind (f_J7_fill_53178_r30 N 0 s763) fun s767 =>
  Option.bind (L_X4_oneByD_r7_23 N N a1 0 (mup s767 30 0 0 1)) fun s772 =>
  if (0 ≤ a1 ∧ a1 < 201) then
    some ((s772 30 0 a1.toNat), s772)
  else none
noncomputable def L_X4_at_r28_6 (N : Nat) (n : Nat) : Int → Nat → Int → Int → mS → Option (Int × mS) := @Nat.rec (fun _ => Int → Nat → Int → Int → mS → Option (Int × mS)) (fun _ _ _ _ _ => none) (fun n ih x1 y3 x4 x5 σ =>
  if (σ 5 0 2) ≤ x5 then
    some (x4, σ)
  else
    if (0 ≤ x5 ∧ x5 < 48) ∧ (0 ≤ (σ 20 0 x5.toNat) ∧ (σ 20 0 x5.toNat) < 48) then
      Option.bind (f_X4_oneByD_r7 N x1 ((σ 20 0 x5.toNat).toNat) σ) fun ⟨v777, s776⟩ =>
      ih x1 y3 (mw (x4 + (mw ((mw ((σ 28 y3 ((σ 20 0 x5.toNat).toNat)) * (σ 21 0 x5.toNat))) * v777)))) (mw (x5 + 1)) s776
    else none
  ) n
theorem L_X4_at_r28_6_s (N n : Nat) (x1 : Int) (y3 : Nat) (x4 : Int) (x5 : Int) (σ : mS) : L_X4_at_r28_6 N (n + 1) x1 y3 x4 x5 σ =
  if (σ 5 0 2) ≤ x5 then
    some (x4, σ)
  else
    if (0 ≤ x5 ∧ x5 < 48) ∧ (0 ≤ (σ 20 0 x5.toNat) ∧ (σ 20 0 x5.toNat) < 48) then
      Option.bind (f_X4_oneByD_r7 N x1 ((σ 20 0 x5.toNat).toNat) σ) fun ⟨v777, s776⟩ =>
      L_X4_at_r28_6 N n x1 y3 (mw (x4 + (mw ((mw ((σ 28 y3 ((σ 20 0 x5.toNat).toNat)) * (σ 21 0 x5.toNat))) * v777)))) (mw (x5 + 1)) s776
    else none := rfl
noncomputable def f_X4_at_r28 (N : Nat) (a1 : Int) (q3 : Nat) (σ : mS) : Option (Int × mS) :=
  Option.bind (L_X4_at_r28_6 N N a1 q3 0 0 σ) fun ⟨o781, s780⟩ =>
  if (s780 5 0 0) ≤ 0 then
    some ((0 : Int), s780)
  else
    if ¬ (s780 5 0 0) = 0 then
      some ((o_div o781 (s780 5 0 0)), s780)
    else none
noncomputable def f_X11_series (N : Nat) (a1 : Int) (a2 : Int) (σ : mS) : Option (Int × mS) :=
  if a1 < 0 then
    some ((-1 : Int), σ)
  else
    if (200 : Int) < a1 then
      some ((-1 : Int), σ)
    else
      Option.bind (f_X9_has N a2 σ) fun ⟨v762, s761⟩ =>
      if v762 = 0 then
        some ((-1 : Int), s761)
      else
        if (0 ≤ a2 ∧ a2 < 16) then
          Option.bind (f_X4_at_r28 N a1 a2.toNat s761) fun ⟨v785, s784⟩ =>
          some (v785, s784)
        else none
noncomputable def f_X0_has (N : Nat) (a1 : Int) (σ : mS) : Option (Int × mS) :=
  if a1 < 0 then
    some ((0 : Int), σ)
  else
    if (σ 42 0 0) ≤ a1 then
      some ((0 : Int), σ)
    else
      some ((1 : Int), σ)
noncomputable def L_J7_fill_53178_r33_5 (N : Nat) (n : Nat) : Nat → Int → Int → Int → mS → Option (mS) := @Nat.rec (fun _ => Nat → Int → Int → Int → mS → Option (mS)) (fun _ _ _ _ _ => none) (fun n ih y0 x1 x2 x3 σ =>
  if x3 ≤ x2 then
    some σ
  else
    if (0 ≤ x2 ∧ x2 < 165) then
      ih y0 x1 (mw (x2 + 1)) x3 (mup σ 33 y0 x2.toNat x1)
    else none
  ) n
theorem L_J7_fill_53178_r33_5_s (N n : Nat) (y0 : Nat) (x1 : Int) (x2 : Int) (x3 : Int) (σ : mS) : L_J7_fill_53178_r33_5 N (n + 1) y0 x1 x2 x3 σ =
  if x3 ≤ x2 then
    some σ
  else
    if (0 ≤ x2 ∧ x2 < 165) then
      L_J7_fill_53178_r33_5 N n y0 x1 (mw (x2 + 1)) x3 (mup σ 33 y0 x2.toNat x1)
    else none := rfl
noncomputable def f_J7_fill_53178_r33 (N : Nat) (q0 : Nat) (a1 : Int) (σ : mS) : Option (mS) :=
  Option.bind (L_J7_fill_53178_r33_5 N N q0 a1 0 165 σ) fun s799 =>
  some s799
noncomputable def f_X0_copyInto_r33 (N : Nat) (q1 : Nat) (a2 : Int) (σ : mS) : Option (mS) :=
  if (0 ≤ a2 ∧ a2 < 6) ∧ (0 ≤ (σ 43 0 a2.toNat) ∧ (σ 43 0 a2.toNat) < 7) then
    Option.bind (f_J7_fill_53178_r33 N q1 0 σ) fun s801 =>
    if (0 ≤ a2 ∧ a2 < 6) ∧ (0 ≤ (s801 44 0 a2.toNat) ∧ (s801 44 0 a2.toNat) < ((gmo ((σ 43 0 a2.toNat).toNat) : Nat) : Int)) then
      Option.bind (f_X7_firstOf N (s801 47 ((σ 43 0 a2.toNat).toNat) 0) s801) fun ⟨v803, s802⟩ =>
      if 0 ≤ (0 : Int) ∧ 0 ≤ v803 ∧ 0 ≤ (s802 47 ((σ 43 0 a2.toNat).toNat) 1) ∧ (0 : Int) + (s802 47 ((σ 43 0 a2.toNat).toNat) 1) ≤ ((gwd ((64 * ((σ 43 0 a2.toNat).toNat) + (s801 44 0 a2.toNat).toNat) / 64) : Nat) : Int) ∧ v803 + (s802 47 ((σ 43 0 a2.toNat).toNat) 1) ≤ 165 then
        some (mcp s802 51 (64 * ((σ 43 0 a2.toNat).toNat) + (s801 44 0 a2.toNat).toNat) 0 33 q1 v803 (s802 47 ((σ 43 0 a2.toNat).toNat) 1))
      else none
    else none
  else none
noncomputable def f_X11_few (N : Nat) (a1 : Int) (a2 : Int) (σ : mS) : Option (Int × mS) :=
  Option.bind (f_X0_find N σ) fun s791 =>
  Option.bind (f_X6_has N a1 s791) fun ⟨v793, s792⟩ =>
  if v793 = 0 then
    some ((-2 : Int), s792)
  else
    Option.bind (f_X0_has N a2 s792) fun ⟨v797, s796⟩ =>
    if v797 = 0 then
      some ((-2 : Int), s796)
    else
      if (0 ≤ a1 ∧ a1 < 8) then
        Option.bind (f_X0_copyInto_r33 N a1.toNat a2 s796) fun s806 =>
        Option.bind (f_X6_degreeOf N a1 s806) fun ⟨v808, s807⟩ =>
        some (v808, s807)
      else none
noncomputable def f_X11_laws (N : Nat) (a1 : Int) (a2 : Int) (σ : mS) : Option (Int × mS) :=
  if a1 < 0 then
    some ((-1 : Int), σ)
  else
    if (6 : Int) < a1 then
      some ((-1 : Int), σ)
    else
      if a2 < 0 then
        some ((-1 : Int), σ)
      else
        if a2 ≤ (1 : Int) then
          Option.bind (f_X0_find N σ) fun s816 =>
          if (0 ≤ a1 ∧ a1 < 7) then
            if a2 = 0 then
              some ((s816 47 a1.toNat 3), s816)
            else
              Option.bind (f_X11_count N a1 0 s816) fun ⟨v818, s817⟩ =>
              some ((mw ((s816 47 a1.toNat 3) - v818)), s817)
          else none
        else
          some ((-1 : Int), σ)
noncomputable def f_X5_begin (N : Nat) (a1 : Int) (σ : mS) : Option (mS) :=
  some (mup (mup σ 61 0 0 0) 61 0 1 a1)
noncomputable def f_X5_add_r49 (N : Nat) (a1 : Int) (a2 : Int) (q3 : Nat) (σ : mS) : Option (mS) :=
  if (84 : Int) ≤ (σ 61 0 0) then
    some σ
  else
    if (0 ≤ (σ 61 0 0) ∧ (σ 61 0 0) < 84) then
      some (mup (mcp (mup (mup σ 62 0 ((σ 61 0 0).toNat) a1) 63 0 ((σ 61 0 0).toNat) a2) 49 q3 0 65 ((σ 61 0 0).toNat) 0 6) 61 0 0 (mw ((σ 61 0 0) + 1)))
    else none
noncomputable def L_X3_split_r33_34 (N : Nat) (n : Nat) : Nat → Int → mS → Option (mS) := @Nat.rec (fun _ => Nat → Int → mS → Option (mS)) (fun _ _ _ => none) (fun n ih y0 x3 σ =>
  if (σ 47 y0 7) ≤ x3 then
    some σ
  else
    if (0 ≤ x3 ∧ x3 < ((gwd y0 : Nat) : Int)) then
      if (σ 60 y0 x3.toNat) = 0 then
        ih y0 (mw (x3 + 1)) σ
      else
        if (0 ≤ x3 ∧ x3 < ((gwd y0 : Nat) : Int)) ∧ (0 ≤ (σ 53 y0 x3.toNat) ∧ (σ 53 y0 x3.toNat) < ((gmo y0 : Nat) : Int)) then
          Option.bind (f_X5_add_r49 N (mw ((32003 : Int) - (σ 60 y0 x3.toNat))) (σ 47 y0 0) (64 * y0 + (σ 53 y0 x3.toNat).toNat) σ) fun s837 =>
          ih y0 (mw (x3 + 1)) s837
        else none
    else none
  ) n
theorem L_X3_split_r33_34_s (N n : Nat) (y0 : Nat) (x3 : Int) (σ : mS) : L_X3_split_r33_34 N (n + 1) y0 x3 σ =
  if (σ 47 y0 7) ≤ x3 then
    some σ
  else
    if (0 ≤ x3 ∧ x3 < ((gwd y0 : Nat) : Int)) then
      if (σ 60 y0 x3.toNat) = 0 then
        L_X3_split_r33_34 N n y0 (mw (x3 + 1)) σ
      else
        if (0 ≤ x3 ∧ x3 < ((gwd y0 : Nat) : Int)) ∧ (0 ≤ (σ 53 y0 x3.toNat) ∧ (σ 53 y0 x3.toNat) < ((gmo y0 : Nat) : Int)) then
          Option.bind (f_X5_add_r49 N (mw ((32003 : Int) - (σ 60 y0 x3.toNat))) (σ 47 y0 0) (64 * y0 + (σ 53 y0 x3.toNat).toNat) σ) fun s837 =>
          L_X3_split_r33_34 N n y0 (mw (x3 + 1)) s837
        else none
    else none := rfl
noncomputable def f_X3_split_r33 (N : Nat) (q0 : Nat) (q1 : Nat) (σ : mS) : Option (mS) :=
  Option.bind (f_X7_firstOf N (σ 47 q0 0) σ) fun ⟨v833, s832⟩ =>
  if 0 ≤ v833 ∧ 0 ≤ (0 : Int) ∧ 0 ≤ (s832 47 q0 1) ∧ v833 + (s832 47 q0 1) ≤ 165 ∧ (0 : Int) + (s832 47 q0 1) ≤ ((gwd q0 : Nat) : Int) then
    Option.bind (f_J7_fill_53178_r60 N q0 0 (mcp s832 33 q1 v833 59 q0 0 (s832 47 q0 1))) fun s834 =>
    Option.bind (f_X3_reduceWork N q0 s834) fun s835 =>
    Option.bind (L_X3_split_r33_34 N N q0 0 s835) fun s841 =>
    some s841
  else none
noncomputable def L_X0_split_r33_10 (N : Nat) (n : Nat) : Nat → Int → mS → Option (mS) := @Nat.rec (fun _ => Nat → Int → mS → Option (mS)) (fun _ _ _ => none) (fun n ih y1 x3 σ =>
  if (6 : Int) < x3 then
    some σ
  else
    if (0 ≤ x3 ∧ x3 < 7) then
      Option.bind (f_X3_split_r33 N x3.toNat y1 σ) fun s846 =>
      ih y1 (mw (x3 + 1)) s846
    else none
  ) n
theorem L_X0_split_r33_10_s (N n : Nat) (y1 : Nat) (x3 : Int) (σ : mS) : L_X0_split_r33_10 N (n + 1) y1 x3 σ =
  if (6 : Int) < x3 then
    some σ
  else
    if (0 ≤ x3 ∧ x3 < 7) then
      Option.bind (f_X3_split_r33 N x3.toNat y1 σ) fun s846 =>
      L_X0_split_r33_10 N n y1 (mw (x3 + 1)) s846
    else none := rfl
noncomputable def f_X0_split_r33 (N : Nat) (q1 : Nat) (σ : mS) : Option (mS) :=
  Option.bind (f_X5_begin N (σ 42 0 0) σ) fun s831 =>
  Option.bind (L_X0_split_r33_10 N N q1 0 s831) fun s849 =>
  some s849
noncomputable def f_X11_made (N : Nat) (a1 : Int) (σ : mS) : Option (Int × mS) :=
  Option.bind (f_X11_stays N a1 0 σ) fun ⟨v827, s826⟩ =>
  if v827 = (1 : Int) then
    Option.bind (f_X6_degreeOf N a1 s826) fun ⟨v829, s828⟩ =>
    if v829 ≤ (6 : Int) then
      Option.bind (f_X0_find N s828) fun s830 =>
      if (0 ≤ a1 ∧ a1 < 8) then
        Option.bind (f_X0_split_r33 N a1.toNat s830) fun s852 =>
        some ((s852 61 0 0), s852)
      else none
    else
      some ((-1 : Int), s828)
  else
    some ((-1 : Int), s826)
noncomputable def f_X5_tell (N : Nat) (a1 : Int) (a2 : Int) (σ : mS) : Option (Int × mS) :=
  if a1 < 0 then
    some ((-1 : Int), σ)
  else
    if (σ 61 0 0) ≤ a1 then
      some ((-1 : Int), σ)
    else
      if a2 < 0 then
        some ((-1 : Int), σ)
      else
        if a2 < (mw ((2 : Int) + (σ 61 0 1))) then
          if a2 = 0 then
            if (0 ≤ a1 ∧ a1 < 84) then
              some ((σ 62 0 a1.toNat), σ)
            else none
          else
            if a2 = (1 : Int) then
              if (0 ≤ a1 ∧ a1 < 84) then
                some ((σ 63 0 a1.toNat), σ)
              else none
            else
              if (0 ≤ a1 ∧ a1 < 84) ∧ (0 ≤ (mw (a2 - 2)) ∧ (mw (a2 - 2)) < 6) then
                some ((σ 65 a1.toNat ((mw (a2 - 2)).toNat)), σ)
              else none
        else
          some ((-1 : Int), σ)
noncomputable def f_X11_part (N : Nat) (a1 : Int) (a2 : Int) (σ : mS) : Option (Int × mS) :=
  Option.bind (f_X5_tell N a1 a2 σ) fun ⟨v866, s865⟩ =>
  some (v866, s865)
noncomputable def L_X6_fillLetterPowers_14 (N : Nat) (n : Nat) : Int → Nat → Int → mS → Option (mS) := @Nat.rec (fun _ => Int → Nat → Int → mS → Option (mS)) (fun _ _ _ _ => none) (fun n ih x2 y3 x4 σ =>
  if (8 : Int) < x4 then
    some σ
  else
    if (0 ≤ (mw (x4 - 1)) ∧ (mw (x4 - 1)) < 9) ∧ (0 ≤ x4 ∧ x4 < 9) then
      ih x2 y3 (mw (x4 + 1)) (mup σ 36 y3 x4.toNat (o_rem (mw ((σ 36 y3 ((mw (x4 - 1)).toNat)) * x2)) 32003))
    else none
  ) n
theorem L_X6_fillLetterPowers_14_s (N n : Nat) (x2 : Int) (y3 : Nat) (x4 : Int) (σ : mS) : L_X6_fillLetterPowers_14 N (n + 1) x2 y3 x4 σ =
  if (8 : Int) < x4 then
    some σ
  else
    if (0 ≤ (mw (x4 - 1)) ∧ (mw (x4 - 1)) < 9) ∧ (0 ≤ x4 ∧ x4 < 9) then
      L_X6_fillLetterPowers_14 N n x2 y3 (mw (x4 + 1)) (mup σ 36 y3 x4.toNat (o_rem (mw ((σ 36 y3 ((mw (x4 - 1)).toNat)) * x2)) 32003))
    else none := rfl
noncomputable def f_X6_fillLetterPowers (N : Nat) (a1 : Int) (a2 : Int) (σ : mS) : Option (mS) :=
  if (0 ≤ a1 ∧ a1 < 3) then
    Option.bind (L_X6_fillLetterPowers_14 N N a2 a1.toNat 1 (mup σ 36 a1.toNat 0 1)) fun s873 =>
    some s873
  else none
noncomputable def L_X6_valueAt_56 (N : Nat) (n : Nat) : Int → Int → Int → Int → Int → mS → Option (Int × mS) := @Nat.rec (fun _ => Int → Int → Int → Int → Int → mS → Option (Int × mS)) (fun _ _ _ _ _ _ => none) (fun n ih x1 x5 x6 x7 x8 σ =>
  if (3 : Int) ≤ x8 then
    some (x7, σ)
  else
    if x7 = 0 then
      some (x7, σ)
    else
      if (0 ≤ x8 ∧ x8 < 3) ∧ (0 ≤ x6 ∧ x6 < 165) ∧ (0 ≤ (σ 39 x8.toNat x6.toNat) ∧ (σ 39 x8.toNat x6.toNat) < 9) then
        ih x1 x5 x6 (o_rem (mw (x7 * (σ 36 x8.toNat ((σ 39 x8.toNat x6.toNat).toNat)))) 32003) (mw (x8 + 1)) σ
      else none
  ) n
theorem L_X6_valueAt_56_s (N n : Nat) (x1 : Int) (x5 : Int) (x6 : Int) (x7 : Int) (x8 : Int) (σ : mS) : L_X6_valueAt_56 N (n + 1) x1 x5 x6 x7 x8 σ =
  if (3 : Int) ≤ x8 then
    some (x7, σ)
  else
    if x7 = 0 then
      some (x7, σ)
    else
      if (0 ≤ x8 ∧ x8 < 3) ∧ (0 ≤ x6 ∧ x6 < 165) ∧ (0 ≤ (σ 39 x8.toNat x6.toNat) ∧ (σ 39 x8.toNat x6.toNat) < 9) then
        L_X6_valueAt_56 N n x1 x5 x6 (o_rem (mw (x7 * (σ 36 x8.toNat ((σ 39 x8.toNat x6.toNat).toNat)))) 32003) (mw (x8 + 1)) σ
      else none := rfl
noncomputable def L_X6_valueAt_34 (N : Nat) (n : Nat) : Int → Int → Int → mS → Option (Int × mS) := @Nat.rec (fun _ => Int → Int → Int → mS → Option (Int × mS)) (fun _ _ _ _ => none) (fun n ih x1 x5 x6 σ =>
  if (165 : Int) ≤ x6 then
    some (x5, σ)
  else
    if (0 ≤ x1 ∧ x1 < 8) ∧ (0 ≤ x6 ∧ x6 < 165) then
      Option.bind (L_X6_valueAt_56 N N x1 x5 x6 (σ 33 x1.toNat x6.toNat) 0 σ) fun ⟨o885, s884⟩ =>
      ih x1 (o_rem (mw (x5 + o885)) 32003) (mw (x6 + 1)) s884
    else none
  ) n
theorem L_X6_valueAt_34_s (N n : Nat) (x1 : Int) (x5 : Int) (x6 : Int) (σ : mS) : L_X6_valueAt_34 N (n + 1) x1 x5 x6 σ =
  if (165 : Int) ≤ x6 then
    some (x5, σ)
  else
    if (0 ≤ x1 ∧ x1 < 8) ∧ (0 ≤ x6 ∧ x6 < 165) then
      Option.bind (L_X6_valueAt_56 N N x1 x5 x6 (σ 33 x1.toNat x6.toNat) 0 σ) fun ⟨o885, s884⟩ =>
      L_X6_valueAt_34 N n x1 (o_rem (mw (x5 + o885)) 32003) (mw (x6 + 1)) s884
    else none := rfl
noncomputable def f_X6_valueAt (N : Nat) (a1 : Int) (a2 : Int) (a3 : Int) (a4 : Int) (σ : mS) : Option (Int × mS) :=
  Option.bind (f_X11_leftOver N a2 σ) fun ⟨v871, s870⟩ =>
  Option.bind (f_X6_fillLetterPowers N 0 v871 s870) fun s875 =>
  Option.bind (f_X11_leftOver N a3 s875) fun ⟨v877, s876⟩ =>
  Option.bind (f_X6_fillLetterPowers N 1 v877 s876) fun s878 =>
  Option.bind (f_X11_leftOver N a4 s878) fun ⟨v880, s879⟩ =>
  Option.bind (f_X6_fillLetterPowers N 2 v880 s879) fun s881 =>
  Option.bind (L_X6_valueAt_34 N N a1 0 0 s881) fun ⟨o889, s888⟩ =>
  some (o889, s888)
noncomputable def f_X11_value (N : Nat) (a1 : Int) (a2 : Int) (a3 : Int) (a4 : Int) (σ : mS) : Option (Int × mS) :=
  Option.bind (f_X6_has N a1 σ) fun ⟨v869, s868⟩ =>
  if v869 = 0 then
    some ((-1 : Int), s868)
  else
    Option.bind (f_X6_valueAt N a1 a2 a3 a4 s868) fun ⟨v898, s897⟩ =>
    some (v898, s897)
noncomputable def L_X2_lead_r7_2 (N : Nat) (n : Nat) : Nat → Int → mS → Option (mS) := @Nat.rec (fun _ => Nat → Int → mS → Option (mS)) (fun _ _ _ => none) (fun n ih y1 x2 σ =>
  if (3 : Int) ≤ x2 then
    some σ
  else
    if (0 ≤ x2 ∧ x2 < 3) then
      Option.bind (f_X11_indexOfCode N (σ 7 y1 x2.toNat) σ) fun ⟨v903, s902⟩ =>
      if (0 ≤ x2 ∧ x2 < 3) then
        if 0 ≤ (s902 7 y1 x2.toNat) then
          if (0 ≤ x2 ∧ x2 < 3) ∧ (0 ≤ v903 ∧ v903 < 3) then
            ih y1 (mw (x2 + 1)) (mup s902 70 0 v903.toNat (s902 67 0 x2.toNat))
          else none
        else
          if (0 ≤ x2 ∧ x2 < 3) then
            if (0 ≤ v903 ∧ v903 < 3) then
              ih y1 (mw (x2 + 1)) (mup s902 70 0 v903.toNat (mw (-(s902 67 0 x2.toNat))))
            else none
          else none
      else none
    else none
  ) n
theorem L_X2_lead_r7_2_s (N n : Nat) (y1 : Nat) (x2 : Int) (σ : mS) : L_X2_lead_r7_2 N (n + 1) y1 x2 σ =
  if (3 : Int) ≤ x2 then
    some σ
  else
    if (0 ≤ x2 ∧ x2 < 3) then
      Option.bind (f_X11_indexOfCode N (σ 7 y1 x2.toNat) σ) fun ⟨v903, s902⟩ =>
      if (0 ≤ x2 ∧ x2 < 3) then
        if 0 ≤ (s902 7 y1 x2.toNat) then
          if (0 ≤ x2 ∧ x2 < 3) ∧ (0 ≤ v903 ∧ v903 < 3) then
            L_X2_lead_r7_2 N n y1 (mw (x2 + 1)) (mup s902 70 0 v903.toNat (s902 67 0 x2.toNat))
          else none
        else
          if (0 ≤ x2 ∧ x2 < 3) then
            if (0 ≤ v903 ∧ v903 < 3) then
              L_X2_lead_r7_2 N n y1 (mw (x2 + 1)) (mup s902 70 0 v903.toNat (mw (-(s902 67 0 x2.toNat))))
            else none
          else none
      else none
    else none := rfl
noncomputable def f_X2_lead_r7 (N : Nat) (q1 : Nat) (σ : mS) : Option (mS) :=
  Option.bind (L_X2_lead_r7_2 N N q1 0 σ) fun s907 =>
  some s907
noncomputable def f_X2_isLedTo (N : Nat) (a1 : Int) (a2 : Int) (a3 : Int) (σ : mS) : Option (Int × mS) :=
  if (σ 70 0 0) = a1 then
    if (σ 70 0 1) = a2 then
      if (σ 70 0 2) = a3 then
        some ((1 : Int), σ)
      else
        some ((0 : Int), σ)
    else
      some ((0 : Int), σ)
  else
    some ((0 : Int), σ)
noncomputable def L_X2_isLedKnown_2 (N : Nat) (n : Nat) : Int → mS → Option ((Int × mS) ⊕ (mS)) := @Nat.rec (fun _ => Int → mS → Option ((Int × mS) ⊕ (mS))) (fun _ _ => none) (fun n ih x1 σ =>
  if (σ 66 0 0) ≤ x1 then
    some (.inr σ)
  else
    if (0 ≤ x1 ∧ x1 < 48) then
      Option.bind (f_X2_isLedTo N (σ 69 x1.toNat 0) (σ 69 x1.toNat 1) (σ 69 x1.toNat 2) σ) fun ⟨v914, s913⟩ =>
      if v914 = 0 then
        ih (mw (x1 + 1)) s913
      else
        some (.inl ((1 : Int), s913))
    else none
  ) n
theorem L_X2_isLedKnown_2_s (N n : Nat) (x1 : Int) (σ : mS) : L_X2_isLedKnown_2 N (n + 1) x1 σ =
  if (σ 66 0 0) ≤ x1 then
    some (.inr σ)
  else
    if (0 ≤ x1 ∧ x1 < 48) then
      Option.bind (f_X2_isLedTo N (σ 69 x1.toNat 0) (σ 69 x1.toNat 1) (σ 69 x1.toNat 2) σ) fun ⟨v914, s913⟩ =>
      if v914 = 0 then
        L_X2_isLedKnown_2 N n (mw (x1 + 1)) s913
      else
        some (.inl ((1 : Int), s913))
    else none := rfl
noncomputable def f_X2_isLedKnown (N : Nat) (σ : mS) : Option (Int × mS) :=
  Option.bind (L_X2_isLedKnown_2 N N 0 σ) fun o => match o with
    | .inl (v920, s921) => some (v920, s921)
    | .inr s918 =>
      some ((0 : Int), s918)
noncomputable def L_X2_find_35 (N : Nat) (n : Nat) : Int → mS → Option (mS) := @Nat.rec (fun _ => Int → mS → Option (mS)) (fun _ _ => none) (fun n ih x5 σ =>
  if (σ 5 0 0) ≤ x5 then
    some σ
  else
    if (0 ≤ x5 ∧ x5 < 48) then
      Option.bind (f_X2_lead_r7 N x5.toNat σ) fun s909 =>
      Option.bind (f_X2_isLedKnown N s909) fun ⟨v923, s922⟩ =>
      if v923 = 0 then
        if (48 : Int) ≤ (s922 66 0 0) then
          ih (mw (x5 + 1)) s922
        else
          if (0 ≤ (s922 66 0 0) ∧ (s922 66 0 0) < 48) then
            ih (mw (x5 + 1)) (mup (mcp s922 70 0 0 69 ((s922 66 0 0).toNat) 0 3) 66 0 0 (mw ((s922 66 0 0) + 1)))
          else none
      else
        ih (mw (x5 + 1)) s922
    else none
  ) n
theorem L_X2_find_35_s (N n : Nat) (x5 : Int) (σ : mS) : L_X2_find_35 N (n + 1) x5 σ =
  if (σ 5 0 0) ≤ x5 then
    some σ
  else
    if (0 ≤ x5 ∧ x5 < 48) then
      Option.bind (f_X2_lead_r7 N x5.toNat σ) fun s909 =>
      Option.bind (f_X2_isLedKnown N s909) fun ⟨v923, s922⟩ =>
      if v923 = 0 then
        if (48 : Int) ≤ (s922 66 0 0) then
          L_X2_find_35 N n (mw (x5 + 1)) s922
        else
          if (0 ≤ (s922 66 0 0) ∧ (s922 66 0 0) < 48) then
            L_X2_find_35 N n (mw (x5 + 1)) (mup (mcp s922 70 0 0 69 ((s922 66 0 0).toNat) 0 3) 66 0 0 (mw ((s922 66 0 0) + 1)))
          else none
      else
        L_X2_find_35 N n (mw (x5 + 1)) s922
    else none := rfl
noncomputable def f_X2_find (N : Nat) (a2 : Int) (a3 : Int) (a4 : Int) (σ : mS) : Option (mS) :=
  Option.bind (L_X2_find_35 N N 0 (mup (mup (mup (mup (mup σ 67 0 0 a2) 67 0 1 a3) 67 0 2 a4) 66 0 1 1) 66 0 0 0)) fun s929 =>
  some s929
noncomputable def f_X11_images (N : Nat) (a1 : Int) (a2 : Int) (a3 : Int) (σ : mS) : Option (Int × mS) :=
  Option.bind (f_X2_find N a1 a2 a3 σ) fun s931 =>
  some ((s931 66 0 0), s931)
noncomputable def f_X2_tell (N : Nat) (a1 : Int) (a2 : Int) (σ : mS) : Option (Int × mS) :=
  if a1 < 0 then
    some ((0 : Int), σ)
  else
    if (σ 66 0 0) ≤ a1 then
      some ((0 : Int), σ)
    else
      if a2 < 0 then
        some ((0 : Int), σ)
      else
        if (3 : Int) ≤ a2 then
          some ((0 : Int), σ)
        else
          if (0 ≤ a1 ∧ a1 < 48) ∧ (0 ≤ a2 ∧ a2 < 3) then
            some ((σ 69 a1.toNat a2.toNat), σ)
          else none
noncomputable def f_X11_image (N : Nat) (a1 : Int) (a2 : Int) (σ : mS) : Option (Int × mS) :=
  Option.bind (f_X2_tell N a1 a2 σ) fun ⟨v938, s937⟩ =>
  some (v938, s937)
noncomputable def L_X2_leastLeading_3 (N : Nat) (n : Nat) : Int → Int → Int → Int → mS → Option ((Int × mS) ⊕ (mS)) := @Nat.rec (fun _ => Int → Int → Int → Int → mS → Option ((Int × mS) ⊕ (mS))) (fun _ _ _ _ _ => none) (fun n ih x2 x3 x4 x5 σ =>
  if (σ 66 0 1) = 0 then
    some (.inr σ)
  else
    if (σ 5 0 0) ≤ x5 then
      some (.inr σ)
    else
      if (0 ≤ x5 ∧ x5 < 48) then
        Option.bind (f_X2_lead_r7 N x5.toNat σ) fun s940 =>
        Option.bind (f_X2_isLedTo N x2 x3 x4 s940) fun ⟨v942, s941⟩ =>
        if v942 = 0 then
          ih x2 x3 x4 (mw (x5 + 1)) s941
        else
          some (.inl (x5, s941))
      else none
  ) n
theorem L_X2_leastLeading_3_s (N n : Nat) (x2 : Int) (x3 : Int) (x4 : Int) (x5 : Int) (σ : mS) : L_X2_leastLeading_3 N (n + 1) x2 x3 x4 x5 σ =
  if (σ 66 0 1) = 0 then
    some (.inr σ)
  else
    if (σ 5 0 0) ≤ x5 then
      some (.inr σ)
    else
      if (0 ≤ x5 ∧ x5 < 48) then
        Option.bind (f_X2_lead_r7 N x5.toNat σ) fun s940 =>
        Option.bind (f_X2_isLedTo N x2 x3 x4 s940) fun ⟨v942, s941⟩ =>
        if v942 = 0 then
          L_X2_leastLeading_3 N n x2 x3 x4 (mw (x5 + 1)) s941
        else
          some (.inl (x5, s941))
      else none := rfl
noncomputable def f_X2_leastLeading (N : Nat) (a2 : Int) (a3 : Int) (a4 : Int) (σ : mS) : Option (Int × mS) :=
  Option.bind (L_X2_leastLeading_3 N N a2 a3 a4 0 σ) fun o => match o with
    | .inl (v950, s951) => some (v950, s951)
    | .inr s948 =>
      some ((-1 : Int), s948)
noncomputable def f_X11_leads (N : Nat) (a1 : Int) (a2 : Int) (a3 : Int) (σ : mS) : Option (Int × mS) :=
  Option.bind (f_X2_leastLeading N a1 a2 a3 σ) fun ⟨v953, s952⟩ =>
  some (v953, s952)
noncomputable def f_X12_isCode (N : Nat) (a0 : Int) (σ : mS) : Option (Int × mS) :=
  if a0 < (-3 : Int) then
    some ((0 : Int), σ)
  else
    if (3 : Int) < a0 then
      some ((0 : Int), σ)
    else
      if a0 = 0 then
        some ((0 : Int), σ)
      else
        some ((1 : Int), σ)
noncomputable def f_X12_isIn (N : Nat) (a0 : Int) (a1 : Int) (a2 : Int) (σ : mS) : Option (Int × mS) :=
  if a0 < a1 then
    some ((0 : Int), σ)
  else
    if a2 < a0 then
      some ((0 : Int), σ)
    else
      some ((1 : Int), σ)
noncomputable def f_X12_size (N : Nat) (a0 : Int) (σ : mS) : Option (Int × mS) :=
  if 0 ≤ a0 then
    some (a0, σ)
  else
    some ((mw (-a0)), σ)
noncomputable def f_X12_turn (N : Nat) (a1 : Int) (a2 : Int) (a3 : Int) (a4 : Int) (σ : mS) : Option (Int × mS) :=
  Option.bind (f_X12_isCode N a2 σ) fun ⟨v959, s958⟩ =>
  if v959 = 0 then
    Option.bind (f_X12_isIn N a1 0 3 s958) fun ⟨v963, s962⟩ =>
    if v963 = 0 then
      some ((0 : Int), s962)
    else
      if (0 : Int) = 0 then
        some ((0 : Int), s962)
      else
        if (0 ≤ a1 ∧ a1 < 4) ∧ (0 ≤ (mw ((3 : Int) * a1)) ∧ (mw ((3 : Int) * a1)) < 12) ∧ (0 ≤ (mw ((mw ((3 : Int) * a1)) + 1)) ∧ (mw ((mw ((3 : Int) * a1)) + 1)) < 12) ∧ (0 ≤ (mw ((mw ((3 : Int) * a1)) + 2)) ∧ (mw ((mw ((3 : Int) * a1)) + 2)) < 12) then
          some ((1 : Int), (mup (mup (mup (mup s962 72 0 a1.toNat 1) 73 0 ((mw ((3 : Int) * a1)).toNat) a2) 73 0 ((mw ((mw ((3 : Int) * a1)) + 1)).toNat) a3) 73 0 ((mw ((mw ((3 : Int) * a1)) + 2)).toNat) a4))
        else none
  else
    Option.bind (f_X12_isCode N a3 s958) fun ⟨v968, s967⟩ =>
    if v968 = 0 then
      Option.bind (f_X12_isIn N a1 0 3 s967) fun ⟨v970, s969⟩ =>
      if v970 = 0 then
        some ((0 : Int), s969)
      else
        if (0 : Int) = 0 then
          some ((0 : Int), s969)
        else
          if (0 ≤ a1 ∧ a1 < 4) ∧ (0 ≤ (mw ((3 : Int) * a1)) ∧ (mw ((3 : Int) * a1)) < 12) ∧ (0 ≤ (mw ((mw ((3 : Int) * a1)) + 1)) ∧ (mw ((mw ((3 : Int) * a1)) + 1)) < 12) ∧ (0 ≤ (mw ((mw ((3 : Int) * a1)) + 2)) ∧ (mw ((mw ((3 : Int) * a1)) + 2)) < 12) then
            some ((1 : Int), (mup (mup (mup (mup s969 72 0 a1.toNat 1) 73 0 ((mw ((3 : Int) * a1)).toNat) a2) 73 0 ((mw ((mw ((3 : Int) * a1)) + 1)).toNat) a3) 73 0 ((mw ((mw ((3 : Int) * a1)) + 2)).toNat) a4))
          else none
    else
      Option.bind (f_X12_isCode N a4 s967) fun ⟨v975, s974⟩ =>
      if v975 = 0 then
        Option.bind (f_X12_isIn N a1 0 3 s974) fun ⟨v977, s976⟩ =>
        if v977 = 0 then
          some ((0 : Int), s976)
        else
          if (0 : Int) = 0 then
            some ((0 : Int), s976)
          else
            if (0 ≤ a1 ∧ a1 < 4) ∧ (0 ≤ (mw ((3 : Int) * a1)) ∧ (mw ((3 : Int) * a1)) < 12) ∧ (0 ≤ (mw ((mw ((3 : Int) * a1)) + 1)) ∧ (mw ((mw ((3 : Int) * a1)) + 1)) < 12) ∧ (0 ≤ (mw ((mw ((3 : Int) * a1)) + 2)) ∧ (mw ((mw ((3 : Int) * a1)) + 2)) < 12) then
              some ((1 : Int), (mup (mup (mup (mup s976 72 0 a1.toNat 1) 73 0 ((mw ((3 : Int) * a1)).toNat) a2) 73 0 ((mw ((mw ((3 : Int) * a1)) + 1)).toNat) a3) 73 0 ((mw ((mw ((3 : Int) * a1)) + 2)).toNat) a4))
            else none
      else
        Option.bind (f_X12_size N a2 s974) fun ⟨v983, s982⟩ =>
        Option.bind (f_X12_size N a3 s982) fun ⟨v985, s984⟩ =>
        if v983 = v985 then
          Option.bind (f_X12_isIn N a1 0 3 s984) fun ⟨v987, s986⟩ =>
          if v987 = 0 then
            some ((0 : Int), s986)
          else
            if (0 : Int) = 0 then
              some ((0 : Int), s986)
            else
              if (0 ≤ a1 ∧ a1 < 4) ∧ (0 ≤ (mw ((3 : Int) * a1)) ∧ (mw ((3 : Int) * a1)) < 12) ∧ (0 ≤ (mw ((mw ((3 : Int) * a1)) + 1)) ∧ (mw ((mw ((3 : Int) * a1)) + 1)) < 12) ∧ (0 ≤ (mw ((mw ((3 : Int) * a1)) + 2)) ∧ (mw ((mw ((3 : Int) * a1)) + 2)) < 12) then
                some ((1 : Int), (mup (mup (mup (mup s986 72 0 a1.toNat 1) 73 0 ((mw ((3 : Int) * a1)).toNat) a2) 73 0 ((mw ((mw ((3 : Int) * a1)) + 1)).toNat) a3) 73 0 ((mw ((mw ((3 : Int) * a1)) + 2)).toNat) a4))
              else none
        else
          Option.bind (f_X12_size N a3 s984) fun ⟨v992, s991⟩ =>
          Option.bind (f_X12_size N a4 s991) fun ⟨v994, s993⟩ =>
          if v992 = v994 then
            Option.bind (f_X12_isIn N a1 0 3 s993) fun ⟨v996, s995⟩ =>
            if v996 = 0 then
              some ((0 : Int), s995)
            else
              if (0 : Int) = 0 then
                some ((0 : Int), s995)
              else
                if (0 ≤ a1 ∧ a1 < 4) ∧ (0 ≤ (mw ((3 : Int) * a1)) ∧ (mw ((3 : Int) * a1)) < 12) ∧ (0 ≤ (mw ((mw ((3 : Int) * a1)) + 1)) ∧ (mw ((mw ((3 : Int) * a1)) + 1)) < 12) ∧ (0 ≤ (mw ((mw ((3 : Int) * a1)) + 2)) ∧ (mw ((mw ((3 : Int) * a1)) + 2)) < 12) then
                  some ((1 : Int), (mup (mup (mup (mup s995 72 0 a1.toNat 1) 73 0 ((mw ((3 : Int) * a1)).toNat) a2) 73 0 ((mw ((mw ((3 : Int) * a1)) + 1)).toNat) a3) 73 0 ((mw ((mw ((3 : Int) * a1)) + 2)).toNat) a4))
                else none
          else
            Option.bind (f_X12_size N a2 s993) fun ⟨v1001, s1000⟩ =>
            Option.bind (f_X12_size N a4 s1000) fun ⟨v1003, s1002⟩ =>
            if v1001 = v1003 then
              Option.bind (f_X12_isIn N a1 0 3 s1002) fun ⟨v1005, s1004⟩ =>
              if v1005 = 0 then
                some ((0 : Int), s1004)
              else
                if (0 : Int) = 0 then
                  some ((0 : Int), s1004)
                else
                  if (0 ≤ a1 ∧ a1 < 4) ∧ (0 ≤ (mw ((3 : Int) * a1)) ∧ (mw ((3 : Int) * a1)) < 12) ∧ (0 ≤ (mw ((mw ((3 : Int) * a1)) + 1)) ∧ (mw ((mw ((3 : Int) * a1)) + 1)) < 12) ∧ (0 ≤ (mw ((mw ((3 : Int) * a1)) + 2)) ∧ (mw ((mw ((3 : Int) * a1)) + 2)) < 12) then
                    some ((1 : Int), (mup (mup (mup (mup s1004 72 0 a1.toNat 1) 73 0 ((mw ((3 : Int) * a1)).toNat) a2) 73 0 ((mw ((mw ((3 : Int) * a1)) + 1)).toNat) a3) 73 0 ((mw ((mw ((3 : Int) * a1)) + 2)).toNat) a4))
                  else none
            else
              Option.bind (f_X12_isIn N a1 0 3 s1002) fun ⟨v1010, s1009⟩ =>
              if v1010 = 0 then
                some ((0 : Int), s1009)
              else
                if (1 : Int) = 0 then
                  some ((0 : Int), s1009)
                else
                  if (0 ≤ a1 ∧ a1 < 4) ∧ (0 ≤ (mw ((3 : Int) * a1)) ∧ (mw ((3 : Int) * a1)) < 12) ∧ (0 ≤ (mw ((mw ((3 : Int) * a1)) + 1)) ∧ (mw ((mw ((3 : Int) * a1)) + 1)) < 12) ∧ (0 ≤ (mw ((mw ((3 : Int) * a1)) + 2)) ∧ (mw ((mw ((3 : Int) * a1)) + 2)) < 12) then
                    some ((1 : Int), (mup (mup (mup (mup s1009 72 0 a1.toNat 1) 73 0 ((mw ((3 : Int) * a1)).toNat) a2) 73 0 ((mw ((mw ((3 : Int) * a1)) + 1)).toNat) a3) 73 0 ((mw ((mw ((3 : Int) * a1)) + 2)).toNat) a4))
                  else none
noncomputable def f_X12_drop (N : Nat) (a1 : Int) (σ : mS) : Option (Int × mS) :=
  Option.bind (f_X12_isIn N a1 0 3 σ) fun ⟨v1030, s1029⟩ =>
  if v1030 = 0 then
    some ((0 : Int), s1029)
  else
    if (0 ≤ a1 ∧ a1 < 4) then
      if (s1029 72 0 a1.toNat) = 0 then
        some ((0 : Int), s1029)
      else
        if (0 ≤ a1 ∧ a1 < 4) then
          some ((1 : Int), (mup s1029 72 0 a1.toNat 0))
        else none
    else none
noncomputable def f_X12_then (N : Nat) (a0 : Int) (a1 : Int) (a2 : Int) (a3 : Int) (σ : mS) : Option (Int × mS) :=
  Option.bind (f_X12_size N a0 σ) fun ⟨v1041, s1040⟩ =>
  if v1041 = (1 : Int) then
    if 0 ≤ a0 then
      some (a1, s1040)
    else
      some ((mw (-a1)), s1040)
  else
    Option.bind (f_X12_size N a0 s1040) fun ⟨v1043, s1042⟩ =>
    if v1043 = (2 : Int) then
      if 0 ≤ a0 then
        some (a2, s1042)
      else
        some ((mw (-a2)), s1042)
    else
      if 0 ≤ a0 then
        some (a3, s1042)
      else
        some ((mw (-a3)), s1042)
noncomputable def L_X12_find_3 (N : Nat) (n : Nat) : Int → Int → Int → Int → mS → Option ((Int × mS) ⊕ (mS)) := @Nat.rec (fun _ => Int → Int → Int → Int → mS → Option ((Int × mS) ⊕ (mS))) (fun _ _ _ _ _ => none) (fun n ih x1 x2 x3 x4 σ =>
  if (σ 71 0 6) ≤ x4 then
    some (.inr σ)
  else
    if (0 ≤ (mw ((3 : Int) * x4)) ∧ (mw ((3 : Int) * x4)) < 144) then
      if (σ 74 0 ((mw ((3 : Int) * x4)).toNat)) = x1 then
        if (0 ≤ (mw ((mw ((3 : Int) * x4)) + 1)) ∧ (mw ((mw ((3 : Int) * x4)) + 1)) < 144) then
          if (σ 74 0 ((mw ((mw ((3 : Int) * x4)) + 1)).toNat)) = x2 then
            if (0 ≤ (mw ((mw ((3 : Int) * x4)) + 2)) ∧ (mw ((mw ((3 : Int) * x4)) + 2)) < 144) then
              if (σ 74 0 ((mw ((mw ((3 : Int) * x4)) + 2)).toNat)) = x3 then
                some (.inl (x4, σ))
              else
                ih x1 x2 x3 (mw (x4 + 1)) σ
            else none
          else
            ih x1 x2 x3 (mw (x4 + 1)) σ
        else none
      else
        ih x1 x2 x3 (mw (x4 + 1)) σ
    else none
  ) n
theorem L_X12_find_3_s (N n : Nat) (x1 : Int) (x2 : Int) (x3 : Int) (x4 : Int) (σ : mS) : L_X12_find_3 N (n + 1) x1 x2 x3 x4 σ =
  if (σ 71 0 6) ≤ x4 then
    some (.inr σ)
  else
    if (0 ≤ (mw ((3 : Int) * x4)) ∧ (mw ((3 : Int) * x4)) < 144) then
      if (σ 74 0 ((mw ((3 : Int) * x4)).toNat)) = x1 then
        if (0 ≤ (mw ((mw ((3 : Int) * x4)) + 1)) ∧ (mw ((mw ((3 : Int) * x4)) + 1)) < 144) then
          if (σ 74 0 ((mw ((mw ((3 : Int) * x4)) + 1)).toNat)) = x2 then
            if (0 ≤ (mw ((mw ((3 : Int) * x4)) + 2)) ∧ (mw ((mw ((3 : Int) * x4)) + 2)) < 144) then
              if (σ 74 0 ((mw ((mw ((3 : Int) * x4)) + 2)).toNat)) = x3 then
                some (.inl (x4, σ))
              else
                L_X12_find_3 N n x1 x2 x3 (mw (x4 + 1)) σ
            else none
          else
            L_X12_find_3 N n x1 x2 x3 (mw (x4 + 1)) σ
        else none
      else
        L_X12_find_3 N n x1 x2 x3 (mw (x4 + 1)) σ
    else none := rfl
noncomputable def f_X12_find (N : Nat) (a1 : Int) (a2 : Int) (a3 : Int) (σ : mS) : Option (Int × mS) :=
  Option.bind (L_X12_find_3 N N a1 a2 a3 0 σ) fun o => match o with
    | .inl (v1063, s1064) => some (v1063, s1064)
    | .inr s1061 =>
      some ((-1 : Int), s1061)
noncomputable def f_X12_product (N : Nat) (a1 : Int) (a2 : Int) (σ : mS) : Option (Int × mS) :=
  if (0 ≤ (mw ((3 : Int) * a1)) ∧ (mw ((3 : Int) * a1)) < 144) ∧ (0 ≤ (mw ((3 : Int) * a2)) ∧ (mw ((3 : Int) * a2)) < 144) ∧ (0 ≤ (mw ((mw ((3 : Int) * a2)) + 1)) ∧ (mw ((mw ((3 : Int) * a2)) + 1)) < 144) ∧ (0 ≤ (mw ((mw ((3 : Int) * a2)) + 2)) ∧ (mw ((mw ((3 : Int) * a2)) + 2)) < 144) then
    Option.bind (f_X12_then N (σ 74 0 ((mw ((3 : Int) * a1)).toNat)) (σ 74 0 ((mw ((3 : Int) * a2)).toNat)) (σ 74 0 ((mw ((mw ((3 : Int) * a2)) + 1)).toNat)) (σ 74 0 ((mw ((mw ((3 : Int) * a2)) + 2)).toNat)) σ) fun ⟨v1080, s1079⟩ =>
    if (0 ≤ (mw ((mw ((3 : Int) * a1)) + 1)) ∧ (mw ((mw ((3 : Int) * a1)) + 1)) < 144) ∧ (0 ≤ (mw ((3 : Int) * a2)) ∧ (mw ((3 : Int) * a2)) < 144) ∧ (0 ≤ (mw ((mw ((3 : Int) * a2)) + 1)) ∧ (mw ((mw ((3 : Int) * a2)) + 1)) < 144) ∧ (0 ≤ (mw ((mw ((3 : Int) * a2)) + 2)) ∧ (mw ((mw ((3 : Int) * a2)) + 2)) < 144) then
      Option.bind (f_X12_then N (s1079 74 0 ((mw ((mw ((3 : Int) * a1)) + 1)).toNat)) (s1079 74 0 ((mw ((3 : Int) * a2)).toNat)) (s1079 74 0 ((mw ((mw ((3 : Int) * a2)) + 1)).toNat)) (s1079 74 0 ((mw ((mw ((3 : Int) * a2)) + 2)).toNat)) s1079) fun ⟨v1082, s1081⟩ =>
      if (0 ≤ (mw ((mw ((3 : Int) * a1)) + 2)) ∧ (mw ((mw ((3 : Int) * a1)) + 2)) < 144) ∧ (0 ≤ (mw ((3 : Int) * a2)) ∧ (mw ((3 : Int) * a2)) < 144) ∧ (0 ≤ (mw ((mw ((3 : Int) * a2)) + 1)) ∧ (mw ((mw ((3 : Int) * a2)) + 1)) < 144) ∧ (0 ≤ (mw ((mw ((3 : Int) * a2)) + 2)) ∧ (mw ((mw ((3 : Int) * a2)) + 2)) < 144) then
        Option.bind (f_X12_then N (s1081 74 0 ((mw ((mw ((3 : Int) * a1)) + 2)).toNat)) (s1081 74 0 ((mw ((3 : Int) * a2)).toNat)) (s1081 74 0 ((mw ((mw ((3 : Int) * a2)) + 1)).toNat)) (s1081 74 0 ((mw ((mw ((3 : Int) * a2)) + 2)).toNat)) s1081) fun ⟨v1084, s1083⟩ =>
        Option.bind (f_X12_find N v1080 v1082 v1084 s1083) fun ⟨v1086, s1085⟩ =>
        some (v1086, s1085)
      else none
    else none
  else none
noncomputable def L_X12_back_2 (N : Nat) (n : Nat) : Int → Int → mS → Option (Int × mS) := @Nat.rec (fun _ => Int → Int → mS → Option (Int × mS)) (fun _ _ _ => none) (fun n ih x1 x2 σ =>
  Option.bind (f_X12_product N x1 x2 σ) fun ⟨v1094, s1093⟩ =>
  if v1094 = 0 then
    some (x2, s1093)
  else
    ih x1 (mw (x2 + 1)) s1093
  ) n
theorem L_X12_back_2_s (N n : Nat) (x1 : Int) (x2 : Int) (σ : mS) : L_X12_back_2 N (n + 1) x1 x2 σ =
  Option.bind (f_X12_product N x1 x2 σ) fun ⟨v1094, s1093⟩ =>
  if v1094 = 0 then
    some (x2, s1093)
  else
    L_X12_back_2 N n x1 (mw (x2 + 1)) s1093 := rfl
noncomputable def f_X12_back (N : Nat) (a1 : Int) (σ : mS) : Option (Int × mS) :=
  Option.bind (L_X12_back_2 N N a1 0 σ) fun ⟨o1098, s1097⟩ =>
  some (o1098, s1097)
noncomputable def L_X12_isAhead_2 (N : Nat) (n : Nat) : Int → Int → Int → mS → Option (Int × mS) := @Nat.rec (fun _ => Int → Int → Int → mS → Option (Int × mS)) (fun _ _ _ _ => none) (fun n ih x1 x2 x3 σ =>
  if (σ 71 0 6) ≤ x3 then
    some (x3, σ)
  else
    if (0 ≤ (mw ((mw ((48 : Int) * x1)) + x3)) ∧ (mw ((mw ((48 : Int) * x1)) + x3)) < 768) ∧ (0 ≤ (mw ((mw ((48 : Int) * x2)) + x3)) ∧ (mw ((mw ((48 : Int) * x2)) + x3)) < 768) then
      if (σ 79 0 ((mw ((mw ((48 : Int) * x1)) + x3)).toNat)) = (σ 79 0 ((mw ((mw ((48 : Int) * x2)) + x3)).toNat)) then
        ih x1 x2 (mw (x3 + 1)) σ
      else
        some (x3, σ)
    else none
  ) n
theorem L_X12_isAhead_2_s (N n : Nat) (x1 : Int) (x2 : Int) (x3 : Int) (σ : mS) : L_X12_isAhead_2 N (n + 1) x1 x2 x3 σ =
  if (σ 71 0 6) ≤ x3 then
    some (x3, σ)
  else
    if (0 ≤ (mw ((mw ((48 : Int) * x1)) + x3)) ∧ (mw ((mw ((48 : Int) * x1)) + x3)) < 768) ∧ (0 ≤ (mw ((mw ((48 : Int) * x2)) + x3)) ∧ (mw ((mw ((48 : Int) * x2)) + x3)) < 768) then
      if (σ 79 0 ((mw ((mw ((48 : Int) * x1)) + x3)).toNat)) = (σ 79 0 ((mw ((mw ((48 : Int) * x2)) + x3)).toNat)) then
        L_X12_isAhead_2 N n x1 x2 (mw (x3 + 1)) σ
      else
        some (x3, σ)
    else none := rfl
noncomputable def f_X12_isAhead (N : Nat) (a1 : Int) (a2 : Int) (σ : mS) : Option (Int × mS) :=
  Option.bind (L_X12_isAhead_2 N N a1 a2 0 σ) fun ⟨o1148, s1147⟩ =>
  if (s1147 71 0 6) ≤ o1148 then
    some ((0 : Int), s1147)
  else
    if (0 ≤ (mw ((mw ((48 : Int) * a1)) + o1148)) ∧ (mw ((mw ((48 : Int) * a1)) + o1148)) < 768) then
      if (s1147 79 0 ((mw ((mw ((48 : Int) * a1)) + o1148)).toNat)) = (1 : Int) then
        some ((1 : Int), s1147)
      else
        some ((0 : Int), s1147)
    else none
noncomputable def L_X12_place_22 (N : Nat) (n : Nat) : Int → Int → mS → Option (mS) := @Nat.rec (fun _ => Int → Int → mS → Option (mS)) (fun _ _ _ => none) (fun n ih x1 x2 σ =>
  if (σ 71 0 6) ≤ x2 then
    some σ
  else
    if (0 ≤ (mw ((mw ((48 : Int) * x1)) + x2)) ∧ (mw ((mw ((48 : Int) * x1)) + x2)) < 768) ∧ (0 ≤ (mw ((mw ((mw ((48 : Int) * x1)) - 48)) + x2)) ∧ (mw ((mw ((mw ((48 : Int) * x1)) - 48)) + x2)) < 768) then
      ih x1 (mw (x2 + 1)) (mup (mup σ 79 0 ((mw ((mw ((48 : Int) * x1)) + x2)).toNat) (σ 79 0 ((mw ((mw ((mw ((48 : Int) * x1)) - 48)) + x2)).toNat))) 79 0 ((mw ((mw ((mw ((48 : Int) * x1)) - 48)) + x2)).toNat) (σ 79 0 ((mw ((mw ((48 : Int) * x1)) + x2)).toNat)))
    else none
  ) n
theorem L_X12_place_22_s (N n : Nat) (x1 : Int) (x2 : Int) (σ : mS) : L_X12_place_22 N (n + 1) x1 x2 σ =
  if (σ 71 0 6) ≤ x2 then
    some σ
  else
    if (0 ≤ (mw ((mw ((48 : Int) * x1)) + x2)) ∧ (mw ((mw ((48 : Int) * x1)) + x2)) < 768) ∧ (0 ≤ (mw ((mw ((mw ((48 : Int) * x1)) - 48)) + x2)) ∧ (mw ((mw ((mw ((48 : Int) * x1)) - 48)) + x2)) < 768) then
      L_X12_place_22 N n x1 (mw (x2 + 1)) (mup (mup σ 79 0 ((mw ((mw ((48 : Int) * x1)) + x2)).toNat) (σ 79 0 ((mw ((mw ((mw ((48 : Int) * x1)) - 48)) + x2)).toNat))) 79 0 ((mw ((mw ((mw ((48 : Int) * x1)) - 48)) + x2)).toNat) (σ 79 0 ((mw ((mw ((48 : Int) * x1)) + x2)).toNat)))
    else none := rfl
noncomputable def L_X12_place_5 (N : Nat) (n : Nat) : Int → mS → Option (mS) := @Nat.rec (fun _ => Int → mS → Option (mS)) (fun _ _ => none) (fun n ih x1 σ =>
  if x1 ≤ 0 then
    some σ
  else
    Option.bind (f_X12_isAhead N x1 (mw (x1 - 1)) σ) fun ⟨v1153, s1152⟩ =>
    if v1153 = 0 then
      some s1152
    else
      Option.bind (L_X12_place_22 N N x1 0 s1152) fun s1155 =>
      ih (mw (x1 + (-1))) s1155
  ) n
theorem L_X12_place_5_s (N n : Nat) (x1 : Int) (σ : mS) : L_X12_place_5 N (n + 1) x1 σ =
  if x1 ≤ 0 then
    some σ
  else
    Option.bind (f_X12_isAhead N x1 (mw (x1 - 1)) σ) fun ⟨v1153, s1152⟩ =>
    if v1153 = 0 then
      some s1152
    else
      Option.bind (L_X12_place_22 N N x1 0 s1152) fun s1155 =>
      L_X12_place_5 N n (mw (x1 + (-1))) s1155 := rfl
noncomputable def f_X12_place (N : Nat) (σ : mS) : Option (mS) :=
  Option.bind (L_X12_place_5 N N (σ 71 0 11) σ) fun s1160 =>
  some (mup s1160 71 0 11 (mw ((s1160 71 0 11) + 1)))
noncomputable def L_X12_findSigns_34 (N : Nat) (n : Nat) : Int → Int → Int → mS → Option (mS) := @Nat.rec (fun _ => Int → Int → Int → mS → Option (mS)) (fun _ _ _ _ => none) (fun n ih x1 x2 x3 σ =>
  if (σ 71 0 6) ≤ x3 then
    some σ
  else
    if (0 ≤ x3 ∧ x3 < 48) ∧ (0 ≤ (mw (x2 + (σ 75 0 x3.toNat))) ∧ (mw (x2 + (σ 75 0 x3.toNat))) < 768) then
      if (o_and (o_shr x1 (σ 76 0 x3.toNat)) 1) = (1 : Int) then
        if (0 ≤ (mw (x2 + x3)) ∧ (mw (x2 + x3)) < 768) then
          ih x1 x2 (mw (x3 + 1)) (mup σ 79 0 ((mw (x2 + x3)).toNat) (mw ((σ 79 0 ((mw (x2 + (σ 75 0 x3.toNat))).toNat)) * (-1))))
        else none
      else
        if (0 ≤ (mw (x2 + x3)) ∧ (mw (x2 + x3)) < 768) then
          ih x1 x2 (mw (x3 + 1)) (mup σ 79 0 ((mw (x2 + x3)).toNat) (mw ((σ 79 0 ((mw (x2 + (σ 75 0 x3.toNat))).toNat)) * 1)))
        else none
    else none
  ) n
theorem L_X12_findSigns_34_s (N n : Nat) (x1 : Int) (x2 : Int) (x3 : Int) (σ : mS) : L_X12_findSigns_34 N (n + 1) x1 x2 x3 σ =
  if (σ 71 0 6) ≤ x3 then
    some σ
  else
    if (0 ≤ x3 ∧ x3 < 48) ∧ (0 ≤ (mw (x2 + (σ 75 0 x3.toNat))) ∧ (mw (x2 + (σ 75 0 x3.toNat))) < 768) then
      if (o_and (o_shr x1 (σ 76 0 x3.toNat)) 1) = (1 : Int) then
        if (0 ≤ (mw (x2 + x3)) ∧ (mw (x2 + x3)) < 768) then
          L_X12_findSigns_34 N n x1 x2 (mw (x3 + 1)) (mup σ 79 0 ((mw (x2 + x3)).toNat) (mw ((σ 79 0 ((mw (x2 + (σ 75 0 x3.toNat))).toNat)) * (-1))))
        else none
      else
        if (0 ≤ (mw (x2 + x3)) ∧ (mw (x2 + x3)) < 768) then
          L_X12_findSigns_34 N n x1 x2 (mw (x3 + 1)) (mup σ 79 0 ((mw (x2 + x3)).toNat) (mw ((σ 79 0 ((mw (x2 + (σ 75 0 x3.toNat))).toNat)) * 1)))
        else none
    else none := rfl
noncomputable def L_X12_findSigns_147 (N : Nat) (n : Nat) : Int → Int → Int → Int → Int → Int → mS → Option (Int × mS) := @Nat.rec (fun _ => Int → Int → Int → Int → Int → Int → mS → Option (Int × mS)) (fun _ _ _ _ _ _ _ => none) (fun n ih x1 x2 x3 x4 x5 x6 σ =>
  if (σ 71 0 6) ≤ x6 then
    some (x3, σ)
  else
    if x3 = 0 then
      some (x3, σ)
    else
      Option.bind (f_X12_product N x6 x5 σ) fun ⟨v1119, s1118⟩ =>
      if (0 ≤ (mw (x2 + v1119)) ∧ (mw (x2 + v1119)) < 768) ∧ (0 ≤ (mw (x2 + x6)) ∧ (mw (x2 + x6)) < 768) then
        if (o_and (o_shr x1 x4) 1) = (1 : Int) then
          if (s1118 79 0 ((mw (x2 + v1119)).toNat)) = (mw ((s1118 79 0 ((mw (x2 + x6)).toNat)) * (-1))) then
            ih x1 x2 1 x4 x5 (mw (x6 + 1)) s1118
          else
            ih x1 x2 0 x4 x5 (mw (x6 + 1)) s1118
        else
          if (s1118 79 0 ((mw (x2 + v1119)).toNat)) = (mw ((s1118 79 0 ((mw (x2 + x6)).toNat)) * 1)) then
            ih x1 x2 1 x4 x5 (mw (x6 + 1)) s1118
          else
            ih x1 x2 0 x4 x5 (mw (x6 + 1)) s1118
      else none
  ) n
theorem L_X12_findSigns_147_s (N n : Nat) (x1 : Int) (x2 : Int) (x3 : Int) (x4 : Int) (x5 : Int) (x6 : Int) (σ : mS) : L_X12_findSigns_147 N (n + 1) x1 x2 x3 x4 x5 x6 σ =
  if (σ 71 0 6) ≤ x6 then
    some (x3, σ)
  else
    if x3 = 0 then
      some (x3, σ)
    else
      Option.bind (f_X12_product N x6 x5 σ) fun ⟨v1119, s1118⟩ =>
      if (0 ≤ (mw (x2 + v1119)) ∧ (mw (x2 + v1119)) < 768) ∧ (0 ≤ (mw (x2 + x6)) ∧ (mw (x2 + x6)) < 768) then
        if (o_and (o_shr x1 x4) 1) = (1 : Int) then
          if (s1118 79 0 ((mw (x2 + v1119)).toNat)) = (mw ((s1118 79 0 ((mw (x2 + x6)).toNat)) * (-1))) then
            L_X12_findSigns_147 N n x1 x2 1 x4 x5 (mw (x6 + 1)) s1118
          else
            L_X12_findSigns_147 N n x1 x2 0 x4 x5 (mw (x6 + 1)) s1118
        else
          if (s1118 79 0 ((mw (x2 + v1119)).toNat)) = (mw ((s1118 79 0 ((mw (x2 + x6)).toNat)) * 1)) then
            L_X12_findSigns_147 N n x1 x2 1 x4 x5 (mw (x6 + 1)) s1118
          else
            L_X12_findSigns_147 N n x1 x2 0 x4 x5 (mw (x6 + 1)) s1118
      else none := rfl
noncomputable def L_X12_findSigns_94 (N : Nat) (n : Nat) : Int → Int → Int → Int → mS → Option (Int × mS) := @Nat.rec (fun _ => Int → Int → Int → Int → mS → Option (Int × mS)) (fun _ _ _ _ _ => none) (fun n ih x1 x2 x3 x4 σ =>
  if (σ 71 0 7) ≤ x4 then
    some (x3, σ)
  else
    if x3 = 0 then
      some (x3, σ)
    else
      if (0 ≤ (mw ((3 : Int) * x4)) ∧ (mw ((3 : Int) * x4)) < 12) ∧ (0 ≤ (mw ((mw ((3 : Int) * x4)) + 1)) ∧ (mw ((mw ((3 : Int) * x4)) + 1)) < 12) ∧ (0 ≤ (mw ((mw ((3 : Int) * x4)) + 2)) ∧ (mw ((mw ((3 : Int) * x4)) + 2)) < 12) then
        Option.bind (f_X12_find N (σ 77 0 ((mw ((3 : Int) * x4)).toNat)) (σ 77 0 ((mw ((mw ((3 : Int) * x4)) + 1)).toNat)) (σ 77 0 ((mw ((mw ((3 : Int) * x4)) + 2)).toNat)) σ) fun ⟨v1117, s1116⟩ =>
        Option.bind (L_X12_findSigns_147 N N x1 x2 x3 x4 v1117 0 s1116) fun ⟨o1127, s1126⟩ =>
        ih x1 x2 o1127 (mw (x4 + 1)) s1126
      else none
  ) n
theorem L_X12_findSigns_94_s (N n : Nat) (x1 : Int) (x2 : Int) (x3 : Int) (x4 : Int) (σ : mS) : L_X12_findSigns_94 N (n + 1) x1 x2 x3 x4 σ =
  if (σ 71 0 7) ≤ x4 then
    some (x3, σ)
  else
    if x3 = 0 then
      some (x3, σ)
    else
      if (0 ≤ (mw ((3 : Int) * x4)) ∧ (mw ((3 : Int) * x4)) < 12) ∧ (0 ≤ (mw ((mw ((3 : Int) * x4)) + 1)) ∧ (mw ((mw ((3 : Int) * x4)) + 1)) < 12) ∧ (0 ≤ (mw ((mw ((3 : Int) * x4)) + 2)) ∧ (mw ((mw ((3 : Int) * x4)) + 2)) < 12) then
        Option.bind (f_X12_find N (σ 77 0 ((mw ((3 : Int) * x4)).toNat)) (σ 77 0 ((mw ((mw ((3 : Int) * x4)) + 1)).toNat)) (σ 77 0 ((mw ((mw ((3 : Int) * x4)) + 2)).toNat)) σ) fun ⟨v1117, s1116⟩ =>
        Option.bind (L_X12_findSigns_147 N N x1 x2 x3 x4 v1117 0 s1116) fun ⟨o1127, s1126⟩ =>
        L_X12_findSigns_94 N n x1 x2 o1127 (mw (x4 + 1)) s1126
      else none := rfl
noncomputable def L_X12_findSigns_243 (N : Nat) (n : Nat) : Int → Int → Int → Int → Int → mS → Option (Int × mS) := @Nat.rec (fun _ => Int → Int → Int → Int → Int → mS → Option (Int × mS)) (fun _ _ _ _ _ _ => none) (fun n ih x1 x2 x4 x5 x6 σ =>
  if (σ 71 0 6) ≤ x6 then
    some (x5, σ)
  else
    if x5 = 0 then
      ih x1 x2 x4 0 (mw (x6 + 1)) σ
    else
      if (0 ≤ (mw ((mw ((48 : Int) * x4)) + x6)) ∧ (mw ((mw ((48 : Int) * x4)) + x6)) < 768) ∧ (0 ≤ (mw (x2 + x6)) ∧ (mw (x2 + x6)) < 768) then
        if (σ 79 0 ((mw ((mw ((48 : Int) * x4)) + x6)).toNat)) = (σ 79 0 ((mw (x2 + x6)).toNat)) then
          ih x1 x2 x4 1 (mw (x6 + 1)) σ
        else
          ih x1 x2 x4 0 (mw (x6 + 1)) σ
      else none
  ) n
theorem L_X12_findSigns_243_s (N n : Nat) (x1 : Int) (x2 : Int) (x4 : Int) (x5 : Int) (x6 : Int) (σ : mS) : L_X12_findSigns_243 N (n + 1) x1 x2 x4 x5 x6 σ =
  if (σ 71 0 6) ≤ x6 then
    some (x5, σ)
  else
    if x5 = 0 then
      L_X12_findSigns_243 N n x1 x2 x4 0 (mw (x6 + 1)) σ
    else
      if (0 ≤ (mw ((mw ((48 : Int) * x4)) + x6)) ∧ (mw ((mw ((48 : Int) * x4)) + x6)) < 768) ∧ (0 ≤ (mw (x2 + x6)) ∧ (mw (x2 + x6)) < 768) then
        if (σ 79 0 ((mw ((mw ((48 : Int) * x4)) + x6)).toNat)) = (σ 79 0 ((mw (x2 + x6)).toNat)) then
          L_X12_findSigns_243 N n x1 x2 x4 1 (mw (x6 + 1)) σ
        else
          L_X12_findSigns_243 N n x1 x2 x4 0 (mw (x6 + 1)) σ
      else none := rfl
noncomputable def L_X12_findSigns_224 (N : Nat) (n : Nat) : Int → Int → Int → Int → mS → Option (Int × mS) := @Nat.rec (fun _ => Int → Int → Int → Int → mS → Option (Int × mS)) (fun _ _ _ _ _ => none) (fun n ih x1 x2 x3 x4 σ =>
  if (σ 71 0 11) ≤ x4 then
    some (x3, σ)
  else
    if x3 = 0 then
      some (x3, σ)
    else
      Option.bind (L_X12_findSigns_243 N N x1 x2 x4 1 0 σ) fun ⟨o1138, s1137⟩ =>
      if o1138 = 0 then
        ih x1 x2 1 (mw (x4 + 1)) s1137
      else
        ih x1 x2 0 (mw (x4 + 1)) s1137
  ) n
theorem L_X12_findSigns_224_s (N n : Nat) (x1 : Int) (x2 : Int) (x3 : Int) (x4 : Int) (σ : mS) : L_X12_findSigns_224 N (n + 1) x1 x2 x3 x4 σ =
  if (σ 71 0 11) ≤ x4 then
    some (x3, σ)
  else
    if x3 = 0 then
      some (x3, σ)
    else
      Option.bind (L_X12_findSigns_243 N N x1 x2 x4 1 0 σ) fun ⟨o1138, s1137⟩ =>
      if o1138 = 0 then
        L_X12_findSigns_224 N n x1 x2 1 (mw (x4 + 1)) s1137
      else
        L_X12_findSigns_224 N n x1 x2 0 (mw (x4 + 1)) s1137 := rfl
noncomputable def L_X12_findSigns_7 (N : Nat) (n : Nat) : Int → mS → Option (mS) := @Nat.rec (fun _ => Int → mS → Option (mS)) (fun _ _ => none) (fun n ih x1 σ =>
  if (o_shl 1 (σ 71 0 7)) ≤ x1 then
    some σ
  else
    if (0 ≤ (mw ((48 : Int) * (σ 71 0 11))) ∧ (mw ((48 : Int) * (σ 71 0 11))) < 768) then
      Option.bind (L_X12_findSigns_34 N N x1 (mw ((48 : Int) * (σ 71 0 11))) 1 (mup σ 79 0 ((mw ((48 : Int) * (σ 71 0 11))).toNat) 1)) fun s1115 =>
      Option.bind (L_X12_findSigns_94 N N x1 (mw ((48 : Int) * (σ 71 0 11))) 1 0 s1115) fun ⟨o1133, s1132⟩ =>
      Option.bind (L_X12_findSigns_224 N N x1 (mw ((48 : Int) * (σ 71 0 11))) o1133 0 s1132) fun ⟨o1144, s1143⟩ =>
      if o1144 = 0 then
        ih (mw (x1 + 1)) s1143
      else
        Option.bind (f_X12_place N s1143) fun s1162 =>
        ih (mw (x1 + 1)) s1162
    else none
  ) n
theorem L_X12_findSigns_7_s (N n : Nat) (x1 : Int) (σ : mS) : L_X12_findSigns_7 N (n + 1) x1 σ =
  if (o_shl 1 (σ 71 0 7)) ≤ x1 then
    some σ
  else
    if (0 ≤ (mw ((48 : Int) * (σ 71 0 11))) ∧ (mw ((48 : Int) * (σ 71 0 11))) < 768) then
      Option.bind (L_X12_findSigns_34 N N x1 (mw ((48 : Int) * (σ 71 0 11))) 1 (mup σ 79 0 ((mw ((48 : Int) * (σ 71 0 11))).toNat) 1)) fun s1115 =>
      Option.bind (L_X12_findSigns_94 N N x1 (mw ((48 : Int) * (σ 71 0 11))) 1 0 s1115) fun ⟨o1133, s1132⟩ =>
      Option.bind (L_X12_findSigns_224 N N x1 (mw ((48 : Int) * (σ 71 0 11))) o1133 0 s1132) fun ⟨o1144, s1143⟩ =>
      if o1144 = 0 then
        L_X12_findSigns_7 N n (mw (x1 + 1)) s1143
      else
        Option.bind (f_X12_place N s1143) fun s1162 =>
        L_X12_findSigns_7 N n (mw (x1 + 1)) s1162
    else none := rfl
noncomputable def f_X12_findSigns (N : Nat) (σ : mS) : Option (mS) :=
  Option.bind (L_X12_findSigns_7 N N 0 (mup σ 71 0 11 0)) fun s1169 =>
  some s1169
noncomputable def L_X12_goes_67 (N : Nat) (cal : Int → Int → mS → Option (mS)) (n : Nat) : Int → Int → Int → mS → Option (mS) := @Nat.rec (fun _ => Int → Int → Int → mS → Option (mS)) (fun _ _ _ _ => none) (fun n ih x1 x2 x3 σ =>
  if x3 < 0 then
    some σ
  else
    if (0 ≤ x1 ∧ x1 < 40) then
      Option.bind (cal (mw (x1 + 1)) (mw (x2 - (mw (x3 * (σ 83 0 x1.toNat))))) (mup σ 88 0 x1.toNat x3)) fun s1174 =>
      ih x1 x2 (mw (x3 + (-1))) s1174
    else none
  ) n
theorem L_X12_goes_67_s (N : Nat) (cal : Int → Int → mS → Option (mS)) (n : Nat) (x1 : Int) (x2 : Int) (x3 : Int) (σ : mS) : L_X12_goes_67 N cal (n + 1) x1 x2 x3 σ =
  if x3 < 0 then
    some σ
  else
    if (0 ≤ x1 ∧ x1 < 40) then
      Option.bind (cal (mw (x1 + 1)) (mw (x2 - (mw (x3 * (σ 83 0 x1.toNat))))) (mup σ 88 0 x1.toNat x3)) fun s1174 =>
      L_X12_goes_67 N cal n x1 x2 (mw (x3 + (-1))) s1174
    else none := rfl
noncomputable def L_X12_goes_15 (N : Nat) (cal : Int → Int → mS → Option (mS)) (n : Nat) : Int → mS → Option (mS) := @Nat.rec (fun _ => Int → mS → Option (mS)) (fun _ _ => none) (fun n ih x3 σ =>
  if (40 : Int) ≤ x3 then
    some σ
  else
    if (0 ≤ x3 ∧ x3 < 40) ∧ (0 ≤ (mw ((mw ((40 : Int) * (σ 71 0 26))) + x3)) ∧ (mw ((mw ((40 : Int) * (σ 71 0 26))) + x3)) < 16000) then
      ih (mw (x3 + 1)) (mup σ 85 0 ((mw ((mw ((40 : Int) * (σ 71 0 26))) + x3)).toNat) (σ 88 0 x3.toNat))
    else none
  ) n
theorem L_X12_goes_15_s (N : Nat) (cal : Int → Int → mS → Option (mS)) (n : Nat) (x3 : Int) (σ : mS) : L_X12_goes_15 N cal (n + 1) x3 σ =
  if (40 : Int) ≤ x3 then
    some σ
  else
    if (0 ≤ x3 ∧ x3 < 40) ∧ (0 ≤ (mw ((mw ((40 : Int) * (σ 71 0 26))) + x3)) ∧ (mw ((mw ((40 : Int) * (σ 71 0 26))) + x3)) < 16000) then
      L_X12_goes_15 N cal n (mw (x3 + 1)) (mup σ 85 0 ((mw ((mw ((40 : Int) * (σ 71 0 26))) + x3)).toNat) (σ 88 0 x3.toNat))
    else none := rfl
noncomputable def g_X12_goes (N : Nat) (cal : Int → Int → mS → Option (mS)) (a1 : Int) (a2 : Int) (σ : mS) : Option (mS) :=
  if a1 = (σ 71 0 19) then
    if a2 ≤ 0 then
      Option.bind (L_X12_goes_15 N cal N 0 σ) fun s1180 =>
      some (mup s1180 71 0 26 (mw ((s1180 71 0 26) + 1)))
    else
      some σ
  else
    if (0 ≤ a1 ∧ a1 < 40) ∧ ¬ (σ 83 0 a1.toNat) = 0 then
      Option.bind (L_X12_goes_67 N cal N a1 a2 (o_div a2 (σ 83 0 a1.toNat)) σ) fun s1177 =>
      if (0 ≤ a1 ∧ a1 < 40) then
        some (mup s1177 88 0 a1.toNat 0)
      else none
    else none
noncomputable def F_X12_goes (N d : Nat) : Int → Int → mS → Option (mS) := @Nat.rec (fun _ => Int → Int → mS → Option (mS)) (fun _ _ _ => none) (fun _ cal => g_X12_goes N cal) d
theorem F_X12_goes_s (N d : Nat) : F_X12_goes N (d + 1) = g_X12_goes N (F_X12_goes N d) := rfl
noncomputable def f_X12_goes (N : Nat) (a1 : Int) (a2 : Int) (σ : mS) : Option (mS) := F_X12_goes N 10 a1 a2 σ
noncomputable def L_X12_list_7 (N : Nat) (n : Nat) : Int → Int → mS → Option (mS) := @Nat.rec (fun _ => Int → Int → mS → Option (mS)) (fun _ _ _ => none) (fun n ih x1 x2 σ =>
  if (40 : Int) ≤ x2 then
    some σ
  else
    if (0 ≤ x2 ∧ x2 < 40) then
      ih x1 (mw (x2 + 1)) (mup σ 88 0 x2.toNat 0)
    else none
  ) n
theorem L_X12_list_7_s (N n : Nat) (x1 : Int) (x2 : Int) (σ : mS) : L_X12_list_7 N (n + 1) x1 x2 σ =
  if (40 : Int) ≤ x2 then
    some σ
  else
    if (0 ≤ x2 ∧ x2 < 40) then
      L_X12_list_7 N n x1 (mw (x2 + 1)) (mup σ 88 0 x2.toNat 0)
    else none := rfl
noncomputable def f_X12_list (N : Nat) (a1 : Int) (σ : mS) : Option (mS) :=
  Option.bind (L_X12_list_7 N N a1 0 (mup σ 71 0 26 0)) fun s1173 =>
  Option.bind (f_X12_goes N 0 a1 s1173) fun s1184 =>
  some s1184
noncomputable def L_X12_clear_2 (N : Nat) (n : Nat) : Int → Int → mS → Option (mS) := @Nat.rec (fun _ => Int → Int → mS → Option (mS)) (fun _ _ _ => none) (fun n ih x1 x2 σ =>
  if (729 : Int) ≤ x2 then
    some σ
  else
    if (0 ≤ (mw ((mw ((729 : Int) * x1)) + x2)) ∧ (mw ((mw ((729 : Int) * x1)) + x2)) < 7290) then
      ih x1 (mw (x2 + 1)) (mup σ 81 0 ((mw ((mw ((729 : Int) * x1)) + x2)).toNat) 0)
    else none
  ) n
theorem L_X12_clear_2_s (N n : Nat) (x1 : Int) (x2 : Int) (σ : mS) : L_X12_clear_2 N (n + 1) x1 x2 σ =
  if (729 : Int) ≤ x2 then
    some σ
  else
    if (0 ≤ (mw ((mw ((729 : Int) * x1)) + x2)) ∧ (mw ((mw ((729 : Int) * x1)) + x2)) < 7290) then
      L_X12_clear_2 N n x1 (mw (x2 + 1)) (mup σ 81 0 ((mw ((mw ((729 : Int) * x1)) + x2)).toNat) 0)
    else none := rfl
noncomputable def f_X12_clear (N : Nat) (a1 : Int) (σ : mS) : Option (mS) :=
  Option.bind (L_X12_clear_2 N N a1 0 σ) fun s1189 =>
  some s1189
noncomputable def f_X12_left (N : Nat) (a0 : Int) (σ : mS) : Option (Int × mS) :=
  if 0 ≤ (mw (o_lrem a0 32003)) then
    some ((mw (o_lrem a0 32003)), σ)
  else
    some ((mw ((mw (o_lrem a0 32003)) + 32003)), σ)
noncomputable def L_X12_timesFew_29 (N : Nat) (n : Nat) : Int → Int → Int → Int → mS → Option (mS) := @Nat.rec (fun _ => Int → Int → Int → Int → mS → Option (mS)) (fun _ _ _ _ _ => none) (fun n ih x1 x2 x3 x4 σ =>
  if (729 : Int) ≤ x4 then
    some σ
  else
    if x3 = 0 then
      some σ
    else
      if (0 ≤ (mw ((mw ((729 : Int) * x1)) + x4)) ∧ (mw ((mw ((729 : Int) * x1)) + x4)) < 29160) then
        if (σ 84 0 ((mw ((mw ((729 : Int) * x1)) + x4)).toNat)) = 0 then
          ih x1 x2 x3 (mw (x4 + 1)) σ
        else
          if (0 ≤ (mw ((mw ((5832 : Int) + x2)) + x4)) ∧ (mw ((mw ((5832 : Int) + x2)) + x4)) < 7290) then
            Option.bind (f_X12_left N (mx ((σ 81 0 ((mw ((mw ((5832 : Int) + x2)) + x4)).toNat)) + (mx (x3 * (σ 84 0 ((mw ((mw ((729 : Int) * x1)) + x4)).toNat)))))) σ) fun ⟨v1195, s1194⟩ =>
            if (0 ≤ (mw ((mw ((5832 : Int) + x2)) + x4)) ∧ (mw ((mw ((5832 : Int) + x2)) + x4)) < 7290) then
              ih x1 x2 x3 (mw (x4 + 1)) (mup s1194 81 0 ((mw ((mw ((5832 : Int) + x2)) + x4)).toNat) v1195)
            else none
          else none
      else none
  ) n
theorem L_X12_timesFew_29_s (N n : Nat) (x1 : Int) (x2 : Int) (x3 : Int) (x4 : Int) (σ : mS) : L_X12_timesFew_29 N (n + 1) x1 x2 x3 x4 σ =
  if (729 : Int) ≤ x4 then
    some σ
  else
    if x3 = 0 then
      some σ
    else
      if (0 ≤ (mw ((mw ((729 : Int) * x1)) + x4)) ∧ (mw ((mw ((729 : Int) * x1)) + x4)) < 29160) then
        if (σ 84 0 ((mw ((mw ((729 : Int) * x1)) + x4)).toNat)) = 0 then
          L_X12_timesFew_29 N n x1 x2 x3 (mw (x4 + 1)) σ
        else
          if (0 ≤ (mw ((mw ((5832 : Int) + x2)) + x4)) ∧ (mw ((mw ((5832 : Int) + x2)) + x4)) < 7290) then
            Option.bind (f_X12_left N (mx ((σ 81 0 ((mw ((mw ((5832 : Int) + x2)) + x4)).toNat)) + (mx (x3 * (σ 84 0 ((mw ((mw ((729 : Int) * x1)) + x4)).toNat)))))) σ) fun ⟨v1195, s1194⟩ =>
            if (0 ≤ (mw ((mw ((5832 : Int) + x2)) + x4)) ∧ (mw ((mw ((5832 : Int) + x2)) + x4)) < 7290) then
              L_X12_timesFew_29 N n x1 x2 x3 (mw (x4 + 1)) (mup s1194 81 0 ((mw ((mw ((5832 : Int) + x2)) + x4)).toNat) v1195)
            else none
          else none
      else none := rfl
noncomputable def L_X12_timesFew_8 (N : Nat) (n : Nat) : Int → Int → mS → Option (mS) := @Nat.rec (fun _ => Int → Int → mS → Option (mS)) (fun _ _ _ => none) (fun n ih x1 x2 σ =>
  if (729 : Int) ≤ x2 then
    some σ
  else
    if (0 ≤ (mw ((6561 : Int) + x2)) ∧ (mw ((6561 : Int) + x2)) < 7290) then
      Option.bind (L_X12_timesFew_29 N N x1 x2 (σ 81 0 ((mw ((6561 : Int) + x2)).toNat)) 0 σ) fun s1200 =>
      ih x1 (mw (x2 + 1)) s1200
    else none
  ) n
theorem L_X12_timesFew_8_s (N n : Nat) (x1 : Int) (x2 : Int) (σ : mS) : L_X12_timesFew_8 N (n + 1) x1 x2 σ =
  if (729 : Int) ≤ x2 then
    some σ
  else
    if (0 ≤ (mw ((6561 : Int) + x2)) ∧ (mw ((6561 : Int) + x2)) < 7290) then
      Option.bind (L_X12_timesFew_29 N N x1 x2 (σ 81 0 ((mw ((6561 : Int) + x2)).toNat)) 0 σ) fun s1200 =>
      L_X12_timesFew_8 N n x1 (mw (x2 + 1)) s1200
    else none := rfl
noncomputable def f_X12_timesFew (N : Nat) (a1 : Int) (σ : mS) : Option (mS) :=
  Option.bind (f_X12_clear N 8 σ) fun s1192 =>
  Option.bind (L_X12_timesFew_8 N N a1 0 s1192) fun s1203 =>
  some s1203
noncomputable def L_X12_copy_2 (N : Nat) (n : Nat) : Int → Int → Int → mS → Option (mS) := @Nat.rec (fun _ => Int → Int → Int → mS → Option (mS)) (fun _ _ _ _ => none) (fun n ih x1 x2 x3 σ =>
  if (729 : Int) ≤ x3 then
    some σ
  else
    if (0 ≤ (mw ((mw ((729 : Int) * x1)) + x3)) ∧ (mw ((mw ((729 : Int) * x1)) + x3)) < 7290) ∧ (0 ≤ (mw ((mw ((729 : Int) * x2)) + x3)) ∧ (mw ((mw ((729 : Int) * x2)) + x3)) < 7290) then
      ih x1 x2 (mw (x3 + 1)) (mup σ 81 0 ((mw ((mw ((729 : Int) * x2)) + x3)).toNat) (σ 81 0 ((mw ((mw ((729 : Int) * x1)) + x3)).toNat)))
    else none
  ) n
theorem L_X12_copy_2_s (N n : Nat) (x1 : Int) (x2 : Int) (x3 : Int) (σ : mS) : L_X12_copy_2 N (n + 1) x1 x2 x3 σ =
  if (729 : Int) ≤ x3 then
    some σ
  else
    if (0 ≤ (mw ((mw ((729 : Int) * x1)) + x3)) ∧ (mw ((mw ((729 : Int) * x1)) + x3)) < 7290) ∧ (0 ≤ (mw ((mw ((729 : Int) * x2)) + x3)) ∧ (mw ((mw ((729 : Int) * x2)) + x3)) < 7290) then
      L_X12_copy_2 N n x1 x2 (mw (x3 + 1)) (mup σ 81 0 ((mw ((mw ((729 : Int) * x2)) + x3)).toNat) (σ 81 0 ((mw ((mw ((729 : Int) * x1)) + x3)).toNat)))
    else none := rfl
noncomputable def f_X12_copy (N : Nat) (a1 : Int) (a2 : Int) (σ : mS) : Option (mS) :=
  Option.bind (L_X12_copy_2 N N a1 a2 0 σ) fun s1208 =>
  some s1208
noncomputable def L_X12_works_27 (N : Nat) (n : Nat) : Int → Int → Int → mS → Option (mS) := @Nat.rec (fun _ => Int → Int → Int → mS → Option (mS)) (fun _ _ _ _ => none) (fun n ih x1 x2 x3 σ =>
  if (0 ≤ (mw ((mw ((40 : Int) * x1)) + x2)) ∧ (mw ((mw ((40 : Int) * x1)) + x2)) < 16000) then
    if (σ 85 0 ((mw ((mw ((40 : Int) * x1)) + x2)).toNat)) ≤ x3 then
      some σ
    else
      Option.bind (f_X12_timesFew N x2 σ) fun s1206 =>
      Option.bind (f_X12_copy N 8 9 s1206) fun s1210 =>
      ih x1 x2 (mw (x3 + 1)) s1210
  else none
  ) n
theorem L_X12_works_27_s (N n : Nat) (x1 : Int) (x2 : Int) (x3 : Int) (σ : mS) : L_X12_works_27 N (n + 1) x1 x2 x3 σ =
  if (0 ≤ (mw ((mw ((40 : Int) * x1)) + x2)) ∧ (mw ((mw ((40 : Int) * x1)) + x2)) < 16000) then
    if (σ 85 0 ((mw ((mw ((40 : Int) * x1)) + x2)).toNat)) ≤ x3 then
      some σ
    else
      Option.bind (f_X12_timesFew N x2 σ) fun s1206 =>
      Option.bind (f_X12_copy N 8 9 s1206) fun s1210 =>
      L_X12_works_27 N n x1 x2 (mw (x3 + 1)) s1210
  else none := rfl
noncomputable def L_X12_works_17 (N : Nat) (n : Nat) : Int → Int → mS → Option (mS) := @Nat.rec (fun _ => Int → Int → mS → Option (mS)) (fun _ _ _ => none) (fun n ih x1 x2 σ =>
  if (σ 71 0 19) ≤ x2 then
    some σ
  else
    Option.bind (L_X12_works_27 N N x1 x2 0 σ) fun s1214 =>
    ih x1 (mw (x2 + 1)) s1214
  ) n
theorem L_X12_works_17_s (N n : Nat) (x1 : Int) (x2 : Int) (σ : mS) : L_X12_works_17 N (n + 1) x1 x2 σ =
  if (σ 71 0 19) ≤ x2 then
    some σ
  else
    Option.bind (L_X12_works_27 N N x1 x2 0 σ) fun s1214 =>
    L_X12_works_17 N n x1 (mw (x2 + 1)) s1214 := rfl
noncomputable def f_X12_works (N : Nat) (a1 : Int) (σ : mS) : Option (mS) :=
  Option.bind (f_X12_clear N 9 σ) fun s1191 =>
  Option.bind (L_X12_works_17 N N a1 0 (mup s1191 81 0 6561 1)) fun s1217 =>
  some s1217
noncomputable def L_X12_handOther_2 (N : Nat) (n : Nat) : Int → mS → Option (mS) := @Nat.rec (fun _ => Int → mS → Option (mS)) (fun _ _ => none) (fun n ih x1 σ =>
  if (729 : Int) ≤ x1 then
    some σ
  else
    if (0 ≤ (mw ((6561 : Int) + x1)) ∧ (mw ((6561 : Int) + x1)) < 7290) ∧ (0 ≤ x1 ∧ x1 < 729) then
      ih (mw (x1 + 1)) (mup σ 87 0 x1.toNat (σ 81 0 ((mw ((6561 : Int) + x1)).toNat)))
    else none
  ) n
theorem L_X12_handOther_2_s (N n : Nat) (x1 : Int) (σ : mS) : L_X12_handOther_2 N (n + 1) x1 σ =
  if (729 : Int) ≤ x1 then
    some σ
  else
    if (0 ≤ (mw ((6561 : Int) + x1)) ∧ (mw ((6561 : Int) + x1)) < 7290) ∧ (0 ≤ x1 ∧ x1 < 729) then
      L_X12_handOther_2 N n (mw (x1 + 1)) (mup σ 87 0 x1.toNat (σ 81 0 ((mw ((6561 : Int) + x1)).toNat)))
    else none := rfl
noncomputable def f_X12_handOther (N : Nat) (σ : mS) : Option (mS) :=
  Option.bind (L_X12_handOther_2 N N 0 σ) fun s1222 =>
  some s1222
noncomputable def L_X12_lessens_2 (N : Nat) (n : Nat) : Int → mS → Option (mS) := @Nat.rec (fun _ => Int → mS → Option (mS)) (fun _ _ => none) (fun n ih x1 σ =>
  if (30 : Int) ≤ x1 then
    some σ
  else
    if (0 ≤ x1 ∧ x1 < 30) then
      ih (mw (x1 + 1)) (mup σ 91 0 x1.toNat 0)
    else none
  ) n
theorem L_X12_lessens_2_s (N n : Nat) (x1 : Int) (σ : mS) : L_X12_lessens_2 N (n + 1) x1 σ =
  if (30 : Int) ≤ x1 then
    some σ
  else
    if (0 ≤ x1 ∧ x1 < 30) then
      L_X12_lessens_2 N n (mw (x1 + 1)) (mup σ 91 0 x1.toNat 0)
    else none := rfl
noncomputable def L_X12_lessens_52 (N : Nat) (n : Nat) : Int → Int → Int → mS → Option (mS) := @Nat.rec (fun _ => Int → Int → Int → mS → Option (mS)) (fun _ _ _ _ => none) (fun n ih x1 x2 x3 σ =>
  if (729 : Int) ≤ x3 then
    some σ
  else
    if (0 ≤ x3 ∧ x3 < 729) ∧ (0 ≤ (mw ((mw ((729 : Int) * x1)) + x3)) ∧ (mw ((mw ((729 : Int) * x1)) + x3)) < 21870) then
      Option.bind (f_X12_left N (mx ((σ 87 0 x3.toNat) - (mx (x2 * (σ 92 0 ((mw ((mw ((729 : Int) * x1)) + x3)).toNat)))))) σ) fun ⟨v1228, s1227⟩ =>
      if (0 ≤ x3 ∧ x3 < 729) then
        ih x1 x2 (mw (x3 + 1)) (mup s1227 87 0 x3.toNat v1228)
      else none
    else none
  ) n
theorem L_X12_lessens_52_s (N n : Nat) (x1 : Int) (x2 : Int) (x3 : Int) (σ : mS) : L_X12_lessens_52 N (n + 1) x1 x2 x3 σ =
  if (729 : Int) ≤ x3 then
    some σ
  else
    if (0 ≤ x3 ∧ x3 < 729) ∧ (0 ≤ (mw ((mw ((729 : Int) * x1)) + x3)) ∧ (mw ((mw ((729 : Int) * x1)) + x3)) < 21870) then
      Option.bind (f_X12_left N (mx ((σ 87 0 x3.toNat) - (mx (x2 * (σ 92 0 ((mw ((mw ((729 : Int) * x1)) + x3)).toNat)))))) σ) fun ⟨v1228, s1227⟩ =>
      if (0 ≤ x3 ∧ x3 < 729) then
        L_X12_lessens_52 N n x1 x2 (mw (x3 + 1)) (mup s1227 87 0 x3.toNat v1228)
      else none
    else none := rfl
noncomputable def L_X12_lessens_100 (N : Nat) (n : Nat) : Int → Int → Int → mS → Option (mS) := @Nat.rec (fun _ => Int → Int → Int → mS → Option (mS)) (fun _ _ _ _ => none) (fun n ih x1 x2 x3 σ =>
  if (30 : Int) ≤ x3 then
    some σ
  else
    if (0 ≤ x3 ∧ x3 < 30) ∧ (0 ≤ (mw ((mw ((30 : Int) * x1)) + x3)) ∧ (mw ((mw ((30 : Int) * x1)) + x3)) < 900) then
      Option.bind (f_X12_left N (mx ((σ 91 0 x3.toNat) + (mx (x2 * (σ 90 0 ((mw ((mw ((30 : Int) * x1)) + x3)).toNat)))))) σ) fun ⟨v1233, s1232⟩ =>
      if (0 ≤ x3 ∧ x3 < 30) then
        ih x1 x2 (mw (x3 + 1)) (mup s1232 91 0 x3.toNat v1233)
      else none
    else none
  ) n
theorem L_X12_lessens_100_s (N n : Nat) (x1 : Int) (x2 : Int) (x3 : Int) (σ : mS) : L_X12_lessens_100 N (n + 1) x1 x2 x3 σ =
  if (30 : Int) ≤ x3 then
    some σ
  else
    if (0 ≤ x3 ∧ x3 < 30) ∧ (0 ≤ (mw ((mw ((30 : Int) * x1)) + x3)) ∧ (mw ((mw ((30 : Int) * x1)) + x3)) < 900) then
      Option.bind (f_X12_left N (mx ((σ 91 0 x3.toNat) + (mx (x2 * (σ 90 0 ((mw ((mw ((30 : Int) * x1)) + x3)).toNat)))))) σ) fun ⟨v1233, s1232⟩ =>
      if (0 ≤ x3 ∧ x3 < 30) then
        L_X12_lessens_100 N n x1 x2 (mw (x3 + 1)) (mup s1232 91 0 x3.toNat v1233)
      else none
    else none := rfl
noncomputable def L_X12_lessens_23 (N : Nat) (n : Nat) : Int → mS → Option (mS) := @Nat.rec (fun _ => Int → mS → Option (mS)) (fun _ _ => none) (fun n ih x1 σ =>
  if (σ 71 0 27) ≤ x1 then
    some σ
  else
    if (0 ≤ x1 ∧ x1 < 30) ∧ (0 ≤ (σ 86 0 x1.toNat) ∧ (σ 86 0 x1.toNat) < 729) then
      if (σ 87 0 ((σ 86 0 x1.toNat).toNat)) = 0 then
        ih (mw (x1 + 1)) σ
      else
        Option.bind (L_X12_lessens_52 N N x1 (σ 87 0 ((σ 86 0 x1.toNat).toNat)) 0 σ) fun s1231 =>
        Option.bind (L_X12_lessens_100 N N x1 (σ 87 0 ((σ 86 0 x1.toNat).toNat)) 0 s1231) fun s1236 =>
        ih (mw (x1 + 1)) s1236
    else none
  ) n
theorem L_X12_lessens_23_s (N n : Nat) (x1 : Int) (σ : mS) : L_X12_lessens_23 N (n + 1) x1 σ =
  if (σ 71 0 27) ≤ x1 then
    some σ
  else
    if (0 ≤ x1 ∧ x1 < 30) ∧ (0 ≤ (σ 86 0 x1.toNat) ∧ (σ 86 0 x1.toNat) < 729) then
      if (σ 87 0 ((σ 86 0 x1.toNat).toNat)) = 0 then
        L_X12_lessens_23 N n (mw (x1 + 1)) σ
      else
        Option.bind (L_X12_lessens_52 N N x1 (σ 87 0 ((σ 86 0 x1.toNat).toNat)) 0 σ) fun s1231 =>
        Option.bind (L_X12_lessens_100 N N x1 (σ 87 0 ((σ 86 0 x1.toNat).toNat)) 0 s1231) fun s1236 =>
        L_X12_lessens_23 N n (mw (x1 + 1)) s1236
    else none := rfl
noncomputable def L_X12_lessens_154 (N : Nat) (n : Nat) : Int → Int → mS → Option (Int × mS) := @Nat.rec (fun _ => Int → Int → mS → Option (Int × mS)) (fun _ _ _ => none) (fun n ih x1 x2 σ =>
  if (729 : Int) ≤ x2 then
    some (x1, σ)
  else
    if x1 = 0 then
      ih 0 (mw (x2 + 1)) σ
    else
      if (0 ≤ x2 ∧ x2 < 729) then
        if (σ 87 0 x2.toNat) = 0 then
          ih 1 (mw (x2 + 1)) σ
        else
          ih 0 (mw (x2 + 1)) σ
      else none
  ) n
theorem L_X12_lessens_154_s (N n : Nat) (x1 : Int) (x2 : Int) (σ : mS) : L_X12_lessens_154 N (n + 1) x1 x2 σ =
  if (729 : Int) ≤ x2 then
    some (x1, σ)
  else
    if x1 = 0 then
      L_X12_lessens_154 N n 0 (mw (x2 + 1)) σ
    else
      if (0 ≤ x2 ∧ x2 < 729) then
        if (σ 87 0 x2.toNat) = 0 then
          L_X12_lessens_154 N n 1 (mw (x2 + 1)) σ
        else
          L_X12_lessens_154 N n 0 (mw (x2 + 1)) σ
      else none := rfl
noncomputable def f_X12_lessens (N : Nat) (σ : mS) : Option (Int × mS) :=
  Option.bind (L_X12_lessens_2 N N 0 σ) fun s1226 =>
  Option.bind (L_X12_lessens_23 N N 0 s1226) fun s1241 =>
  Option.bind (L_X12_lessens_154 N N 1 0 s1241) fun ⟨o1246, s1245⟩ =>
  if o1246 = 0 ∨ o1246 = 1 then
    some (o1246, s1245)
  else none
noncomputable def L_X12_by_10 (N : Nat) (n : Nat) : Int → Int → Int → mS → Option (Int × mS) := @Nat.rec (fun _ => Int → Int → Int → mS → Option (Int × mS)) (fun _ _ _ _ => none) (fun n ih x1 x2 x4 σ =>
  if x1 ≤ 0 then
    some (x2, σ)
  else
    if (o_rem x1 2) = (1 : Int) then
      ih (o_div x1 2) (o_lrem (mx (x2 * x4)) 32003) (o_lrem (mx (x4 * x4)) 32003) σ
    else
      ih (o_div x1 2) x2 (o_lrem (mx (x4 * x4)) 32003) σ
  ) n
theorem L_X12_by_10_s (N n : Nat) (x1 : Int) (x2 : Int) (x4 : Int) (σ : mS) : L_X12_by_10 N (n + 1) x1 x2 x4 σ =
  if x1 ≤ 0 then
    some (x2, σ)
  else
    if (o_rem x1 2) = (1 : Int) then
      L_X12_by_10 N n (o_div x1 2) (o_lrem (mx (x2 * x4)) 32003) (o_lrem (mx (x4 * x4)) 32003) σ
    else
      L_X12_by_10 N n (o_div x1 2) x2 (o_lrem (mx (x4 * x4)) 32003) σ := rfl
noncomputable def f_X12_by (N : Nat) (a0 : Int) (σ : mS) : Option (Int × mS) :=
  Option.bind (L_X12_by_10 N N 32001 1 a0 σ) fun ⟨o1258, s1257⟩ =>
  some ((mw o1258), s1257)
noncomputable def L_X12_keeps_2 (N : Nat) (n : Nat) : Int → Int → mS → Option (Int × mS) := @Nat.rec (fun _ => Int → Int → mS → Option (Int × mS)) (fun _ _ _ => none) (fun n ih x1 x2 σ =>
  if (0 ≤ x2 ∧ x2 < 729) then
    if (σ 87 0 x2.toNat) = 0 then
      ih x1 (mw (x2 + 1)) σ
    else
      some (x2, σ)
  else none
  ) n
theorem L_X12_keeps_2_s (N n : Nat) (x1 : Int) (x2 : Int) (σ : mS) : L_X12_keeps_2 N (n + 1) x1 x2 σ =
  if (0 ≤ x2 ∧ x2 < 729) then
    if (σ 87 0 x2.toNat) = 0 then
      L_X12_keeps_2 N n x1 (mw (x2 + 1)) σ
    else
      some (x2, σ)
  else none := rfl
noncomputable def L_X12_keeps_30 (N : Nat) (n : Nat) : Int → Int → Int → Int → mS → Option (mS) := @Nat.rec (fun _ => Int → Int → Int → Int → mS → Option (mS)) (fun _ _ _ _ _ => none) (fun n ih x1 x2 x3 x4 σ =>
  if (729 : Int) ≤ x4 then
    some σ
  else
    if (0 ≤ x4 ∧ x4 < 729) then
      Option.bind (f_X12_left N (mx ((σ 87 0 x4.toNat) * x3)) σ) fun ⟨v1263, s1262⟩ =>
      if (0 ≤ (mw ((mw ((729 : Int) * (σ 71 0 27))) + x4)) ∧ (mw ((mw ((729 : Int) * (σ 71 0 27))) + x4)) < 21870) then
        ih x1 x2 x3 (mw (x4 + 1)) (mup s1262 92 0 ((mw ((mw ((729 : Int) * (σ 71 0 27))) + x4)).toNat) v1263)
      else none
    else none
  ) n
theorem L_X12_keeps_30_s (N n : Nat) (x1 : Int) (x2 : Int) (x3 : Int) (x4 : Int) (σ : mS) : L_X12_keeps_30 N (n + 1) x1 x2 x3 x4 σ =
  if (729 : Int) ≤ x4 then
    some σ
  else
    if (0 ≤ x4 ∧ x4 < 729) then
      Option.bind (f_X12_left N (mx ((σ 87 0 x4.toNat) * x3)) σ) fun ⟨v1263, s1262⟩ =>
      if (0 ≤ (mw ((mw ((729 : Int) * (σ 71 0 27))) + x4)) ∧ (mw ((mw ((729 : Int) * (σ 71 0 27))) + x4)) < 21870) then
        L_X12_keeps_30 N n x1 x2 x3 (mw (x4 + 1)) (mup s1262 92 0 ((mw ((mw ((729 : Int) * (σ 71 0 27))) + x4)).toNat) v1263)
      else none
    else none := rfl
noncomputable def L_X12_keeps_77 (N : Nat) (n : Nat) : Int → Int → Int → Int → mS → Option (mS) := @Nat.rec (fun _ => Int → Int → Int → Int → mS → Option (mS)) (fun _ _ _ _ _ => none) (fun n ih x1 x2 x3 x4 σ =>
  if (30 : Int) ≤ x4 then
    some σ
  else
    if x4 = (σ 71 0 27) then
      if (0 ≤ x4 ∧ x4 < 30) then
        Option.bind (f_X12_left N (mx ((mw ((1 : Int) - (σ 91 0 x4.toNat))) * x3)) σ) fun ⟨v1271, s1270⟩ =>
        if (0 ≤ (mw ((mw ((30 : Int) * (σ 71 0 27))) + x4)) ∧ (mw ((mw ((30 : Int) * (σ 71 0 27))) + x4)) < 900) then
          ih x1 x2 x3 (mw (x4 + 1)) (mup s1270 90 0 ((mw ((mw ((30 : Int) * (σ 71 0 27))) + x4)).toNat) v1271)
        else none
      else none
    else
      if (0 ≤ x4 ∧ x4 < 30) then
        Option.bind (f_X12_left N (mx ((mw (-(σ 91 0 x4.toNat))) * x3)) σ) fun ⟨v1268, s1267⟩ =>
        if (0 ≤ (mw ((mw ((30 : Int) * (σ 71 0 27))) + x4)) ∧ (mw ((mw ((30 : Int) * (σ 71 0 27))) + x4)) < 900) then
          ih x1 x2 x3 (mw (x4 + 1)) (mup s1267 90 0 ((mw ((mw ((30 : Int) * (σ 71 0 27))) + x4)).toNat) v1268)
        else none
      else none
  ) n
theorem L_X12_keeps_77_s (N n : Nat) (x1 : Int) (x2 : Int) (x3 : Int) (x4 : Int) (σ : mS) : L_X12_keeps_77 N (n + 1) x1 x2 x3 x4 σ =
  if (30 : Int) ≤ x4 then
    some σ
  else
    if x4 = (σ 71 0 27) then
      if (0 ≤ x4 ∧ x4 < 30) then
        Option.bind (f_X12_left N (mx ((mw ((1 : Int) - (σ 91 0 x4.toNat))) * x3)) σ) fun ⟨v1271, s1270⟩ =>
        if (0 ≤ (mw ((mw ((30 : Int) * (σ 71 0 27))) + x4)) ∧ (mw ((mw ((30 : Int) * (σ 71 0 27))) + x4)) < 900) then
          L_X12_keeps_77 N n x1 x2 x3 (mw (x4 + 1)) (mup s1270 90 0 ((mw ((mw ((30 : Int) * (σ 71 0 27))) + x4)).toNat) v1271)
        else none
      else none
    else
      if (0 ≤ x4 ∧ x4 < 30) then
        Option.bind (f_X12_left N (mx ((mw (-(σ 91 0 x4.toNat))) * x3)) σ) fun ⟨v1268, s1267⟩ =>
        if (0 ≤ (mw ((mw ((30 : Int) * (σ 71 0 27))) + x4)) ∧ (mw ((mw ((30 : Int) * (σ 71 0 27))) + x4)) < 900) then
          L_X12_keeps_77 N n x1 x2 x3 (mw (x4 + 1)) (mup s1267 90 0 ((mw ((mw ((30 : Int) * (σ 71 0 27))) + x4)).toNat) v1268)
        else none
      else none := rfl
noncomputable def f_X12_keeps (N : Nat) (a1 : Int) (σ : mS) : Option (mS) :=
  Option.bind (L_X12_keeps_2 N N a1 0 σ) fun ⟨o1254, s1253⟩ =>
  if (0 ≤ o1254 ∧ o1254 < 729) then
    Option.bind (f_X12_by N (s1253 87 0 o1254.toNat) s1253) fun ⟨v1261, s1260⟩ =>
    Option.bind (L_X12_keeps_30 N N a1 o1254 v1261 0 s1260) fun s1266 =>
    Option.bind (L_X12_keeps_77 N N a1 o1254 v1261 0 s1266) fun s1275 =>
    if (0 ≤ (s1275 71 0 27) ∧ (s1275 71 0 27) < 30) then
      some (mup (mup (mup s1275 86 0 ((s1275 71 0 27).toNat) o1254) 89 0 ((s1275 71 0 27).toNat) a1) 71 0 27 (mw ((s1275 71 0 27) + 1)))
    else none
  else none
noncomputable def L_X12_plainOf_12 (N : Nat) (n : Nat) : Int → mS → Option (mS) := @Nat.rec (fun _ => Int → mS → Option (mS)) (fun _ _ => none) (fun n ih x2 σ =>
  if (σ 71 0 26) ≤ x2 then
    some σ
  else
    Option.bind (f_X12_works N x2 σ) fun s1220 =>
    Option.bind (f_X12_handOther N s1220) fun s1224 =>
    Option.bind (f_X12_lessens N s1224) fun ⟨v1251, s1250⟩ =>
    if v1251 = 0 then
      Option.bind (f_X12_keeps N x2 s1250) fun s1280 =>
      ih (mw (x2 + 1)) s1280
    else
      ih (mw (x2 + 1)) s1250
  ) n
theorem L_X12_plainOf_12_s (N n : Nat) (x2 : Int) (σ : mS) : L_X12_plainOf_12 N (n + 1) x2 σ =
  if (σ 71 0 26) ≤ x2 then
    some σ
  else
    Option.bind (f_X12_works N x2 σ) fun s1220 =>
    Option.bind (f_X12_handOther N s1220) fun s1224 =>
    Option.bind (f_X12_lessens N s1224) fun ⟨v1251, s1250⟩ =>
    if v1251 = 0 then
      Option.bind (f_X12_keeps N x2 s1250) fun s1280 =>
      L_X12_plainOf_12 N n (mw (x2 + 1)) s1280
    else
      L_X12_plainOf_12 N n (mw (x2 + 1)) s1250 := rfl
noncomputable def f_X12_plainOf (N : Nat) (a1 : Int) (σ : mS) : Option (mS) :=
  Option.bind (f_X12_list N a1 σ) fun s1187 =>
  Option.bind (L_X12_plainOf_12 N N 0 (mup s1187 71 0 27 0)) fun s1287 =>
  some s1287
noncomputable def L_X12_turns_23 (N : Nat) (n : Nat) : Int → Int → Int → Int → Int → mS → Option (mS) := @Nat.rec (fun _ => Int → Int → Int → Int → Int → mS → Option (mS)) (fun _ _ _ _ _ _ => none) (fun n ih x1 x2 x3 x4 x5 σ =>
  if (3 : Int) ≤ x5 then
    some σ
  else
    if x5 = 0 then
      if (0 ≤ (mw ((mw ((3 : Int) * x1)) + x5)) ∧ (mw ((mw ((3 : Int) * x1)) + x5)) < 144) then
        Option.bind (f_X12_size N (σ 74 0 ((mw ((mw ((3 : Int) * x1)) + x5)).toNat)) σ) fun ⟨v1324, s1323⟩ =>
        if v1324 = (1 : Int) then
          if 0 ≤ (σ 74 0 ((mw ((mw ((3 : Int) * x1)) + x5)).toNat)) then
            ih x1 x2 x3 x4 (mw (x5 + 1)) (mup s1323 71 0 14 x2)
          else
            if (o_rem x2 2) = (1 : Int) then
              ih x1 x2 x3 x4 (mw (x5 + 1)) (mup (mup s1323 71 0 14 x2) 71 0 17 (mw (-(s1323 71 0 17))))
            else
              ih x1 x2 x3 x4 (mw (x5 + 1)) (mup s1323 71 0 14 x2)
        else
          Option.bind (f_X12_size N (σ 74 0 ((mw ((mw ((3 : Int) * x1)) + x5)).toNat)) s1323) fun ⟨v1326, s1325⟩ =>
          if v1326 = (2 : Int) then
            if 0 ≤ (σ 74 0 ((mw ((mw ((3 : Int) * x1)) + x5)).toNat)) then
              ih x1 x2 x3 x4 (mw (x5 + 1)) (mup s1325 71 0 15 x2)
            else
              if (o_rem x2 2) = (1 : Int) then
                ih x1 x2 x3 x4 (mw (x5 + 1)) (mup (mup s1325 71 0 15 x2) 71 0 17 (mw (-(s1325 71 0 17))))
              else
                ih x1 x2 x3 x4 (mw (x5 + 1)) (mup s1325 71 0 15 x2)
          else
            if 0 ≤ (σ 74 0 ((mw ((mw ((3 : Int) * x1)) + x5)).toNat)) then
              ih x1 x2 x3 x4 (mw (x5 + 1)) (mup s1325 71 0 16 x2)
            else
              if (o_rem x2 2) = (1 : Int) then
                ih x1 x2 x3 x4 (mw (x5 + 1)) (mup (mup s1325 71 0 16 x2) 71 0 17 (mw (-(s1325 71 0 17))))
              else
                ih x1 x2 x3 x4 (mw (x5 + 1)) (mup s1325 71 0 16 x2)
      else none
    else
      if x5 = (1 : Int) then
        if (0 ≤ (mw ((mw ((3 : Int) * x1)) + x5)) ∧ (mw ((mw ((3 : Int) * x1)) + x5)) < 144) then
          Option.bind (f_X12_size N (σ 74 0 ((mw ((mw ((3 : Int) * x1)) + x5)).toNat)) σ) fun ⟨v1309, s1308⟩ =>
          if v1309 = (1 : Int) then
            if 0 ≤ (σ 74 0 ((mw ((mw ((3 : Int) * x1)) + x5)).toNat)) then
              ih x1 x2 x3 x4 (mw (x5 + 1)) (mup s1308 71 0 14 x3)
            else
              if (o_rem x3 2) = (1 : Int) then
                ih x1 x2 x3 x4 (mw (x5 + 1)) (mup (mup s1308 71 0 14 x3) 71 0 17 (mw (-(s1308 71 0 17))))
              else
                ih x1 x2 x3 x4 (mw (x5 + 1)) (mup s1308 71 0 14 x3)
          else
            Option.bind (f_X12_size N (σ 74 0 ((mw ((mw ((3 : Int) * x1)) + x5)).toNat)) s1308) fun ⟨v1311, s1310⟩ =>
            if v1311 = (2 : Int) then
              if 0 ≤ (σ 74 0 ((mw ((mw ((3 : Int) * x1)) + x5)).toNat)) then
                ih x1 x2 x3 x4 (mw (x5 + 1)) (mup s1310 71 0 15 x3)
              else
                if (o_rem x3 2) = (1 : Int) then
                  ih x1 x2 x3 x4 (mw (x5 + 1)) (mup (mup s1310 71 0 15 x3) 71 0 17 (mw (-(s1310 71 0 17))))
                else
                  ih x1 x2 x3 x4 (mw (x5 + 1)) (mup s1310 71 0 15 x3)
            else
              if 0 ≤ (σ 74 0 ((mw ((mw ((3 : Int) * x1)) + x5)).toNat)) then
                ih x1 x2 x3 x4 (mw (x5 + 1)) (mup s1310 71 0 16 x3)
              else
                if (o_rem x3 2) = (1 : Int) then
                  ih x1 x2 x3 x4 (mw (x5 + 1)) (mup (mup s1310 71 0 16 x3) 71 0 17 (mw (-(s1310 71 0 17))))
                else
                  ih x1 x2 x3 x4 (mw (x5 + 1)) (mup s1310 71 0 16 x3)
        else none
      else
        if (0 ≤ (mw ((mw ((3 : Int) * x1)) + x5)) ∧ (mw ((mw ((3 : Int) * x1)) + x5)) < 144) then
          Option.bind (f_X12_size N (σ 74 0 ((mw ((mw ((3 : Int) * x1)) + x5)).toNat)) σ) fun ⟨v1295, s1294⟩ =>
          if v1295 = (1 : Int) then
            if 0 ≤ (σ 74 0 ((mw ((mw ((3 : Int) * x1)) + x5)).toNat)) then
              ih x1 x2 x3 x4 (mw (x5 + 1)) (mup s1294 71 0 14 x4)
            else
              if (o_rem x4 2) = (1 : Int) then
                ih x1 x2 x3 x4 (mw (x5 + 1)) (mup (mup s1294 71 0 14 x4) 71 0 17 (mw (-(s1294 71 0 17))))
              else
                ih x1 x2 x3 x4 (mw (x5 + 1)) (mup s1294 71 0 14 x4)
          else
            Option.bind (f_X12_size N (σ 74 0 ((mw ((mw ((3 : Int) * x1)) + x5)).toNat)) s1294) fun ⟨v1297, s1296⟩ =>
            if v1297 = (2 : Int) then
              if 0 ≤ (σ 74 0 ((mw ((mw ((3 : Int) * x1)) + x5)).toNat)) then
                ih x1 x2 x3 x4 (mw (x5 + 1)) (mup s1296 71 0 15 x4)
              else
                if (o_rem x4 2) = (1 : Int) then
                  ih x1 x2 x3 x4 (mw (x5 + 1)) (mup (mup s1296 71 0 15 x4) 71 0 17 (mw (-(s1296 71 0 17))))
                else
                  ih x1 x2 x3 x4 (mw (x5 + 1)) (mup s1296 71 0 15 x4)
            else
              if 0 ≤ (σ 74 0 ((mw ((mw ((3 : Int) * x1)) + x5)).toNat)) then
                ih x1 x2 x3 x4 (mw (x5 + 1)) (mup s1296 71 0 16 x4)
              else
                if (o_rem x4 2) = (1 : Int) then
                  ih x1 x2 x3 x4 (mw (x5 + 1)) (mup (mup s1296 71 0 16 x4) 71 0 17 (mw (-(s1296 71 0 17))))
                else
                  ih x1 x2 x3 x4 (mw (x5 + 1)) (mup s1296 71 0 16 x4)
        else none
  ) n
theorem L_X12_turns_23_s (N n : Nat) (x1 : Int) (x2 : Int) (x3 : Int) (x4 : Int) (x5 : Int) (σ : mS) : L_X12_turns_23 N (n + 1) x1 x2 x3 x4 x5 σ =
  if (3 : Int) ≤ x5 then
    some σ
  else
    if x5 = 0 then
      if (0 ≤ (mw ((mw ((3 : Int) * x1)) + x5)) ∧ (mw ((mw ((3 : Int) * x1)) + x5)) < 144) then
        Option.bind (f_X12_size N (σ 74 0 ((mw ((mw ((3 : Int) * x1)) + x5)).toNat)) σ) fun ⟨v1324, s1323⟩ =>
        if v1324 = (1 : Int) then
          if 0 ≤ (σ 74 0 ((mw ((mw ((3 : Int) * x1)) + x5)).toNat)) then
            L_X12_turns_23 N n x1 x2 x3 x4 (mw (x5 + 1)) (mup s1323 71 0 14 x2)
          else
            if (o_rem x2 2) = (1 : Int) then
              L_X12_turns_23 N n x1 x2 x3 x4 (mw (x5 + 1)) (mup (mup s1323 71 0 14 x2) 71 0 17 (mw (-(s1323 71 0 17))))
            else
              L_X12_turns_23 N n x1 x2 x3 x4 (mw (x5 + 1)) (mup s1323 71 0 14 x2)
        else
          Option.bind (f_X12_size N (σ 74 0 ((mw ((mw ((3 : Int) * x1)) + x5)).toNat)) s1323) fun ⟨v1326, s1325⟩ =>
          if v1326 = (2 : Int) then
            if 0 ≤ (σ 74 0 ((mw ((mw ((3 : Int) * x1)) + x5)).toNat)) then
              L_X12_turns_23 N n x1 x2 x3 x4 (mw (x5 + 1)) (mup s1325 71 0 15 x2)
            else
              if (o_rem x2 2) = (1 : Int) then
                L_X12_turns_23 N n x1 x2 x3 x4 (mw (x5 + 1)) (mup (mup s1325 71 0 15 x2) 71 0 17 (mw (-(s1325 71 0 17))))
              else
                L_X12_turns_23 N n x1 x2 x3 x4 (mw (x5 + 1)) (mup s1325 71 0 15 x2)
          else
            if 0 ≤ (σ 74 0 ((mw ((mw ((3 : Int) * x1)) + x5)).toNat)) then
              L_X12_turns_23 N n x1 x2 x3 x4 (mw (x5 + 1)) (mup s1325 71 0 16 x2)
            else
              if (o_rem x2 2) = (1 : Int) then
                L_X12_turns_23 N n x1 x2 x3 x4 (mw (x5 + 1)) (mup (mup s1325 71 0 16 x2) 71 0 17 (mw (-(s1325 71 0 17))))
              else
                L_X12_turns_23 N n x1 x2 x3 x4 (mw (x5 + 1)) (mup s1325 71 0 16 x2)
      else none
    else
      if x5 = (1 : Int) then
        if (0 ≤ (mw ((mw ((3 : Int) * x1)) + x5)) ∧ (mw ((mw ((3 : Int) * x1)) + x5)) < 144) then
          Option.bind (f_X12_size N (σ 74 0 ((mw ((mw ((3 : Int) * x1)) + x5)).toNat)) σ) fun ⟨v1309, s1308⟩ =>
          if v1309 = (1 : Int) then
            if 0 ≤ (σ 74 0 ((mw ((mw ((3 : Int) * x1)) + x5)).toNat)) then
              L_X12_turns_23 N n x1 x2 x3 x4 (mw (x5 + 1)) (mup s1308 71 0 14 x3)
            else
              if (o_rem x3 2) = (1 : Int) then
                L_X12_turns_23 N n x1 x2 x3 x4 (mw (x5 + 1)) (mup (mup s1308 71 0 14 x3) 71 0 17 (mw (-(s1308 71 0 17))))
              else
                L_X12_turns_23 N n x1 x2 x3 x4 (mw (x5 + 1)) (mup s1308 71 0 14 x3)
          else
            Option.bind (f_X12_size N (σ 74 0 ((mw ((mw ((3 : Int) * x1)) + x5)).toNat)) s1308) fun ⟨v1311, s1310⟩ =>
            if v1311 = (2 : Int) then
              if 0 ≤ (σ 74 0 ((mw ((mw ((3 : Int) * x1)) + x5)).toNat)) then
                L_X12_turns_23 N n x1 x2 x3 x4 (mw (x5 + 1)) (mup s1310 71 0 15 x3)
              else
                if (o_rem x3 2) = (1 : Int) then
                  L_X12_turns_23 N n x1 x2 x3 x4 (mw (x5 + 1)) (mup (mup s1310 71 0 15 x3) 71 0 17 (mw (-(s1310 71 0 17))))
                else
                  L_X12_turns_23 N n x1 x2 x3 x4 (mw (x5 + 1)) (mup s1310 71 0 15 x3)
            else
              if 0 ≤ (σ 74 0 ((mw ((mw ((3 : Int) * x1)) + x5)).toNat)) then
                L_X12_turns_23 N n x1 x2 x3 x4 (mw (x5 + 1)) (mup s1310 71 0 16 x3)
              else
                if (o_rem x3 2) = (1 : Int) then
                  L_X12_turns_23 N n x1 x2 x3 x4 (mw (x5 + 1)) (mup (mup s1310 71 0 16 x3) 71 0 17 (mw (-(s1310 71 0 17))))
                else
                  L_X12_turns_23 N n x1 x2 x3 x4 (mw (x5 + 1)) (mup s1310 71 0 16 x3)
        else none
      else
        if (0 ≤ (mw ((mw ((3 : Int) * x1)) + x5)) ∧ (mw ((mw ((3 : Int) * x1)) + x5)) < 144) then
          Option.bind (f_X12_size N (σ 74 0 ((mw ((mw ((3 : Int) * x1)) + x5)).toNat)) σ) fun ⟨v1295, s1294⟩ =>
          if v1295 = (1 : Int) then
            if 0 ≤ (σ 74 0 ((mw ((mw ((3 : Int) * x1)) + x5)).toNat)) then
              L_X12_turns_23 N n x1 x2 x3 x4 (mw (x5 + 1)) (mup s1294 71 0 14 x4)
            else
              if (o_rem x4 2) = (1 : Int) then
                L_X12_turns_23 N n x1 x2 x3 x4 (mw (x5 + 1)) (mup (mup s1294 71 0 14 x4) 71 0 17 (mw (-(s1294 71 0 17))))
              else
                L_X12_turns_23 N n x1 x2 x3 x4 (mw (x5 + 1)) (mup s1294 71 0 14 x4)
          else
            Option.bind (f_X12_size N (σ 74 0 ((mw ((mw ((3 : Int) * x1)) + x5)).toNat)) s1294) fun ⟨v1297, s1296⟩ =>
            if v1297 = (2 : Int) then
              if 0 ≤ (σ 74 0 ((mw ((mw ((3 : Int) * x1)) + x5)).toNat)) then
                L_X12_turns_23 N n x1 x2 x3 x4 (mw (x5 + 1)) (mup s1296 71 0 15 x4)
              else
                if (o_rem x4 2) = (1 : Int) then
                  L_X12_turns_23 N n x1 x2 x3 x4 (mw (x5 + 1)) (mup (mup s1296 71 0 15 x4) 71 0 17 (mw (-(s1296 71 0 17))))
                else
                  L_X12_turns_23 N n x1 x2 x3 x4 (mw (x5 + 1)) (mup s1296 71 0 15 x4)
            else
              if 0 ≤ (σ 74 0 ((mw ((mw ((3 : Int) * x1)) + x5)).toNat)) then
                L_X12_turns_23 N n x1 x2 x3 x4 (mw (x5 + 1)) (mup s1296 71 0 16 x4)
              else
                if (o_rem x4 2) = (1 : Int) then
                  L_X12_turns_23 N n x1 x2 x3 x4 (mw (x5 + 1)) (mup (mup s1296 71 0 16 x4) 71 0 17 (mw (-(s1296 71 0 17))))
                else
                  L_X12_turns_23 N n x1 x2 x3 x4 (mw (x5 + 1)) (mup s1296 71 0 16 x4)
        else none := rfl
noncomputable def f_X12_turns (N : Nat) (a1 : Int) (a2 : Int) (a3 : Int) (a4 : Int) (σ : mS) : Option (mS) :=
  Option.bind (L_X12_turns_23 N N a1 a2 a3 a4 0 (mup (mup (mup (mup σ 71 0 14 0) 71 0 15 0) 71 0 16 0) 71 0 17 1)) fun s1339 =>
  some s1339
noncomputable def f_X12_at (N : Nat) (a0 : Int) (a1 : Int) (a2 : Int) (σ : mS) : Option (Int × mS) :=
  some ((mw ((mw ((mw ((81 : Int) * a0)) + (mw ((9 : Int) * a1)))) + a2)), σ)
noncomputable def L_X12_meanOf_18 (N : Nat) (n : Nat) : Int → Int → Int → Int → Int → mS → Option (mS) := @Nat.rec (fun _ => Int → Int → Int → Int → Int → mS → Option (mS)) (fun _ _ _ _ _ _ => none) (fun n ih x1 x2 x3 x4 x5 σ =>
  if (σ 71 0 6) ≤ x5 then
    some σ
  else
    Option.bind (f_X12_turns N x5 x1 x2 x3 σ) fun s1341 =>
    Option.bind (f_X12_at N (s1341 71 0 14) (s1341 71 0 15) (s1341 71 0 16) s1341) fun ⟨v1343, s1342⟩ =>
    if (0 ≤ (mw ((6561 : Int) + v1343)) ∧ (mw ((6561 : Int) + v1343)) < 7290) then
      Option.bind (f_X12_left N (mx ((s1342 81 0 ((mw ((6561 : Int) + v1343)).toNat)) + (mx ((s1342 71 0 17) * x4)))) s1342) fun ⟨v1345, s1344⟩ =>
      if (0 ≤ (mw ((6561 : Int) + v1343)) ∧ (mw ((6561 : Int) + v1343)) < 7290) then
        ih x1 x2 x3 x4 (mw (x5 + 1)) (mup s1344 81 0 ((mw ((6561 : Int) + v1343)).toNat) v1345)
      else none
    else none
  ) n
theorem L_X12_meanOf_18_s (N n : Nat) (x1 : Int) (x2 : Int) (x3 : Int) (x4 : Int) (x5 : Int) (σ : mS) : L_X12_meanOf_18 N (n + 1) x1 x2 x3 x4 x5 σ =
  if (σ 71 0 6) ≤ x5 then
    some σ
  else
    Option.bind (f_X12_turns N x5 x1 x2 x3 σ) fun s1341 =>
    Option.bind (f_X12_at N (s1341 71 0 14) (s1341 71 0 15) (s1341 71 0 16) s1341) fun ⟨v1343, s1342⟩ =>
    if (0 ≤ (mw ((6561 : Int) + v1343)) ∧ (mw ((6561 : Int) + v1343)) < 7290) then
      Option.bind (f_X12_left N (mx ((s1342 81 0 ((mw ((6561 : Int) + v1343)).toNat)) + (mx ((s1342 71 0 17) * x4)))) s1342) fun ⟨v1345, s1344⟩ =>
      if (0 ≤ (mw ((6561 : Int) + v1343)) ∧ (mw ((6561 : Int) + v1343)) < 7290) then
        L_X12_meanOf_18 N n x1 x2 x3 x4 (mw (x5 + 1)) (mup s1344 81 0 ((mw ((6561 : Int) + v1343)).toNat) v1345)
      else none
    else none := rfl
noncomputable def f_X12_meanOf (N : Nat) (a1 : Int) (a2 : Int) (a3 : Int) (σ : mS) : Option (mS) :=
  Option.bind (f_X12_clear N 9 σ) fun s1291 =>
  Option.bind (f_X12_by N (s1291 71 0 6) s1291) fun ⟨v1293, s1292⟩ =>
  Option.bind (L_X12_meanOf_18 N N a1 a2 a3 v1293 0 s1292) fun s1350 =>
  some s1350
noncomputable def L_X12_findFew_60 (N : Nat) (n : Nat) : Int → Int → Int → Int → mS → Option (mS) := @Nat.rec (fun _ => Int → Int → Int → Int → mS → Option (mS)) (fun _ _ _ _ _ => none) (fun n ih x1 x2 x3 x4 σ =>
  if (729 : Int) ≤ x4 then
    some σ
  else
    if (0 ≤ (mw ((6561 : Int) + x4)) ∧ (mw ((6561 : Int) + x4)) < 7290) ∧ (0 ≤ (mw ((mw ((729 : Int) * (σ 71 0 19))) + x4)) ∧ (mw ((mw ((729 : Int) * (σ 71 0 19))) + x4)) < 29160) then
      ih x1 x2 x3 (mw (x4 + 1)) (mup σ 84 0 ((mw ((mw ((729 : Int) * (σ 71 0 19))) + x4)).toNat) (σ 81 0 ((mw ((6561 : Int) + x4)).toNat)))
    else none
  ) n
theorem L_X12_findFew_60_s (N n : Nat) (x1 : Int) (x2 : Int) (x3 : Int) (x4 : Int) (σ : mS) : L_X12_findFew_60 N (n + 1) x1 x2 x3 x4 σ =
  if (729 : Int) ≤ x4 then
    some σ
  else
    if (0 ≤ (mw ((6561 : Int) + x4)) ∧ (mw ((6561 : Int) + x4)) < 7290) ∧ (0 ≤ (mw ((mw ((729 : Int) * (σ 71 0 19))) + x4)) ∧ (mw ((mw ((729 : Int) * (σ 71 0 19))) + x4)) < 29160) then
      L_X12_findFew_60 N n x1 x2 x3 (mw (x4 + 1)) (mup σ 84 0 ((mw ((mw ((729 : Int) * (σ 71 0 19))) + x4)).toNat) (σ 81 0 ((mw ((6561 : Int) + x4)).toNat)))
    else none := rfl
noncomputable def L_X12_findFew_28 (N : Nat) (n : Nat) : Int → Int → Int → mS → Option (mS) := @Nat.rec (fun _ => Int → Int → Int → mS → Option (mS)) (fun _ _ _ _ => none) (fun n ih x1 x2 x3 σ =>
  if x3 < 0 then
    some σ
  else
    Option.bind (f_X12_meanOf N x2 x3 (mw ((mw (x1 - x2)) - x3)) σ) fun s1354 =>
    Option.bind (f_X12_handOther N s1354) fun s1355 =>
    Option.bind (f_X12_lessens N s1355) fun ⟨v1357, s1356⟩ =>
    if v1357 = 0 then
      Option.bind (L_X12_findFew_60 N N x1 x2 x3 0 s1356) fun s1359 =>
      if (0 ≤ (s1359 71 0 19) ∧ (s1359 71 0 19) < 40) then
        Option.bind (f_X12_keeps N 0 (mup (mup s1359 83 0 ((s1359 71 0 19).toNat) x1) 71 0 19 (mw ((s1359 71 0 19) + 1)))) fun s1360 =>
        ih x1 x2 (mw (x3 + (-1))) s1360
      else none
    else
      ih x1 x2 (mw (x3 + (-1))) s1356
  ) n
theorem L_X12_findFew_28_s (N n : Nat) (x1 : Int) (x2 : Int) (x3 : Int) (σ : mS) : L_X12_findFew_28 N (n + 1) x1 x2 x3 σ =
  if x3 < 0 then
    some σ
  else
    Option.bind (f_X12_meanOf N x2 x3 (mw ((mw (x1 - x2)) - x3)) σ) fun s1354 =>
    Option.bind (f_X12_handOther N s1354) fun s1355 =>
    Option.bind (f_X12_lessens N s1355) fun ⟨v1357, s1356⟩ =>
    if v1357 = 0 then
      Option.bind (L_X12_findFew_60 N N x1 x2 x3 0 s1356) fun s1359 =>
      if (0 ≤ (s1359 71 0 19) ∧ (s1359 71 0 19) < 40) then
        Option.bind (f_X12_keeps N 0 (mup (mup s1359 83 0 ((s1359 71 0 19).toNat) x1) 71 0 19 (mw ((s1359 71 0 19) + 1)))) fun s1360 =>
        L_X12_findFew_28 N n x1 x2 (mw (x3 + (-1))) s1360
      else none
    else
      L_X12_findFew_28 N n x1 x2 (mw (x3 + (-1))) s1356 := rfl
noncomputable def L_X12_findFew_20 (N : Nat) (n : Nat) : Int → Int → mS → Option (mS) := @Nat.rec (fun _ => Int → Int → mS → Option (mS)) (fun _ _ _ => none) (fun n ih x1 x2 σ =>
  if x2 < 0 then
    some σ
  else
    Option.bind (L_X12_findFew_28 N N x1 x2 (mw (x1 - x2)) σ) fun s1368 =>
    ih x1 (mw (x2 + (-1))) s1368
  ) n
theorem L_X12_findFew_20_s (N n : Nat) (x1 : Int) (x2 : Int) (σ : mS) : L_X12_findFew_20 N (n + 1) x1 x2 σ =
  if x2 < 0 then
    some σ
  else
    Option.bind (L_X12_findFew_28 N N x1 x2 (mw (x1 - x2)) σ) fun s1368 =>
    L_X12_findFew_20 N n x1 (mw (x2 + (-1))) s1368 := rfl
noncomputable def L_X12_findFew_7 (N : Nat) (n : Nat) : Int → mS → Option (mS) := @Nat.rec (fun _ => Int → mS → Option (mS)) (fun _ _ => none) (fun n ih x1 σ =>
  if (7 : Int) ≤ x1 then
    some σ
  else
    Option.bind (f_X12_plainOf N x1 σ) fun s1290 =>
    Option.bind (L_X12_findFew_20 N N x1 x1 s1290) fun s1371 =>
    ih (mw (x1 + 1)) s1371
  ) n
theorem L_X12_findFew_7_s (N n : Nat) (x1 : Int) (σ : mS) : L_X12_findFew_7 N (n + 1) x1 σ =
  if (7 : Int) ≤ x1 then
    some σ
  else
    Option.bind (f_X12_plainOf N x1 σ) fun s1290 =>
    Option.bind (L_X12_findFew_20 N N x1 x1 s1290) fun s1371 =>
    L_X12_findFew_7 N n (mw (x1 + 1)) s1371 := rfl
noncomputable def f_X12_findFew (N : Nat) (σ : mS) : Option (mS) :=
  Option.bind (L_X12_findFew_7 N N 1 (mup σ 71 0 19 0)) fun s1375 =>
  some s1375
noncomputable def L_X12_finds_7 (N : Nat) (n : Nat) : Int → mS → Option (mS) := @Nat.rec (fun _ => Int → mS → Option (mS)) (fun _ _ => none) (fun n ih x1 σ =>
  if (σ 71 0 6) ≤ x1 then
    some σ
  else
    if (0 ≤ x1 ∧ x1 < 48) then
      ih (mw (x1 + 1)) (mup σ 78 0 x1.toNat (-1))
    else none
  ) n
theorem L_X12_finds_7_s (N n : Nat) (x1 : Int) (σ : mS) : L_X12_finds_7 N (n + 1) x1 σ =
  if (σ 71 0 6) ≤ x1 then
    some σ
  else
    if (0 ≤ x1 ∧ x1 < 48) then
      L_X12_finds_7 N n (mw (x1 + 1)) (mup σ 78 0 x1.toNat (-1))
    else none := rfl
noncomputable def L_X12_finds_53 (N : Nat) (n : Nat) : Int → Int → mS → Option (mS) := @Nat.rec (fun _ => Int → Int → mS → Option (mS)) (fun _ _ _ => none) (fun n ih x1 x2 σ =>
  if (σ 71 0 6) ≤ x2 then
    some σ
  else
    Option.bind (f_X12_product N x2 x1 σ) fun ⟨v1092, s1091⟩ =>
    Option.bind (f_X12_back N x2 s1091) fun ⟨v1101, s1100⟩ =>
    Option.bind (f_X12_product N v1092 v1101 s1100) fun ⟨v1103, s1102⟩ =>
    if (0 ≤ v1103 ∧ v1103 < 48) then
      ih x1 (mw (x2 + 1)) (mup s1102 78 0 v1103.toNat (s1102 71 0 10))
    else none
  ) n
theorem L_X12_finds_53_s (N n : Nat) (x1 : Int) (x2 : Int) (σ : mS) : L_X12_finds_53 N (n + 1) x1 x2 σ =
  if (σ 71 0 6) ≤ x2 then
    some σ
  else
    Option.bind (f_X12_product N x2 x1 σ) fun ⟨v1092, s1091⟩ =>
    Option.bind (f_X12_back N x2 s1091) fun ⟨v1101, s1100⟩ =>
    Option.bind (f_X12_product N v1092 v1101 s1100) fun ⟨v1103, s1102⟩ =>
    if (0 ≤ v1103 ∧ v1103 < 48) then
      L_X12_finds_53 N n x1 (mw (x2 + 1)) (mup s1102 78 0 v1103.toNat (s1102 71 0 10))
    else none := rfl
noncomputable def L_X12_finds_30 (N : Nat) (n : Nat) : Int → mS → Option (mS) := @Nat.rec (fun _ => Int → mS → Option (mS)) (fun _ _ => none) (fun n ih x1 σ =>
  if (σ 71 0 6) ≤ x1 then
    some σ
  else
    if (0 ≤ x1 ∧ x1 < 48) then
      if (σ 78 0 x1.toNat) = (-1 : Int) then
        Option.bind (L_X12_finds_53 N N x1 0 σ) fun s1108 =>
        ih (mw (x1 + 1)) (mup s1108 71 0 10 (mw ((s1108 71 0 10) + 1)))
      else
        ih (mw (x1 + 1)) σ
    else none
  ) n
theorem L_X12_finds_30_s (N n : Nat) (x1 : Int) (σ : mS) : L_X12_finds_30 N (n + 1) x1 σ =
  if (σ 71 0 6) ≤ x1 then
    some σ
  else
    if (0 ≤ x1 ∧ x1 < 48) then
      if (σ 78 0 x1.toNat) = (-1 : Int) then
        Option.bind (L_X12_finds_53 N N x1 0 σ) fun s1108 =>
        L_X12_finds_30 N n (mw (x1 + 1)) (mup s1108 71 0 10 (mw ((s1108 71 0 10) + 1)))
      else
        L_X12_finds_30 N n (mw (x1 + 1)) σ
    else none := rfl
noncomputable def f_X12_finds (N : Nat) (σ : mS) : Option (mS) :=
  Option.bind (L_X12_finds_7 N N 0 (mup σ 71 0 10 0)) fun s1078 =>
  Option.bind (L_X12_finds_30 N N 0 s1078) fun s1112 =>
  Option.bind (f_X12_findSigns N s1112) fun s1171 =>
  Option.bind (f_X12_findFew N s1171) fun s1377 =>
  some s1377
noncomputable def L_X12_group_31 (N : Nat) (n : Nat) : Int → Int → mS → Option (mS) := @Nat.rec (fun _ => Int → Int → mS → Option (mS)) (fun _ _ _ => none) (fun n ih x1 x2 σ =>
  if (3 : Int) ≤ x2 then
    some σ
  else
    if (0 ≤ (mw ((mw ((3 : Int) * x1)) + x2)) ∧ (mw ((mw ((3 : Int) * x1)) + x2)) < 12) ∧ (0 ≤ (mw ((mw ((3 : Int) * (σ 71 0 7))) + x2)) ∧ (mw ((mw ((3 : Int) * (σ 71 0 7))) + x2)) < 12) then
      ih x1 (mw (x2 + 1)) (mup σ 77 0 ((mw ((mw ((3 : Int) * (σ 71 0 7))) + x2)).toNat) (σ 73 0 ((mw ((mw ((3 : Int) * x1)) + x2)).toNat)))
    else none
  ) n
theorem L_X12_group_31_s (N n : Nat) (x1 : Int) (x2 : Int) (σ : mS) : L_X12_group_31 N (n + 1) x1 x2 σ =
  if (3 : Int) ≤ x2 then
    some σ
  else
    if (0 ≤ (mw ((mw ((3 : Int) * x1)) + x2)) ∧ (mw ((mw ((3 : Int) * x1)) + x2)) < 12) ∧ (0 ≤ (mw ((mw ((3 : Int) * (σ 71 0 7))) + x2)) ∧ (mw ((mw ((3 : Int) * (σ 71 0 7))) + x2)) < 12) then
      L_X12_group_31 N n x1 (mw (x2 + 1)) (mup σ 77 0 ((mw ((mw ((3 : Int) * (σ 71 0 7))) + x2)).toNat) (σ 73 0 ((mw ((mw ((3 : Int) * x1)) + x2)).toNat)))
    else none := rfl
noncomputable def L_X12_group_12 (N : Nat) (n : Nat) : Int → mS → Option (mS) := @Nat.rec (fun _ => Int → mS → Option (mS)) (fun _ _ => none) (fun n ih x1 σ =>
  if (4 : Int) ≤ x1 then
    some σ
  else
    if (0 ≤ x1 ∧ x1 < 4) then
      if (σ 72 0 x1.toNat) = 0 then
        ih (mw (x1 + 1)) σ
      else
        Option.bind (L_X12_group_31 N N x1 0 σ) fun s1035 =>
        ih (mw (x1 + 1)) (mup s1035 71 0 7 (mw ((s1035 71 0 7) + 1)))
    else none
  ) n
theorem L_X12_group_12_s (N n : Nat) (x1 : Int) (σ : mS) : L_X12_group_12 N (n + 1) x1 σ =
  if (4 : Int) ≤ x1 then
    some σ
  else
    if (0 ≤ x1 ∧ x1 < 4) then
      if (σ 72 0 x1.toNat) = 0 then
        L_X12_group_12 N n (mw (x1 + 1)) σ
      else
        Option.bind (L_X12_group_31 N N x1 0 σ) fun s1035 =>
        L_X12_group_12 N n (mw (x1 + 1)) (mup s1035 71 0 7 (mw ((s1035 71 0 7) + 1)))
    else none := rfl
noncomputable def L_X12_group_93 (N : Nat) (n : Nat) : Int → Int → mS → Option (mS) := @Nat.rec (fun _ => Int → Int → mS → Option (mS)) (fun _ _ _ => none) (fun n ih x1 x2 σ =>
  if (σ 71 0 7) ≤ x2 then
    some σ
  else
    if (0 ≤ (mw ((3 : Int) * x1)) ∧ (mw ((3 : Int) * x1)) < 144) ∧ (0 ≤ (mw ((3 : Int) * x2)) ∧ (mw ((3 : Int) * x2)) < 12) ∧ (0 ≤ (mw ((mw ((3 : Int) * x2)) + 1)) ∧ (mw ((mw ((3 : Int) * x2)) + 1)) < 12) ∧ (0 ≤ (mw ((mw ((3 : Int) * x2)) + 2)) ∧ (mw ((mw ((3 : Int) * x2)) + 2)) < 12) then
      Option.bind (f_X12_then N (σ 74 0 ((mw ((3 : Int) * x1)).toNat)) (σ 77 0 ((mw ((3 : Int) * x2)).toNat)) (σ 77 0 ((mw ((mw ((3 : Int) * x2)) + 1)).toNat)) (σ 77 0 ((mw ((mw ((3 : Int) * x2)) + 2)).toNat)) σ) fun ⟨v1052, s1051⟩ =>
      if (0 ≤ (mw ((mw ((3 : Int) * x1)) + 1)) ∧ (mw ((mw ((3 : Int) * x1)) + 1)) < 144) ∧ (0 ≤ (mw ((3 : Int) * x2)) ∧ (mw ((3 : Int) * x2)) < 12) ∧ (0 ≤ (mw ((mw ((3 : Int) * x2)) + 1)) ∧ (mw ((mw ((3 : Int) * x2)) + 1)) < 12) ∧ (0 ≤ (mw ((mw ((3 : Int) * x2)) + 2)) ∧ (mw ((mw ((3 : Int) * x2)) + 2)) < 12) then
        Option.bind (f_X12_then N (s1051 74 0 ((mw ((mw ((3 : Int) * x1)) + 1)).toNat)) (s1051 77 0 ((mw ((3 : Int) * x2)).toNat)) (s1051 77 0 ((mw ((mw ((3 : Int) * x2)) + 1)).toNat)) (s1051 77 0 ((mw ((mw ((3 : Int) * x2)) + 2)).toNat)) s1051) fun ⟨v1054, s1053⟩ =>
        if (0 ≤ (mw ((mw ((3 : Int) * x1)) + 2)) ∧ (mw ((mw ((3 : Int) * x1)) + 2)) < 144) ∧ (0 ≤ (mw ((3 : Int) * x2)) ∧ (mw ((3 : Int) * x2)) < 12) ∧ (0 ≤ (mw ((mw ((3 : Int) * x2)) + 1)) ∧ (mw ((mw ((3 : Int) * x2)) + 1)) < 12) ∧ (0 ≤ (mw ((mw ((3 : Int) * x2)) + 2)) ∧ (mw ((mw ((3 : Int) * x2)) + 2)) < 12) then
          Option.bind (f_X12_then N (s1053 74 0 ((mw ((mw ((3 : Int) * x1)) + 2)).toNat)) (s1053 77 0 ((mw ((3 : Int) * x2)).toNat)) (s1053 77 0 ((mw ((mw ((3 : Int) * x2)) + 1)).toNat)) (s1053 77 0 ((mw ((mw ((3 : Int) * x2)) + 2)).toNat)) s1053) fun ⟨v1056, s1055⟩ =>
          Option.bind (f_X12_find N v1052 v1054 v1056 s1055) fun ⟨v1066, s1065⟩ =>
          if v1066 = (-1 : Int) then
            if (0 ≤ (mw ((3 : Int) * (s1065 71 0 6))) ∧ (mw ((3 : Int) * (s1065 71 0 6))) < 144) ∧ (0 ≤ (mw ((mw ((3 : Int) * (s1065 71 0 6))) + 1)) ∧ (mw ((mw ((3 : Int) * (s1065 71 0 6))) + 1)) < 144) ∧ (0 ≤ (mw ((mw ((3 : Int) * (s1065 71 0 6))) + 2)) ∧ (mw ((mw ((3 : Int) * (s1065 71 0 6))) + 2)) < 144) ∧ (0 ≤ (s1065 71 0 6) ∧ (s1065 71 0 6) < 48) then
              ih x1 (mw (x2 + 1)) (mup (mup (mup (mup (mup (mup s1065 74 0 ((mw ((3 : Int) * (s1065 71 0 6))).toNat) v1052) 74 0 ((mw ((mw ((3 : Int) * (s1065 71 0 6))) + 1)).toNat) v1054) 74 0 ((mw ((mw ((3 : Int) * (s1065 71 0 6))) + 2)).toNat) v1056) 75 0 ((s1065 71 0 6).toNat) x1) 76 0 ((s1065 71 0 6).toNat) x2) 71 0 6 (mw ((s1065 71 0 6) + 1)))
            else none
          else
            ih x1 (mw (x2 + 1)) s1065
        else none
      else none
    else none
  ) n
theorem L_X12_group_93_s (N n : Nat) (x1 : Int) (x2 : Int) (σ : mS) : L_X12_group_93 N (n + 1) x1 x2 σ =
  if (σ 71 0 7) ≤ x2 then
    some σ
  else
    if (0 ≤ (mw ((3 : Int) * x1)) ∧ (mw ((3 : Int) * x1)) < 144) ∧ (0 ≤ (mw ((3 : Int) * x2)) ∧ (mw ((3 : Int) * x2)) < 12) ∧ (0 ≤ (mw ((mw ((3 : Int) * x2)) + 1)) ∧ (mw ((mw ((3 : Int) * x2)) + 1)) < 12) ∧ (0 ≤ (mw ((mw ((3 : Int) * x2)) + 2)) ∧ (mw ((mw ((3 : Int) * x2)) + 2)) < 12) then
      Option.bind (f_X12_then N (σ 74 0 ((mw ((3 : Int) * x1)).toNat)) (σ 77 0 ((mw ((3 : Int) * x2)).toNat)) (σ 77 0 ((mw ((mw ((3 : Int) * x2)) + 1)).toNat)) (σ 77 0 ((mw ((mw ((3 : Int) * x2)) + 2)).toNat)) σ) fun ⟨v1052, s1051⟩ =>
      if (0 ≤ (mw ((mw ((3 : Int) * x1)) + 1)) ∧ (mw ((mw ((3 : Int) * x1)) + 1)) < 144) ∧ (0 ≤ (mw ((3 : Int) * x2)) ∧ (mw ((3 : Int) * x2)) < 12) ∧ (0 ≤ (mw ((mw ((3 : Int) * x2)) + 1)) ∧ (mw ((mw ((3 : Int) * x2)) + 1)) < 12) ∧ (0 ≤ (mw ((mw ((3 : Int) * x2)) + 2)) ∧ (mw ((mw ((3 : Int) * x2)) + 2)) < 12) then
        Option.bind (f_X12_then N (s1051 74 0 ((mw ((mw ((3 : Int) * x1)) + 1)).toNat)) (s1051 77 0 ((mw ((3 : Int) * x2)).toNat)) (s1051 77 0 ((mw ((mw ((3 : Int) * x2)) + 1)).toNat)) (s1051 77 0 ((mw ((mw ((3 : Int) * x2)) + 2)).toNat)) s1051) fun ⟨v1054, s1053⟩ =>
        if (0 ≤ (mw ((mw ((3 : Int) * x1)) + 2)) ∧ (mw ((mw ((3 : Int) * x1)) + 2)) < 144) ∧ (0 ≤ (mw ((3 : Int) * x2)) ∧ (mw ((3 : Int) * x2)) < 12) ∧ (0 ≤ (mw ((mw ((3 : Int) * x2)) + 1)) ∧ (mw ((mw ((3 : Int) * x2)) + 1)) < 12) ∧ (0 ≤ (mw ((mw ((3 : Int) * x2)) + 2)) ∧ (mw ((mw ((3 : Int) * x2)) + 2)) < 12) then
          Option.bind (f_X12_then N (s1053 74 0 ((mw ((mw ((3 : Int) * x1)) + 2)).toNat)) (s1053 77 0 ((mw ((3 : Int) * x2)).toNat)) (s1053 77 0 ((mw ((mw ((3 : Int) * x2)) + 1)).toNat)) (s1053 77 0 ((mw ((mw ((3 : Int) * x2)) + 2)).toNat)) s1053) fun ⟨v1056, s1055⟩ =>
          Option.bind (f_X12_find N v1052 v1054 v1056 s1055) fun ⟨v1066, s1065⟩ =>
          if v1066 = (-1 : Int) then
            if (0 ≤ (mw ((3 : Int) * (s1065 71 0 6))) ∧ (mw ((3 : Int) * (s1065 71 0 6))) < 144) ∧ (0 ≤ (mw ((mw ((3 : Int) * (s1065 71 0 6))) + 1)) ∧ (mw ((mw ((3 : Int) * (s1065 71 0 6))) + 1)) < 144) ∧ (0 ≤ (mw ((mw ((3 : Int) * (s1065 71 0 6))) + 2)) ∧ (mw ((mw ((3 : Int) * (s1065 71 0 6))) + 2)) < 144) ∧ (0 ≤ (s1065 71 0 6) ∧ (s1065 71 0 6) < 48) then
              L_X12_group_93 N n x1 (mw (x2 + 1)) (mup (mup (mup (mup (mup (mup s1065 74 0 ((mw ((3 : Int) * (s1065 71 0 6))).toNat) v1052) 74 0 ((mw ((mw ((3 : Int) * (s1065 71 0 6))) + 1)).toNat) v1054) 74 0 ((mw ((mw ((3 : Int) * (s1065 71 0 6))) + 2)).toNat) v1056) 75 0 ((s1065 71 0 6).toNat) x1) 76 0 ((s1065 71 0 6).toNat) x2) 71 0 6 (mw ((s1065 71 0 6) + 1)))
            else none
          else
            L_X12_group_93 N n x1 (mw (x2 + 1)) s1065
        else none
      else none
    else none := rfl
noncomputable def L_X12_group_83 (N : Nat) (n : Nat) : Int → mS → Option (mS) := @Nat.rec (fun _ => Int → mS → Option (mS)) (fun _ _ => none) (fun n ih x1 σ =>
  if (σ 71 0 6) ≤ x1 then
    some σ
  else
    Option.bind (L_X12_group_93 N N x1 0 σ) fun s1073 =>
    ih (mw (x1 + 1)) s1073
  ) n
theorem L_X12_group_83_s (N n : Nat) (x1 : Int) (σ : mS) : L_X12_group_83 N (n + 1) x1 σ =
  if (σ 71 0 6) ≤ x1 then
    some σ
  else
    Option.bind (L_X12_group_93 N N x1 0 σ) fun s1073 =>
    L_X12_group_83 N n (mw (x1 + 1)) s1073 := rfl
noncomputable def f_X12_group (N : Nat) (σ : mS) : Option (Int × mS) :=
  Option.bind (L_X12_group_12 N N 0 (mup (mup σ 71 0 6 1) 71 0 7 0)) fun s1039 =>
  Option.bind (L_X12_group_83 N N 0 s1039) fun s1076 =>
  Option.bind (f_X12_finds N s1076) fun s1382 =>
  some ((s1382 71 0 6), s1382)
noncomputable def L_X12_order_4 (N : Nat) (n : Nat) : Int → Int → Int → mS → Option (Int × mS) := @Nat.rec (fun _ => Int → Int → Int → mS → Option (Int × mS)) (fun _ _ _ _ => none) (fun n ih x1 x2 x3 σ =>
  if x3 = 0 then
    some (x2, σ)
  else
    Option.bind (f_X12_product N x3 x1 σ) fun ⟨v1393, s1392⟩ =>
    ih x1 (mw (x2 + 1)) v1393 s1392
  ) n
theorem L_X12_order_4_s (N n : Nat) (x1 : Int) (x2 : Int) (x3 : Int) (σ : mS) : L_X12_order_4 N (n + 1) x1 x2 x3 σ =
  if x3 = 0 then
    some (x2, σ)
  else
    Option.bind (f_X12_product N x3 x1 σ) fun ⟨v1393, s1392⟩ =>
    L_X12_order_4 N n x1 (mw (x2 + 1)) v1393 s1392 := rfl
noncomputable def f_X12_order (N : Nat) (a1 : Int) (σ : mS) : Option (Int × mS) :=
  Option.bind (L_X12_order_4 N N a1 1 a1 σ) fun ⟨o1397, s1396⟩ =>
  some (o1397, s1396)
noncomputable def f_X12_to (N : Nat) (a1 : Int) (a2 : Int) (σ : mS) : Option (Int × mS) :=
  if (0 ≤ (mw ((mw ((3 : Int) * a1)) + a2)) ∧ (mw ((mw ((3 : Int) * a1)) + a2)) < 144) then
    Option.bind (f_X12_size N (σ 74 0 ((mw ((mw ((3 : Int) * a1)) + a2)).toNat)) σ) fun ⟨v1418, s1417⟩ =>
    some ((mw (v1418 - 1)), s1417)
  else none
noncomputable def L_X12_ringLeast_10 (N : Nat) (n : Nat) : Int → Int → Int → Int → mS → Option (Int × mS) := @Nat.rec (fun _ => Int → Int → Int → Int → mS → Option (Int × mS)) (fun _ _ _ _ _ => none) (fun n ih x1 x2 x3 x4 σ =>
  if x4 = x2 then
    some (x3, σ)
  else
    if x3 ≤ x4 then
      Option.bind (f_X12_to N x1 x4 σ) fun ⟨v1423, s1422⟩ =>
      ih x1 x2 x3 v1423 s1422
    else
      Option.bind (f_X12_to N x1 x4 σ) fun ⟨v1426, s1425⟩ =>
      ih x1 x2 x4 v1426 s1425
  ) n
theorem L_X12_ringLeast_10_s (N n : Nat) (x1 : Int) (x2 : Int) (x3 : Int) (x4 : Int) (σ : mS) : L_X12_ringLeast_10 N (n + 1) x1 x2 x3 x4 σ =
  if x4 = x2 then
    some (x3, σ)
  else
    if x3 ≤ x4 then
      Option.bind (f_X12_to N x1 x4 σ) fun ⟨v1423, s1422⟩ =>
      L_X12_ringLeast_10 N n x1 x2 x3 v1423 s1422
    else
      Option.bind (f_X12_to N x1 x4 σ) fun ⟨v1426, s1425⟩ =>
      L_X12_ringLeast_10 N n x1 x2 x4 v1426 s1425 := rfl
noncomputable def f_X12_ringLeast (N : Nat) (a1 : Int) (a2 : Int) (σ : mS) : Option (Int × mS) :=
  Option.bind (f_X12_to N a1 a2 σ) fun ⟨v1421, s1420⟩ =>
  Option.bind (L_X12_ringLeast_10 N N a1 a2 a2 v1421 s1420) fun ⟨o1431, s1430⟩ =>
  some (o1431, s1430)
noncomputable def L_X12_ringSign_27 (N : Nat) (n : Nat) : Int → Int → Int → Int → mS → Option (Int × mS) := @Nat.rec (fun _ => Int → Int → Int → Int → mS → Option (Int × mS)) (fun _ _ _ _ _ => none) (fun n ih x1 x2 x3 x4 σ =>
  if x4 = x2 then
    some (x3, σ)
  else
    if (0 ≤ (mw ((mw ((3 : Int) * x1)) + x4)) ∧ (mw ((mw ((3 : Int) * x1)) + x4)) < 144) then
      if 0 ≤ (σ 74 0 ((mw ((mw ((3 : Int) * x1)) + x4)).toNat)) then
        Option.bind (f_X12_to N x1 x4 σ) fun ⟨v1439, s1438⟩ =>
        ih x1 x2 x3 v1439 s1438
      else
        Option.bind (f_X12_to N x1 x4 σ) fun ⟨v1442, s1441⟩ =>
        ih x1 x2 (mw (-x3)) v1442 s1441
    else none
  ) n
theorem L_X12_ringSign_27_s (N n : Nat) (x1 : Int) (x2 : Int) (x3 : Int) (x4 : Int) (σ : mS) : L_X12_ringSign_27 N (n + 1) x1 x2 x3 x4 σ =
  if x4 = x2 then
    some (x3, σ)
  else
    if (0 ≤ (mw ((mw ((3 : Int) * x1)) + x4)) ∧ (mw ((mw ((3 : Int) * x1)) + x4)) < 144) then
      if 0 ≤ (σ 74 0 ((mw ((mw ((3 : Int) * x1)) + x4)).toNat)) then
        Option.bind (f_X12_to N x1 x4 σ) fun ⟨v1439, s1438⟩ =>
        L_X12_ringSign_27 N n x1 x2 x3 v1439 s1438
      else
        Option.bind (f_X12_to N x1 x4 σ) fun ⟨v1442, s1441⟩ =>
        L_X12_ringSign_27 N n x1 x2 (mw (-x3)) v1442 s1441
    else none := rfl
noncomputable def f_X12_ringSign (N : Nat) (a1 : Int) (a2 : Int) (σ : mS) : Option (Int × mS) :=
  if (0 ≤ (mw ((mw ((3 : Int) * a1)) + a2)) ∧ (mw ((mw ((3 : Int) * a1)) + a2)) < 144) then
    if 0 ≤ (σ 74 0 ((mw ((mw ((3 : Int) * a1)) + a2)).toNat)) then
      Option.bind (f_X12_to N a1 a2 σ) fun ⟨v1437, s1436⟩ =>
      Option.bind (L_X12_ringSign_27 N N a1 a2 1 v1437 s1436) fun ⟨o1447, s1446⟩ =>
      some (o1447, s1446)
    else
      Option.bind (f_X12_to N a1 a2 σ) fun ⟨v1451, s1450⟩ =>
      Option.bind (L_X12_ringSign_27 N N a1 a2 (-1) v1451 s1450) fun ⟨o1453, s1452⟩ =>
      some (o1453, s1452)
  else none
noncomputable def L_X12_still_4 (N : Nat) (n : Nat) : Int → Int → Int → mS → Option (Int × mS) := @Nat.rec (fun _ => Int → Int → Int → mS → Option (Int × mS)) (fun _ _ _ _ => none) (fun n ih x1 x2 x3 σ =>
  if (3 : Int) ≤ x3 then
    some (x2, σ)
  else
    Option.bind (f_X12_ringLeast N x1 x3 σ) fun ⟨v1435, s1434⟩ =>
    if v1435 = x3 then
      Option.bind (f_X12_ringSign N x1 x3 s1434) fun ⟨v1458, s1457⟩ =>
      if v1458 = (1 : Int) then
        ih x1 (mw (x2 + 1)) (mw (x3 + 1)) s1457
      else
        ih x1 (mw (x2 + 0)) (mw (x3 + 1)) s1457
    else
      ih x1 (mw (x2 + 0)) (mw (x3 + 1)) s1434
  ) n
theorem L_X12_still_4_s (N n : Nat) (x1 : Int) (x2 : Int) (x3 : Int) (σ : mS) : L_X12_still_4 N (n + 1) x1 x2 x3 σ =
  if (3 : Int) ≤ x3 then
    some (x2, σ)
  else
    Option.bind (f_X12_ringLeast N x1 x3 σ) fun ⟨v1435, s1434⟩ =>
    if v1435 = x3 then
      Option.bind (f_X12_ringSign N x1 x3 s1434) fun ⟨v1458, s1457⟩ =>
      if v1458 = (1 : Int) then
        L_X12_still_4 N n x1 (mw (x2 + 1)) (mw (x3 + 1)) s1457
      else
        L_X12_still_4 N n x1 (mw (x2 + 0)) (mw (x3 + 1)) s1457
    else
      L_X12_still_4 N n x1 (mw (x2 + 0)) (mw (x3 + 1)) s1434 := rfl
noncomputable def f_X12_still (N : Nat) (a1 : Int) (σ : mS) : Option (Int × mS) :=
  Option.bind (L_X12_still_4 N N a1 0 0 σ) fun ⟨o1465, s1464⟩ =>
  some (o1465, s1464)
noncomputable def f_X12_isMirror (N : Nat) (a1 : Int) (σ : mS) : Option (Int × mS) :=
  if a1 = 0 then
    some ((0 : Int), σ)
  else
    Option.bind (f_X12_still N a1 σ) fun ⟨v1468, s1467⟩ =>
    if v1468 = (2 : Int) then
      some ((1 : Int), s1467)
    else
      some ((0 : Int), s1467)
noncomputable def L_X12_byMirrors_2 (N : Nat) (n : Nat) : Int → mS → Option (mS) := @Nat.rec (fun _ => Int → mS → Option (mS)) (fun _ _ => none) (fun n ih x1 σ =>
  if (σ 71 0 6) ≤ x1 then
    some σ
  else
    if x1 = 0 then
      if (0 ≤ x1 ∧ x1 < 48) then
        ih (mw (x1 + 1)) (mup σ 80 0 x1.toNat 1)
      else none
    else
      if (0 ≤ x1 ∧ x1 < 48) then
        ih (mw (x1 + 1)) (mup σ 80 0 x1.toNat 0)
      else none
  ) n
theorem L_X12_byMirrors_2_s (N n : Nat) (x1 : Int) (σ : mS) : L_X12_byMirrors_2 N (n + 1) x1 σ =
  if (σ 71 0 6) ≤ x1 then
    some σ
  else
    if x1 = 0 then
      if (0 ≤ x1 ∧ x1 < 48) then
        L_X12_byMirrors_2 N n (mw (x1 + 1)) (mup σ 80 0 x1.toNat 1)
      else none
    else
      if (0 ≤ x1 ∧ x1 < 48) then
        L_X12_byMirrors_2 N n (mw (x1 + 1)) (mup σ 80 0 x1.toNat 0)
      else none := rfl
noncomputable def L_X12_byMirrors_51 (N : Nat) (n : Nat) : Int → Int → Int → mS → Option (Int × mS) := @Nat.rec (fun _ => Int → Int → Int → mS → Option (Int × mS)) (fun _ _ _ _ => none) (fun n ih x1 x2 x3 σ =>
  if (σ 71 0 6) ≤ x3 then
    some (x1, σ)
  else
    if (0 ≤ x2 ∧ x2 < 48) then
      if (σ 80 0 x2.toNat) = 0 then
        some (x1, σ)
      else
        Option.bind (f_X12_isMirror N x3 σ) fun ⟨v1484, s1483⟩ =>
        if v1484 = 0 then
          ih x1 x2 (mw (x3 + 1)) s1483
        else
          Option.bind (f_X12_product N x2 x3 s1483) fun ⟨v1486, s1485⟩ =>
          if (0 ≤ v1486 ∧ v1486 < 48) then
            if (s1485 80 0 v1486.toNat) = 0 then
              Option.bind (f_X12_product N x2 x3 s1485) fun ⟨v1488, s1487⟩ =>
              if (0 ≤ v1488 ∧ v1488 < 48) then
                ih 1 x2 (mw (x3 + 1)) (mup s1487 80 0 v1488.toNat 1)
              else none
            else
              ih x1 x2 (mw (x3 + 1)) s1485
          else none
    else none
  ) n
theorem L_X12_byMirrors_51_s (N n : Nat) (x1 : Int) (x2 : Int) (x3 : Int) (σ : mS) : L_X12_byMirrors_51 N (n + 1) x1 x2 x3 σ =
  if (σ 71 0 6) ≤ x3 then
    some (x1, σ)
  else
    if (0 ≤ x2 ∧ x2 < 48) then
      if (σ 80 0 x2.toNat) = 0 then
        some (x1, σ)
      else
        Option.bind (f_X12_isMirror N x3 σ) fun ⟨v1484, s1483⟩ =>
        if v1484 = 0 then
          L_X12_byMirrors_51 N n x1 x2 (mw (x3 + 1)) s1483
        else
          Option.bind (f_X12_product N x2 x3 s1483) fun ⟨v1486, s1485⟩ =>
          if (0 ≤ v1486 ∧ v1486 < 48) then
            if (s1485 80 0 v1486.toNat) = 0 then
              Option.bind (f_X12_product N x2 x3 s1485) fun ⟨v1488, s1487⟩ =>
              if (0 ≤ v1488 ∧ v1488 < 48) then
                L_X12_byMirrors_51 N n 1 x2 (mw (x3 + 1)) (mup s1487 80 0 v1488.toNat 1)
              else none
            else
              L_X12_byMirrors_51 N n x1 x2 (mw (x3 + 1)) s1485
          else none
    else none := rfl
noncomputable def L_X12_byMirrors_41 (N : Nat) (n : Nat) : Int → Int → mS → Option (Int × mS) := @Nat.rec (fun _ => Int → Int → mS → Option (Int × mS)) (fun _ _ _ => none) (fun n ih x1 x2 σ =>
  if (σ 71 0 6) ≤ x2 then
    some (x1, σ)
  else
    Option.bind (L_X12_byMirrors_51 N N x1 x2 0 σ) fun ⟨o1497, s1496⟩ =>
    ih o1497 (mw (x2 + 1)) s1496
  ) n
theorem L_X12_byMirrors_41_s (N n : Nat) (x1 : Int) (x2 : Int) (σ : mS) : L_X12_byMirrors_41 N (n + 1) x1 x2 σ =
  if (σ 71 0 6) ≤ x2 then
    some (x1, σ)
  else
    Option.bind (L_X12_byMirrors_51 N N x1 x2 0 σ) fun ⟨o1497, s1496⟩ =>
    L_X12_byMirrors_41 N n o1497 (mw (x2 + 1)) s1496 := rfl
noncomputable def L_X12_byMirrors_33 (N : Nat) (n : Nat) : Int → mS → Option (mS) := @Nat.rec (fun _ => Int → mS → Option (mS)) (fun _ _ => none) (fun n ih x1 σ =>
  if x1 = 0 then
    some σ
  else
    Option.bind (L_X12_byMirrors_41 N N 0 0 σ) fun ⟨o1501, s1500⟩ =>
    ih o1501 s1500
  ) n
theorem L_X12_byMirrors_33_s (N n : Nat) (x1 : Int) (σ : mS) : L_X12_byMirrors_33 N (n + 1) x1 σ =
  if x1 = 0 then
    some σ
  else
    Option.bind (L_X12_byMirrors_41 N N 0 0 σ) fun ⟨o1501, s1500⟩ =>
    L_X12_byMirrors_33 N n o1501 s1500 := rfl
noncomputable def L_X12_byMirrors_126 (N : Nat) (n : Nat) : Int → Int → mS → Option (Int × mS) := @Nat.rec (fun _ => Int → Int → mS → Option (Int × mS)) (fun _ _ _ => none) (fun n ih x2 x3 σ =>
  if (σ 71 0 6) ≤ x3 then
    some (x2, σ)
  else
    if x2 = 0 then
      ih 0 (mw (x3 + 1)) σ
    else
      if (0 ≤ x3 ∧ x3 < 48) then
        if (σ 80 0 x3.toNat) = 0 then
          ih 0 (mw (x3 + 1)) σ
        else
          ih 1 (mw (x3 + 1)) σ
      else none
  ) n
theorem L_X12_byMirrors_126_s (N n : Nat) (x2 : Int) (x3 : Int) (σ : mS) : L_X12_byMirrors_126 N (n + 1) x2 x3 σ =
  if (σ 71 0 6) ≤ x3 then
    some (x2, σ)
  else
    if x2 = 0 then
      L_X12_byMirrors_126 N n 0 (mw (x3 + 1)) σ
    else
      if (0 ≤ x3 ∧ x3 < 48) then
        if (σ 80 0 x3.toNat) = 0 then
          L_X12_byMirrors_126 N n 0 (mw (x3 + 1)) σ
        else
          L_X12_byMirrors_126 N n 1 (mw (x3 + 1)) σ
      else none := rfl
noncomputable def f_X12_byMirrors (N : Nat) (σ : mS) : Option (Int × mS) :=
  Option.bind (L_X12_byMirrors_2 N N 0 σ) fun s1482 =>
  Option.bind (L_X12_byMirrors_33 N N 1 s1482) fun s1504 =>
  Option.bind (L_X12_byMirrors_126 N N 1 0 s1504) fun ⟨o1509, s1508⟩ =>
  if o1509 = 0 ∨ o1509 = 1 then
    some (o1509, s1508)
  else none
noncomputable def L_X12_about_96 (N : Nat) (n : Nat) : Int → Int → Int → Int → mS → Option (Int × mS) := @Nat.rec (fun _ => Int → Int → Int → Int → mS → Option (Int × mS)) (fun _ _ _ _ _ => none) (fun n ih x3 x4 x5 x6 σ =>
  if (3 : Int) ≤ x6 then
    some (x4, σ)
  else
    if x4 = 0 then
      if (0 ≤ (mw ((mw ((3 : Int) * x5)) + x6)) ∧ (mw ((mw ((3 : Int) * x5)) + x6)) < 144) then
        if 0 ≤ (σ 74 0 ((mw ((mw ((3 : Int) * x5)) + x6)).toNat)) then
          ih x3 0 x5 (mw (x6 + 1)) σ
        else
          ih x3 1 x5 (mw (x6 + 1)) σ
      else none
    else
      ih x3 1 x5 (mw (x6 + 1)) σ
  ) n
theorem L_X12_about_96_s (N n : Nat) (x3 : Int) (x4 : Int) (x5 : Int) (x6 : Int) (σ : mS) : L_X12_about_96 N (n + 1) x3 x4 x5 x6 σ =
  if (3 : Int) ≤ x6 then
    some (x4, σ)
  else
    if x4 = 0 then
      if (0 ≤ (mw ((mw ((3 : Int) * x5)) + x6)) ∧ (mw ((mw ((3 : Int) * x5)) + x6)) < 144) then
        if 0 ≤ (σ 74 0 ((mw ((mw ((3 : Int) * x5)) + x6)).toNat)) then
          L_X12_about_96 N n x3 0 x5 (mw (x6 + 1)) σ
        else
          L_X12_about_96 N n x3 1 x5 (mw (x6 + 1)) σ
      else none
    else
      L_X12_about_96 N n x3 1 x5 (mw (x6 + 1)) σ := rfl
noncomputable def L_X12_about_61 (N : Nat) (n : Nat) : Int → Int → Int → mS → Option (Int × Int × mS) := @Nat.rec (fun _ => Int → Int → Int → mS → Option (Int × Int × mS)) (fun _ _ _ _ => none) (fun n ih x3 x4 x5 σ =>
  if (σ 71 0 6) ≤ x5 then
    some (x3, x4, σ)
  else
    if x3 = 0 then
      Option.bind (f_X12_order N x5 σ) fun ⟨v1400, s1399⟩ =>
      if v1400 = (s1399 71 0 6) then
        Option.bind (L_X12_about_96 N N 1 x4 x5 0 s1399) fun ⟨o1405, s1404⟩ =>
        ih 1 o1405 (mw (x5 + 1)) s1404
      else
        Option.bind (L_X12_about_96 N N 0 x4 x5 0 s1399) fun ⟨o1402, s1401⟩ =>
        ih 0 o1402 (mw (x5 + 1)) s1401
    else
      Option.bind (L_X12_about_96 N N 1 x4 x5 0 σ) fun ⟨o1390, s1389⟩ =>
      ih 1 o1390 (mw (x5 + 1)) s1389
  ) n
theorem L_X12_about_61_s (N n : Nat) (x3 : Int) (x4 : Int) (x5 : Int) (σ : mS) : L_X12_about_61 N (n + 1) x3 x4 x5 σ =
  if (σ 71 0 6) ≤ x5 then
    some (x3, x4, σ)
  else
    if x3 = 0 then
      Option.bind (f_X12_order N x5 σ) fun ⟨v1400, s1399⟩ =>
      if v1400 = (s1399 71 0 6) then
        Option.bind (L_X12_about_96 N N 1 x4 x5 0 s1399) fun ⟨o1405, s1404⟩ =>
        L_X12_about_61 N n 1 o1405 (mw (x5 + 1)) s1404
      else
        Option.bind (L_X12_about_96 N N 0 x4 x5 0 s1399) fun ⟨o1402, s1401⟩ =>
        L_X12_about_61 N n 0 o1402 (mw (x5 + 1)) s1401
    else
      Option.bind (L_X12_about_96 N N 1 x4 x5 0 σ) fun ⟨o1390, s1389⟩ =>
      L_X12_about_61 N n 1 o1390 (mw (x5 + 1)) s1389 := rfl
noncomputable def L_X12_about_172 (N : Nat) (n : Nat) : Int → Int → mS → Option (Int × mS) := @Nat.rec (fun _ => Int → Int → mS → Option (Int × mS)) (fun _ _ _ => none) (fun n ih x2 x3 σ =>
  if (σ 71 0 6) ≤ x3 then
    some (x2, σ)
  else
    Option.bind (f_X12_isMirror N x3 σ) fun ⟨v1473, s1472⟩ =>
    if v1473 = 0 then
      ih (mw (x2 + 0)) (mw (x3 + 1)) s1472
    else
      ih (mw (x2 + 1)) (mw (x3 + 1)) s1472
  ) n
theorem L_X12_about_172_s (N n : Nat) (x2 : Int) (x3 : Int) (σ : mS) : L_X12_about_172 N (n + 1) x2 x3 σ =
  if (σ 71 0 6) ≤ x3 then
    some (x2, σ)
  else
    Option.bind (f_X12_isMirror N x3 σ) fun ⟨v1473, s1472⟩ =>
    if v1473 = 0 then
      L_X12_about_172 N n (mw (x2 + 0)) (mw (x3 + 1)) s1472
    else
      L_X12_about_172 N n (mw (x2 + 1)) (mw (x3 + 1)) s1472 := rfl
noncomputable def L_X12_about_226 (N : Nat) (n : Nat) : Int → Int → mS → Option (Int × mS) := @Nat.rec (fun _ => Int → Int → mS → Option (Int × mS)) (fun _ _ _ => none) (fun n ih x2 x3 σ =>
  if (σ 71 0 19) ≤ x3 then
    some (x2, σ)
  else
    if (0 ≤ x3 ∧ x3 < 40) then
      ih (mw (x2 * (σ 83 0 x3.toNat))) (mw (x3 + 1)) σ
    else none
  ) n
theorem L_X12_about_226_s (N n : Nat) (x2 : Int) (x3 : Int) (σ : mS) : L_X12_about_226 N (n + 1) x2 x3 σ =
  if (σ 71 0 19) ≤ x3 then
    some (x2, σ)
  else
    if (0 ≤ x3 ∧ x3 < 40) then
      L_X12_about_226 N n (mw (x2 * (σ 83 0 x3.toNat))) (mw (x3 + 1)) σ
    else none := rfl
noncomputable def f_X12_about (N : Nat) (a1 : Int) (σ : mS) : Option (Int × mS) :=
  if a1 = 0 then
    some ((σ 71 0 6), σ)
  else
  if a1 = 1 then
    Option.bind (L_X12_about_61 N N 0 0 0 σ) fun ⟨o1412, o1413, s1411⟩ =>
    if o1412 = 0 then
      if o1413 = 0 then
        some ((1 : Int), s1411)
      else
        some ((2 : Int), s1411)
    else
      some ((0 : Int), s1411)
  else
  if a1 = 2 then
    some ((σ 71 0 10), σ)
  else
  if a1 = 3 then
    some ((σ 71 0 11), σ)
  else
  if a1 = 4 then
    Option.bind (L_X12_about_172 N N 0 0 σ) fun ⟨o1478, s1477⟩ =>
    some (o1478, s1477)
  else
  if a1 = 5 then
    Option.bind (f_X12_byMirrors N σ) fun ⟨v1514, s1513⟩ =>
    if v1514 = 0 then
      some ((0 : Int), s1513)
    else
      some ((1 : Int), s1513)
  else
  if a1 = 6 then
    some ((σ 71 0 19), σ)
  else
  if a1 = 7 then
    Option.bind (L_X12_about_226 N N 1 0 σ) fun ⟨o1519, s1518⟩ =>
    some (o1519, s1518)
  else
  some ((-1 : Int), σ)
noncomputable def f_X12_isElement (N : Nat) (a1 : Int) (σ : mS) : Option (Int × mS) :=
  Option.bind (f_X12_isIn N a1 0 (mw ((σ 71 0 6) - 1)) σ) fun ⟨v1523, s1522⟩ =>
  if v1523 = 0 ∨ v1523 = 1 then
    some (v1523, s1522)
  else none
noncomputable def f_X12_element (N : Nat) (a1 : Int) (a2 : Int) (σ : mS) : Option (Int × mS) :=
  Option.bind (f_X12_isElement N a1 σ) fun ⟨v1526, s1525⟩ =>
  if v1526 = 0 then
    some ((0 : Int), s1525)
  else
    Option.bind (f_X12_isIn N a2 0 2 s1525) fun ⟨v1528, s1527⟩ =>
    if v1528 = 0 then
      some ((0 : Int), s1527)
    else
      if (0 ≤ (mw ((mw ((3 : Int) * a1)) + a2)) ∧ (mw ((mw ((3 : Int) * a1)) + a2)) < 144) then
        some ((s1527 74 0 ((mw ((mw ((3 : Int) * a1)) + a2)).toNat)), s1527)
      else none
noncomputable def f_X12_times (N : Nat) (a1 : Int) (a2 : Int) (σ : mS) : Option (Int × mS) :=
  Option.bind (f_X12_isElement N a1 σ) fun ⟨v1534, s1533⟩ =>
  if v1534 = 0 then
    some ((-1 : Int), s1533)
  else
    Option.bind (f_X12_isElement N a2 s1533) fun ⟨v1536, s1535⟩ =>
    if v1536 = 0 then
      some ((-1 : Int), s1535)
    else
      Option.bind (f_X12_product N a1 a2 s1535) fun ⟨v1538, s1537⟩ =>
      some (v1538, s1537)
noncomputable def f_X12_of (N : Nat) (a1 : Int) (a2 : Int) (σ : mS) : Option (Int × mS) :=
  Option.bind (f_X12_isElement N a1 σ) fun ⟨v1545, s1544⟩ =>
  if v1545 = 0 then
    some ((-1 : Int), s1544)
  else
    if a2 = 0 then
      Option.bind (f_X12_back N a1 s1544) fun ⟨v1557, s1556⟩ =>
      some (v1557, s1556)
    else
      if a2 = (1 : Int) then
        Option.bind (f_X12_order N a1 s1544) fun ⟨v1553, s1552⟩ =>
        some (v1553, s1552)
      else
        if a2 = (2 : Int) then
          if (0 ≤ a1 ∧ a1 < 48) then
            some ((s1544 78 0 a1.toNat), s1544)
          else none
        else
          if a2 = (3 : Int) then
            Option.bind (f_X12_isMirror N a1 s1544) fun ⟨v1547, s1546⟩ =>
            if v1547 = 0 then
              some ((0 : Int), s1546)
            else
              some ((1 : Int), s1546)
          else
            some ((-1 : Int), s1544)
noncomputable def f_X12_isSign (N : Nat) (a1 : Int) (σ : mS) : Option (Int × mS) :=
  Option.bind (f_X12_isIn N a1 0 (mw ((σ 71 0 11) - 1)) σ) fun ⟨v1563, s1562⟩ =>
  if v1563 = 0 ∨ v1563 = 1 then
    some (v1563, s1562)
  else none
noncomputable def f_X12_sign (N : Nat) (a1 : Int) (a2 : Int) (σ : mS) : Option (Int × mS) :=
  Option.bind (f_X12_isSign N a1 σ) fun ⟨v1566, s1565⟩ =>
  if v1566 = 0 then
    some ((0 : Int), s1565)
  else
    Option.bind (f_X12_isElement N a2 s1565) fun ⟨v1568, s1567⟩ =>
    if v1568 = 0 then
      some ((0 : Int), s1567)
    else
      if (0 ≤ (mw ((mw ((48 : Int) * a1)) + a2)) ∧ (mw ((mw ((48 : Int) * a1)) + a2)) < 768) then
        some ((s1567 79 0 ((mw ((mw ((48 : Int) * a1)) + a2)).toNat)), s1567)
      else none
noncomputable def f_X12_isPoly (N : Nat) (a0 : Int) (σ : mS) : Option (Int × mS) :=
  Option.bind (f_X12_isIn N a0 0 7 σ) fun ⟨v1574, s1573⟩ =>
  if v1574 = 0 ∨ v1574 = 1 then
    some (v1574, s1573)
  else none
noncomputable def f_X12_arePowers (N : Nat) (a0 : Int) (a1 : Int) (a2 : Int) (σ : mS) : Option (Int × mS) :=
  if a0 < 0 then
    some ((0 : Int), σ)
  else
    if a1 < 0 then
      some ((0 : Int), σ)
    else
      if a2 < 0 then
        some ((0 : Int), σ)
      else
        if (8 : Int) < a0 then
          some ((0 : Int), σ)
        else
          if (8 : Int) < a1 then
            some ((0 : Int), σ)
          else
            if (8 : Int) < a2 then
              some ((0 : Int), σ)
            else
              if (8 : Int) < (mw ((mw (a0 + a1)) + a2)) then
                some ((0 : Int), σ)
              else
                some ((1 : Int), σ)
noncomputable def f_X12_put (N : Nat) (a1 : Int) (a2 : Int) (a3 : Int) (a4 : Int) (a5 : Int) (σ : mS) : Option (Int × mS) :=
  Option.bind (f_X12_isPoly N a1 σ) fun ⟨v1577, s1576⟩ =>
  if v1577 = 0 then
    some ((0 : Int), s1576)
  else
    Option.bind (f_X12_arePowers N a2 a3 a4 s1576) fun ⟨v1586, s1585⟩ =>
    if v1586 = 0 then
      some ((0 : Int), s1585)
    else
      Option.bind (f_X12_at N a2 a3 a4 s1585) fun ⟨v1588, s1587⟩ =>
      Option.bind (f_X12_left N a5 s1587) fun ⟨v1590, s1589⟩ =>
      if (0 ≤ (mw ((mw ((729 : Int) * a1)) + v1588)) ∧ (mw ((mw ((729 : Int) * a1)) + v1588)) < 7290) then
        some ((1 : Int), (mup s1589 81 0 ((mw ((mw ((729 : Int) * a1)) + v1588)).toNat) v1590))
      else none
noncomputable def f_X12_of_ (N : Nat) (a1 : Int) (a2 : Int) (a3 : Int) (a4 : Int) (σ : mS) : Option (Int × mS) :=
  Option.bind (f_X12_at N a2 a3 a4 σ) fun ⟨v1602, s1601⟩ =>
  if (0 ≤ (mw ((mw ((729 : Int) * a1)) + v1602)) ∧ (mw ((mw ((729 : Int) * a1)) + v1602)) < 7290) then
    some ((s1601 81 0 ((mw ((mw ((729 : Int) * a1)) + v1602)).toNat)), s1601)
  else none
noncomputable def f_X12_number (N : Nat) (a1 : Int) (a2 : Int) (a3 : Int) (a4 : Int) (σ : mS) : Option (Int × mS) :=
  Option.bind (f_X12_isPoly N a1 σ) fun ⟨v1598, s1597⟩ =>
  if v1598 = 0 then
    some ((0 : Int), s1597)
  else
    Option.bind (f_X12_arePowers N a2 a3 a4 s1597) fun ⟨v1600, s1599⟩ =>
    if v1600 = 0 then
      some ((0 : Int), s1599)
    else
      Option.bind (f_X12_of_ N a1 a2 a3 a4 s1599) fun ⟨v1605, s1604⟩ =>
      some (v1605, s1604)
noncomputable def L_X12_degree0_25 (N : Nat) (n : Nat) : Int → Int → Int → Int → Int → mS → Option (Int × mS) := @Nat.rec (fun _ => Int → Int → Int → Int → Int → mS → Option (Int × mS)) (fun _ _ _ _ _ _ => none) (fun n ih x1 x2 x3 x4 x5 σ =>
  if (9 : Int) ≤ (mw ((mw (x3 + x4)) + x5)) then
    some (x2, σ)
  else
    Option.bind (f_X12_of_ N x1 x3 x4 x5 σ) fun ⟨v1614, s1613⟩ =>
    if v1614 = 0 then
      ih x1 x2 x3 x4 (mw (x5 + 1)) s1613
    else
      if (mw ((mw (x3 + x4)) + x5)) ≤ x2 then
        ih x1 x2 x3 x4 (mw (x5 + 1)) s1613
      else
        ih x1 (mw ((mw (x3 + x4)) + x5)) x3 x4 (mw (x5 + 1)) s1613
  ) n
theorem L_X12_degree0_25_s (N n : Nat) (x1 : Int) (x2 : Int) (x3 : Int) (x4 : Int) (x5 : Int) (σ : mS) : L_X12_degree0_25 N (n + 1) x1 x2 x3 x4 x5 σ =
  if (9 : Int) ≤ (mw ((mw (x3 + x4)) + x5)) then
    some (x2, σ)
  else
    Option.bind (f_X12_of_ N x1 x3 x4 x5 σ) fun ⟨v1614, s1613⟩ =>
    if v1614 = 0 then
      L_X12_degree0_25 N n x1 x2 x3 x4 (mw (x5 + 1)) s1613
    else
      if (mw ((mw (x3 + x4)) + x5)) ≤ x2 then
        L_X12_degree0_25 N n x1 x2 x3 x4 (mw (x5 + 1)) s1613
      else
        L_X12_degree0_25 N n x1 (mw ((mw (x3 + x4)) + x5)) x3 x4 (mw (x5 + 1)) s1613 := rfl
noncomputable def L_X12_degree0_13 (N : Nat) (n : Nat) : Int → Int → Int → Int → mS → Option (Int × mS) := @Nat.rec (fun _ => Int → Int → Int → Int → mS → Option (Int × mS)) (fun _ _ _ _ _ => none) (fun n ih x1 x2 x3 x4 σ =>
  if (9 : Int) ≤ (mw (x3 + x4)) then
    some (x2, σ)
  else
    Option.bind (L_X12_degree0_25 N N x1 x2 x3 x4 0 σ) fun ⟨o1620, s1619⟩ =>
    ih x1 o1620 x3 (mw (x4 + 1)) s1619
  ) n
theorem L_X12_degree0_13_s (N n : Nat) (x1 : Int) (x2 : Int) (x3 : Int) (x4 : Int) (σ : mS) : L_X12_degree0_13 N (n + 1) x1 x2 x3 x4 σ =
  if (9 : Int) ≤ (mw (x3 + x4)) then
    some (x2, σ)
  else
    Option.bind (L_X12_degree0_25 N N x1 x2 x3 x4 0 σ) fun ⟨o1620, s1619⟩ =>
    L_X12_degree0_13 N n x1 o1620 x3 (mw (x4 + 1)) s1619 := rfl
noncomputable def L_X12_degree0_4 (N : Nat) (n : Nat) : Int → Int → Int → mS → Option (Int × mS) := @Nat.rec (fun _ => Int → Int → Int → mS → Option (Int × mS)) (fun _ _ _ _ => none) (fun n ih x1 x2 x3 σ =>
  if (9 : Int) ≤ x3 then
    some (x2, σ)
  else
    Option.bind (L_X12_degree0_13 N N x1 x2 x3 0 σ) fun ⟨o1624, s1623⟩ =>
    ih x1 o1624 (mw (x3 + 1)) s1623
  ) n
theorem L_X12_degree0_4_s (N n : Nat) (x1 : Int) (x2 : Int) (x3 : Int) (σ : mS) : L_X12_degree0_4 N (n + 1) x1 x2 x3 σ =
  if (9 : Int) ≤ x3 then
    some (x2, σ)
  else
    Option.bind (L_X12_degree0_13 N N x1 x2 x3 0 σ) fun ⟨o1624, s1623⟩ =>
    L_X12_degree0_4 N n x1 o1624 (mw (x3 + 1)) s1623 := rfl
noncomputable def f_X12_degree0 (N : Nat) (a1 : Int) (σ : mS) : Option (Int × mS) :=
  Option.bind (L_X12_degree0_4 N N a1 (-1) 0 σ) fun ⟨o1628, s1627⟩ =>
  some (o1628, s1627)
noncomputable def f_X12_degree (N : Nat) (a1 : Int) (σ : mS) : Option (Int × mS) :=
  Option.bind (f_X12_isPoly N a1 σ) fun ⟨v1612, s1611⟩ =>
  if v1612 = 0 then
    some ((-1 : Int), s1611)
  else
    Option.bind (f_X12_degree0 N a1 s1611) fun ⟨v1631, s1630⟩ =>
    some (v1631, s1630)
noncomputable def L_X12_sum_28 (N : Nat) (n : Nat) : Int → Int → Int → Int → Int → Int → mS → Option (mS) := @Nat.rec (fun _ => Int → Int → Int → Int → Int → Int → mS → Option (mS)) (fun _ _ _ _ _ _ _ => none) (fun n ih x1 x2 x3 x4 x5 x6 σ =>
  if (729 : Int) ≤ x6 then
    some σ
  else
    if (0 ≤ (mw ((mw ((729 : Int) * x2)) + x6)) ∧ (mw ((mw ((729 : Int) * x2)) + x6)) < 7290) then
      Option.bind (f_X12_left N x3 σ) fun ⟨v1642, s1641⟩ =>
      if (0 ≤ (mw ((mw ((729 : Int) * x4)) + x6)) ∧ (mw ((mw ((729 : Int) * x4)) + x6)) < 7290) then
        Option.bind (f_X12_left N x5 s1641) fun ⟨v1644, s1643⟩ =>
        Option.bind (f_X12_left N (mx ((mx ((σ 81 0 ((mw ((mw ((729 : Int) * x2)) + x6)).toNat)) * v1642)) + (mx ((s1641 81 0 ((mw ((mw ((729 : Int) * x4)) + x6)).toNat)) * v1644)))) s1643) fun ⟨v1646, s1645⟩ =>
        if (0 ≤ (mw ((mw ((729 : Int) * x1)) + x6)) ∧ (mw ((mw ((729 : Int) * x1)) + x6)) < 7290) then
          ih x1 x2 x3 x4 x5 (mw (x6 + 1)) (mup s1645 81 0 ((mw ((mw ((729 : Int) * x1)) + x6)).toNat) v1646)
        else none
      else none
    else none
  ) n
theorem L_X12_sum_28_s (N n : Nat) (x1 : Int) (x2 : Int) (x3 : Int) (x4 : Int) (x5 : Int) (x6 : Int) (σ : mS) : L_X12_sum_28 N (n + 1) x1 x2 x3 x4 x5 x6 σ =
  if (729 : Int) ≤ x6 then
    some σ
  else
    if (0 ≤ (mw ((mw ((729 : Int) * x2)) + x6)) ∧ (mw ((mw ((729 : Int) * x2)) + x6)) < 7290) then
      Option.bind (f_X12_left N x3 σ) fun ⟨v1642, s1641⟩ =>
      if (0 ≤ (mw ((mw ((729 : Int) * x4)) + x6)) ∧ (mw ((mw ((729 : Int) * x4)) + x6)) < 7290) then
        Option.bind (f_X12_left N x5 s1641) fun ⟨v1644, s1643⟩ =>
        Option.bind (f_X12_left N (mx ((mx ((σ 81 0 ((mw ((mw ((729 : Int) * x2)) + x6)).toNat)) * v1642)) + (mx ((s1641 81 0 ((mw ((mw ((729 : Int) * x4)) + x6)).toNat)) * v1644)))) s1643) fun ⟨v1646, s1645⟩ =>
        if (0 ≤ (mw ((mw ((729 : Int) * x1)) + x6)) ∧ (mw ((mw ((729 : Int) * x1)) + x6)) < 7290) then
          L_X12_sum_28 N n x1 x2 x3 x4 x5 (mw (x6 + 1)) (mup s1645 81 0 ((mw ((mw ((729 : Int) * x1)) + x6)).toNat) v1646)
        else none
      else none
    else none := rfl
noncomputable def f_X12_sum (N : Nat) (a1 : Int) (a2 : Int) (a3 : Int) (a4 : Int) (a5 : Int) (σ : mS) : Option (Int × mS) :=
  Option.bind (f_X12_isPoly N a1 σ) fun ⟨v1636, s1635⟩ =>
  if v1636 = 0 then
    some ((-2 : Int), s1635)
  else
    Option.bind (f_X12_isPoly N a2 s1635) fun ⟨v1638, s1637⟩ =>
    if v1638 = 0 then
      some ((-2 : Int), s1637)
    else
      Option.bind (f_X12_isPoly N a4 s1637) fun ⟨v1640, s1639⟩ =>
      if v1640 = 0 then
        some ((-2 : Int), s1639)
      else
        Option.bind (L_X12_sum_28 N N a1 a2 a3 a4 a5 0 s1639) fun s1651 =>
        Option.bind (f_X12_degree0 N a1 s1651) fun ⟨v1653, s1652⟩ =>
        some (v1653, s1652)
noncomputable def L_X12_multiply_42 (N : Nat) (n : Nat) : Int → Int → Int → Int → Int → Int → mS → Option (mS) := @Nat.rec (fun _ => Int → Int → Int → Int → Int → Int → mS → Option (mS)) (fun _ _ _ _ _ _ _ => none) (fun n ih x1 x2 x3 x4 x5 x6 σ =>
  if (729 : Int) ≤ x6 then
    some σ
  else
    if (0 ≤ (mw ((mw ((729 : Int) * x3)) + x6)) ∧ (mw ((mw ((729 : Int) * x3)) + x6)) < 7290) then
      if (σ 81 0 ((mw ((mw ((729 : Int) * x3)) + x6)).toNat)) = 0 then
        ih x1 x2 x3 x4 x5 (mw (x6 + 1)) σ
      else
        if (0 ≤ (mw ((mw ((mw ((729 : Int) * x1)) + x4)) + x6)) ∧ (mw ((mw ((mw ((729 : Int) * x1)) + x4)) + x6)) < 7290) then
          Option.bind (f_X12_left N (mx ((σ 81 0 ((mw ((mw ((mw ((729 : Int) * x1)) + x4)) + x6)).toNat)) + (mx (x5 * (σ 81 0 ((mw ((mw ((729 : Int) * x3)) + x6)).toNat)))))) σ) fun ⟨v1674, s1673⟩ =>
          if (0 ≤ (mw ((mw ((mw ((729 : Int) * x1)) + x4)) + x6)) ∧ (mw ((mw ((mw ((729 : Int) * x1)) + x4)) + x6)) < 7290) then
            ih x1 x2 x3 x4 x5 (mw (x6 + 1)) (mup s1673 81 0 ((mw ((mw ((mw ((729 : Int) * x1)) + x4)) + x6)).toNat) v1674)
          else none
        else none
    else none
  ) n
theorem L_X12_multiply_42_s (N n : Nat) (x1 : Int) (x2 : Int) (x3 : Int) (x4 : Int) (x5 : Int) (x6 : Int) (σ : mS) : L_X12_multiply_42 N (n + 1) x1 x2 x3 x4 x5 x6 σ =
  if (729 : Int) ≤ x6 then
    some σ
  else
    if (0 ≤ (mw ((mw ((729 : Int) * x3)) + x6)) ∧ (mw ((mw ((729 : Int) * x3)) + x6)) < 7290) then
      if (σ 81 0 ((mw ((mw ((729 : Int) * x3)) + x6)).toNat)) = 0 then
        L_X12_multiply_42 N n x1 x2 x3 x4 x5 (mw (x6 + 1)) σ
      else
        if (0 ≤ (mw ((mw ((mw ((729 : Int) * x1)) + x4)) + x6)) ∧ (mw ((mw ((mw ((729 : Int) * x1)) + x4)) + x6)) < 7290) then
          Option.bind (f_X12_left N (mx ((σ 81 0 ((mw ((mw ((mw ((729 : Int) * x1)) + x4)) + x6)).toNat)) + (mx (x5 * (σ 81 0 ((mw ((mw ((729 : Int) * x3)) + x6)).toNat)))))) σ) fun ⟨v1674, s1673⟩ =>
          if (0 ≤ (mw ((mw ((mw ((729 : Int) * x1)) + x4)) + x6)) ∧ (mw ((mw ((mw ((729 : Int) * x1)) + x4)) + x6)) < 7290) then
            L_X12_multiply_42 N n x1 x2 x3 x4 x5 (mw (x6 + 1)) (mup s1673 81 0 ((mw ((mw ((mw ((729 : Int) * x1)) + x4)) + x6)).toNat) v1674)
          else none
        else none
    else none := rfl
noncomputable def L_X12_multiply_8 (N : Nat) (n : Nat) : Int → Int → Int → Int → mS → Option (mS) := @Nat.rec (fun _ => Int → Int → Int → Int → mS → Option (mS)) (fun _ _ _ _ _ => none) (fun n ih x1 x2 x3 x4 σ =>
  if (729 : Int) ≤ x4 then
    some σ
  else
    if (0 ≤ (mw ((mw ((729 : Int) * x2)) + x4)) ∧ (mw ((mw ((729 : Int) * x2)) + x4)) < 7290) then
      if (σ 81 0 ((mw ((mw ((729 : Int) * x2)) + x4)).toNat)) = 0 then
        ih x1 x2 x3 (mw (x4 + 1)) σ
      else
        Option.bind (L_X12_multiply_42 N N x1 x2 x3 x4 (σ 81 0 ((mw ((mw ((729 : Int) * x2)) + x4)).toNat)) 0 σ) fun s1678 =>
        ih x1 x2 x3 (mw (x4 + 1)) s1678
    else none
  ) n
theorem L_X12_multiply_8_s (N n : Nat) (x1 : Int) (x2 : Int) (x3 : Int) (x4 : Int) (σ : mS) : L_X12_multiply_8 N (n + 1) x1 x2 x3 x4 σ =
  if (729 : Int) ≤ x4 then
    some σ
  else
    if (0 ≤ (mw ((mw ((729 : Int) * x2)) + x4)) ∧ (mw ((mw ((729 : Int) * x2)) + x4)) < 7290) then
      if (σ 81 0 ((mw ((mw ((729 : Int) * x2)) + x4)).toNat)) = 0 then
        L_X12_multiply_8 N n x1 x2 x3 (mw (x4 + 1)) σ
      else
        Option.bind (L_X12_multiply_42 N N x1 x2 x3 x4 (σ 81 0 ((mw ((mw ((729 : Int) * x2)) + x4)).toNat)) 0 σ) fun s1678 =>
        L_X12_multiply_8 N n x1 x2 x3 (mw (x4 + 1)) s1678
    else none := rfl
noncomputable def f_X12_multiply (N : Nat) (a1 : Int) (a2 : Int) (a3 : Int) (σ : mS) : Option (mS) :=
  Option.bind (f_X12_clear N a1 σ) fun s1672 =>
  Option.bind (L_X12_multiply_8 N N a1 a2 a3 0 s1672) fun s1682 =>
  some s1682
noncomputable def f_X12_product_ (N : Nat) (a1 : Int) (a2 : Int) (a3 : Int) (σ : mS) : Option (Int × mS) :=
  Option.bind (f_X12_isPoly N a1 σ) fun ⟨v1663, s1662⟩ =>
  if v1663 = 0 then
    some ((-2 : Int), s1662)
  else
    Option.bind (f_X12_isPoly N a2 s1662) fun ⟨v1665, s1664⟩ =>
    if v1665 = 0 then
      some ((-2 : Int), s1664)
    else
      Option.bind (f_X12_isPoly N a3 s1664) fun ⟨v1667, s1666⟩ =>
      if v1667 = 0 then
        some ((-2 : Int), s1666)
      else
        Option.bind (f_X12_degree0 N a2 s1666) fun ⟨v1669, s1668⟩ =>
        Option.bind (f_X12_degree0 N a3 s1668) fun ⟨v1671, s1670⟩ =>
        if (mw (v1669 + v1671)) ≤ (8 : Int) then
          Option.bind (f_X12_multiply N 8 a2 a3 s1670) fun s1685 =>
          Option.bind (f_X12_copy N 8 a1 s1685) fun s1686 =>
          Option.bind (f_X12_degree0 N a1 s1686) fun ⟨v1688, s1687⟩ =>
          some (v1688, s1687)
        else
          Option.bind (f_X12_degree0 N a2 s1670) fun ⟨v1693, s1692⟩ =>
          if v1693 < 0 then
            Option.bind (f_X12_multiply N 8 a2 a3 s1692) fun s1694 =>
            Option.bind (f_X12_copy N 8 a1 s1694) fun s1695 =>
            Option.bind (f_X12_degree0 N a1 s1695) fun ⟨v1697, s1696⟩ =>
            some (v1697, s1696)
          else
            Option.bind (f_X12_degree0 N a3 s1692) fun ⟨v1702, s1701⟩ =>
            if v1702 < 0 then
              Option.bind (f_X12_multiply N 8 a2 a3 s1701) fun s1703 =>
              Option.bind (f_X12_copy N 8 a1 s1703) fun s1704 =>
              Option.bind (f_X12_degree0 N a1 s1704) fun ⟨v1706, s1705⟩ =>
              some (v1706, s1705)
            else
              some ((-2 : Int), s1701)
noncomputable def L_X12_adds_26 (N : Nat) (n : Nat) : Int → Int → Int → Int → Int → Int → Int → mS → Option (mS) := @Nat.rec (fun _ => Int → Int → Int → Int → Int → Int → Int → mS → Option (mS)) (fun _ _ _ _ _ _ _ _ => none) (fun n ih x1 x2 x3 x4 x5 x6 x7 σ =>
  if (9 : Int) ≤ (mw ((mw (x5 + x6)) + x7)) then
    some σ
  else
    Option.bind (f_X12_of_ N x2 x5 x6 x7 σ) fun ⟨v1731, s1730⟩ =>
    if v1731 = 0 then
      ih x1 x2 x3 x4 x5 x6 (mw (x7 + 1)) s1730
    else
      Option.bind (f_X12_turns N x3 x5 x6 x7 s1730) fun s1732 =>
      Option.bind (f_X12_at N (s1732 71 0 14) (s1732 71 0 15) (s1732 71 0 16) s1732) fun ⟨v1734, s1733⟩ =>
      if (0 ≤ (mw ((mw ((729 : Int) * x1)) + v1734)) ∧ (mw ((mw ((729 : Int) * x1)) + v1734)) < 7290) then
        Option.bind (f_X12_left N (mx ((s1733 81 0 ((mw ((mw ((729 : Int) * x1)) + v1734)).toNat)) + (mx ((mx ((s1733 71 0 17) * x4)) * v1731)))) s1733) fun ⟨v1736, s1735⟩ =>
        if (0 ≤ (mw ((mw ((729 : Int) * x1)) + v1734)) ∧ (mw ((mw ((729 : Int) * x1)) + v1734)) < 7290) then
          ih x1 x2 x3 x4 x5 x6 (mw (x7 + 1)) (mup s1735 81 0 ((mw ((mw ((729 : Int) * x1)) + v1734)).toNat) v1736)
        else none
      else none
  ) n
theorem L_X12_adds_26_s (N n : Nat) (x1 : Int) (x2 : Int) (x3 : Int) (x4 : Int) (x5 : Int) (x6 : Int) (x7 : Int) (σ : mS) : L_X12_adds_26 N (n + 1) x1 x2 x3 x4 x5 x6 x7 σ =
  if (9 : Int) ≤ (mw ((mw (x5 + x6)) + x7)) then
    some σ
  else
    Option.bind (f_X12_of_ N x2 x5 x6 x7 σ) fun ⟨v1731, s1730⟩ =>
    if v1731 = 0 then
      L_X12_adds_26 N n x1 x2 x3 x4 x5 x6 (mw (x7 + 1)) s1730
    else
      Option.bind (f_X12_turns N x3 x5 x6 x7 s1730) fun s1732 =>
      Option.bind (f_X12_at N (s1732 71 0 14) (s1732 71 0 15) (s1732 71 0 16) s1732) fun ⟨v1734, s1733⟩ =>
      if (0 ≤ (mw ((mw ((729 : Int) * x1)) + v1734)) ∧ (mw ((mw ((729 : Int) * x1)) + v1734)) < 7290) then
        Option.bind (f_X12_left N (mx ((s1733 81 0 ((mw ((mw ((729 : Int) * x1)) + v1734)).toNat)) + (mx ((mx ((s1733 71 0 17) * x4)) * v1731)))) s1733) fun ⟨v1736, s1735⟩ =>
        if (0 ≤ (mw ((mw ((729 : Int) * x1)) + v1734)) ∧ (mw ((mw ((729 : Int) * x1)) + v1734)) < 7290) then
          L_X12_adds_26 N n x1 x2 x3 x4 x5 x6 (mw (x7 + 1)) (mup s1735 81 0 ((mw ((mw ((729 : Int) * x1)) + v1734)).toNat) v1736)
        else none
      else none := rfl
noncomputable def L_X12_adds_13 (N : Nat) (n : Nat) : Int → Int → Int → Int → Int → Int → mS → Option (mS) := @Nat.rec (fun _ => Int → Int → Int → Int → Int → Int → mS → Option (mS)) (fun _ _ _ _ _ _ _ => none) (fun n ih x1 x2 x3 x4 x5 x6 σ =>
  if (9 : Int) ≤ (mw (x5 + x6)) then
    some σ
  else
    Option.bind (L_X12_adds_26 N N x1 x2 x3 x4 x5 x6 0 σ) fun s1743 =>
    ih x1 x2 x3 x4 x5 (mw (x6 + 1)) s1743
  ) n
theorem L_X12_adds_13_s (N n : Nat) (x1 : Int) (x2 : Int) (x3 : Int) (x4 : Int) (x5 : Int) (x6 : Int) (σ : mS) : L_X12_adds_13 N (n + 1) x1 x2 x3 x4 x5 x6 σ =
  if (9 : Int) ≤ (mw (x5 + x6)) then
    some σ
  else
    Option.bind (L_X12_adds_26 N N x1 x2 x3 x4 x5 x6 0 σ) fun s1743 =>
    L_X12_adds_13 N n x1 x2 x3 x4 x5 (mw (x6 + 1)) s1743 := rfl
noncomputable def L_X12_adds_3 (N : Nat) (n : Nat) : Int → Int → Int → Int → Int → mS → Option (mS) := @Nat.rec (fun _ => Int → Int → Int → Int → Int → mS → Option (mS)) (fun _ _ _ _ _ _ => none) (fun n ih x1 x2 x3 x4 x5 σ =>
  if (9 : Int) ≤ x5 then
    some σ
  else
    Option.bind (L_X12_adds_13 N N x1 x2 x3 x4 x5 0 σ) fun s1746 =>
    ih x1 x2 x3 x4 (mw (x5 + 1)) s1746
  ) n
theorem L_X12_adds_3_s (N n : Nat) (x1 : Int) (x2 : Int) (x3 : Int) (x4 : Int) (x5 : Int) (σ : mS) : L_X12_adds_3 N (n + 1) x1 x2 x3 x4 x5 σ =
  if (9 : Int) ≤ x5 then
    some σ
  else
    Option.bind (L_X12_adds_13 N N x1 x2 x3 x4 x5 0 σ) fun s1746 =>
    L_X12_adds_3 N n x1 x2 x3 x4 (mw (x5 + 1)) s1746 := rfl
noncomputable def f_X12_adds (N : Nat) (a1 : Int) (a2 : Int) (a3 : Int) (a4 : Int) (σ : mS) : Option (mS) :=
  Option.bind (L_X12_adds_3 N N a1 a2 a3 a4 0 σ) fun s1749 =>
  some s1749
noncomputable def f_X12_turned (N : Nat) (a1 : Int) (a2 : Int) (a3 : Int) (σ : mS) : Option (Int × mS) :=
  Option.bind (f_X12_isPoly N a1 σ) fun ⟨v1724, s1723⟩ =>
  if v1724 = 0 then
    some ((-2 : Int), s1723)
  else
    Option.bind (f_X12_isPoly N a2 s1723) fun ⟨v1726, s1725⟩ =>
    if v1726 = 0 then
      some ((-2 : Int), s1725)
    else
      Option.bind (f_X12_isElement N a3 s1725) fun ⟨v1728, s1727⟩ =>
      if v1728 = 0 then
        some ((-2 : Int), s1727)
      else
        Option.bind (f_X12_clear N 8 s1727) fun s1729 =>
        Option.bind (f_X12_adds N 8 a2 a3 1 s1729) fun s1751 =>
        Option.bind (f_X12_copy N 8 a1 s1751) fun s1752 =>
        Option.bind (f_X12_degree0 N a1 s1752) fun ⟨v1754, s1753⟩ =>
        some (v1754, s1753)
noncomputable def L_X12_mean0_8 (N : Nat) (n : Nat) : Int → Int → Int → Int → mS → Option (mS) := @Nat.rec (fun _ => Int → Int → Int → Int → mS → Option (mS)) (fun _ _ _ _ _ => none) (fun n ih x1 x2 x3 x4 σ =>
  if (σ 71 0 6) ≤ x4 then
    some σ
  else
    if (0 ≤ (mw ((mw ((48 : Int) * x3)) + x4)) ∧ (mw ((mw ((48 : Int) * x3)) + x4)) < 768) then
      Option.bind (f_X12_adds N x1 x2 x4 (σ 79 0 ((mw ((mw ((48 : Int) * x3)) + x4)).toNat)) σ) fun s1772 =>
      ih x1 x2 x3 (mw (x4 + 1)) s1772
    else none
  ) n
theorem L_X12_mean0_8_s (N n : Nat) (x1 : Int) (x2 : Int) (x3 : Int) (x4 : Int) (σ : mS) : L_X12_mean0_8 N (n + 1) x1 x2 x3 x4 σ =
  if (σ 71 0 6) ≤ x4 then
    some σ
  else
    if (0 ≤ (mw ((mw ((48 : Int) * x3)) + x4)) ∧ (mw ((mw ((48 : Int) * x3)) + x4)) < 768) then
      Option.bind (f_X12_adds N x1 x2 x4 (σ 79 0 ((mw ((mw ((48 : Int) * x3)) + x4)).toNat)) σ) fun s1772 =>
      L_X12_mean0_8 N n x1 x2 x3 (mw (x4 + 1)) s1772
    else none := rfl
noncomputable def L_X12_mean0_55 (N : Nat) (n : Nat) : Int → Int → Int → mS → Option (mS) := @Nat.rec (fun _ => Int → Int → Int → mS → Option (mS)) (fun _ _ _ _ => none) (fun n ih x1 x4 x5 σ =>
  if (729 : Int) ≤ x5 then
    some σ
  else
    if (0 ≤ (mw ((mw ((729 : Int) * x1)) + x5)) ∧ (mw ((mw ((729 : Int) * x1)) + x5)) < 7290) then
      Option.bind (f_X12_left N (mx ((σ 81 0 ((mw ((mw ((729 : Int) * x1)) + x5)).toNat)) * x4)) σ) fun ⟨v1779, s1778⟩ =>
      if (0 ≤ (mw ((mw ((729 : Int) * x1)) + x5)) ∧ (mw ((mw ((729 : Int) * x1)) + x5)) < 7290) then
        ih x1 x4 (mw (x5 + 1)) (mup s1778 81 0 ((mw ((mw ((729 : Int) * x1)) + x5)).toNat) v1779)
      else none
    else none
  ) n
theorem L_X12_mean0_55_s (N n : Nat) (x1 : Int) (x4 : Int) (x5 : Int) (σ : mS) : L_X12_mean0_55 N (n + 1) x1 x4 x5 σ =
  if (729 : Int) ≤ x5 then
    some σ
  else
    if (0 ≤ (mw ((mw ((729 : Int) * x1)) + x5)) ∧ (mw ((mw ((729 : Int) * x1)) + x5)) < 7290) then
      Option.bind (f_X12_left N (mx ((σ 81 0 ((mw ((mw ((729 : Int) * x1)) + x5)).toNat)) * x4)) σ) fun ⟨v1779, s1778⟩ =>
      if (0 ≤ (mw ((mw ((729 : Int) * x1)) + x5)) ∧ (mw ((mw ((729 : Int) * x1)) + x5)) < 7290) then
        L_X12_mean0_55 N n x1 x4 (mw (x5 + 1)) (mup s1778 81 0 ((mw ((mw ((729 : Int) * x1)) + x5)).toNat) v1779)
      else none
    else none := rfl
noncomputable def f_X12_mean0 (N : Nat) (a1 : Int) (a2 : Int) (a3 : Int) (σ : mS) : Option (mS) :=
  Option.bind (f_X12_clear N a1 σ) fun s1771 =>
  Option.bind (L_X12_mean0_8 N N a1 a2 a3 0 s1771) fun s1775 =>
  Option.bind (f_X12_by N (s1775 71 0 6) s1775) fun ⟨v1777, s1776⟩ =>
  Option.bind (L_X12_mean0_55 N N a1 v1777 0 s1776) fun s1782 =>
  some s1782
noncomputable def f_X12_mean (N : Nat) (a1 : Int) (a2 : Int) (a3 : Int) (σ : mS) : Option (Int × mS) :=
  Option.bind (f_X12_isPoly N a1 σ) fun ⟨v1766, s1765⟩ =>
  if v1766 = 0 then
    some ((-2 : Int), s1765)
  else
    Option.bind (f_X12_isPoly N a2 s1765) fun ⟨v1768, s1767⟩ =>
    if v1768 = 0 then
      some ((-2 : Int), s1767)
    else
      Option.bind (f_X12_isSign N a3 s1767) fun ⟨v1770, s1769⟩ =>
      if v1770 = 0 then
        some ((-2 : Int), s1769)
      else
        Option.bind (f_X12_mean0 N 8 a2 a3 s1769) fun s1787 =>
        Option.bind (f_X12_copy N 8 a1 s1787) fun s1788 =>
        Option.bind (f_X12_degree0 N a1 s1788) fun ⟨v1790, s1789⟩ =>
        some (v1790, s1789)
noncomputable def L_X12_stays0_38 (N : Nat) (n : Nat) : Int → Int → Int → Int → mS → Option ((Int × mS) ⊕ (mS)) := @Nat.rec (fun _ => Int → Int → Int → Int → mS → Option ((Int × mS) ⊕ (mS))) (fun _ _ _ _ _ => none) (fun n ih x1 x2 x3 x4 σ =>
  if (729 : Int) ≤ x4 then
    some (.inr σ)
  else
    if (0 ≤ (mw ((5832 : Int) + x4)) ∧ (mw ((5832 : Int) + x4)) < 7290) ∧ (0 ≤ (mw ((mw ((729 : Int) * x1)) + x4)) ∧ (mw ((mw ((729 : Int) * x1)) + x4)) < 7290) then
      if (σ 81 0 ((mw ((5832 : Int) + x4)).toNat)) = (σ 81 0 ((mw ((mw ((729 : Int) * x1)) + x4)).toNat)) then
        ih x1 x2 x3 (mw (x4 + 1)) σ
      else
        some (.inl ((0 : Int), σ))
    else none
  ) n
theorem L_X12_stays0_38_s (N n : Nat) (x1 : Int) (x2 : Int) (x3 : Int) (x4 : Int) (σ : mS) : L_X12_stays0_38 N (n + 1) x1 x2 x3 x4 σ =
  if (729 : Int) ≤ x4 then
    some (.inr σ)
  else
    if (0 ≤ (mw ((5832 : Int) + x4)) ∧ (mw ((5832 : Int) + x4)) < 7290) ∧ (0 ≤ (mw ((mw ((729 : Int) * x1)) + x4)) ∧ (mw ((mw ((729 : Int) * x1)) + x4)) < 7290) then
      if (σ 81 0 ((mw ((5832 : Int) + x4)).toNat)) = (σ 81 0 ((mw ((mw ((729 : Int) * x1)) + x4)).toNat)) then
        L_X12_stays0_38 N n x1 x2 x3 (mw (x4 + 1)) σ
      else
        some (.inl ((0 : Int), σ))
    else none := rfl
noncomputable def L_X12_stays0_2 (N : Nat) (n : Nat) : Int → Int → Int → mS → Option ((Int × mS) ⊕ (mS)) := @Nat.rec (fun _ => Int → Int → Int → mS → Option ((Int × mS) ⊕ (mS))) (fun _ _ _ _ => none) (fun n ih x1 x2 x3 σ =>
  if (σ 71 0 6) ≤ x3 then
    some (.inr σ)
  else
    Option.bind (f_X12_clear N 8 σ) fun s1804 =>
    if (0 ≤ (mw ((mw ((48 : Int) * x2)) + x3)) ∧ (mw ((mw ((48 : Int) * x2)) + x3)) < 768) then
      Option.bind (f_X12_adds N 8 x1 x3 (s1804 79 0 ((mw ((mw ((48 : Int) * x2)) + x3)).toNat)) s1804) fun s1805 =>
      Option.bind (L_X12_stays0_38 N N x1 x2 x3 0 s1805) fun o => match o with
        | .inl (v1810, s1811) => some (.inl (v1810, s1811))
        | .inr s1808 =>
          ih x1 x2 (mw (x3 + 1)) s1808
    else none
  ) n
theorem L_X12_stays0_2_s (N n : Nat) (x1 : Int) (x2 : Int) (x3 : Int) (σ : mS) : L_X12_stays0_2 N (n + 1) x1 x2 x3 σ =
  if (σ 71 0 6) ≤ x3 then
    some (.inr σ)
  else
    Option.bind (f_X12_clear N 8 σ) fun s1804 =>
    if (0 ≤ (mw ((mw ((48 : Int) * x2)) + x3)) ∧ (mw ((mw ((48 : Int) * x2)) + x3)) < 768) then
      Option.bind (f_X12_adds N 8 x1 x3 (s1804 79 0 ((mw ((mw ((48 : Int) * x2)) + x3)).toNat)) s1804) fun s1805 =>
      Option.bind (L_X12_stays0_38 N N x1 x2 x3 0 s1805) fun o => match o with
        | .inl (v1810, s1811) => some (.inl (v1810, s1811))
        | .inr s1808 =>
          L_X12_stays0_2 N n x1 x2 (mw (x3 + 1)) s1808
    else none := rfl
noncomputable def f_X12_stays0 (N : Nat) (a1 : Int) (a2 : Int) (σ : mS) : Option (Int × mS) :=
  Option.bind (L_X12_stays0_2 N N a1 a2 0 σ) fun o => match o with
    | .inl (v1817, s1818) => some (v1817, s1818)
    | .inr s1815 =>
      some ((1 : Int), s1815)
noncomputable def f_X12_stays (N : Nat) (a1 : Int) (a2 : Int) (σ : mS) : Option (Int × mS) :=
  Option.bind (f_X12_isPoly N a1 σ) fun ⟨v1801, s1800⟩ =>
  if v1801 = 0 then
    some ((-1 : Int), s1800)
  else
    Option.bind (f_X12_isSign N a2 s1800) fun ⟨v1803, s1802⟩ =>
    if v1803 = 0 then
      some ((-1 : Int), s1802)
    else
      Option.bind (f_X12_stays0 N a1 a2 s1802) fun ⟨v1820, s1819⟩ =>
      if v1820 = 0 then
        some ((0 : Int), s1819)
      else
        some ((1 : Int), s1819)
noncomputable def L_X12_counts_6 (N : Nat) (n : Nat) : Int → Int → Int → Int → Int → Int → mS → Option ((Int × mS) ⊕ (Int × mS)) := @Nat.rec (fun _ => Int → Int → Int → Int → Int → Int → mS → Option ((Int × mS) ⊕ (Int × mS))) (fun _ _ _ _ _ _ _ => none) (fun n ih x1 x2 x3 x4 x5 x6 σ =>
  if (σ 71 0 6) ≤ x6 then
    some (.inr (x5, σ))
  else
    Option.bind (f_X12_turns N x6 x1 x2 x3 σ) fun s1831 =>
    Option.bind (f_X12_at N (s1831 71 0 14) (s1831 71 0 15) (s1831 71 0 16) s1831) fun ⟨v1833, s1832⟩ =>
    Option.bind (f_X12_at N x1 x2 x3 s1832) fun ⟨v1835, s1834⟩ =>
    if v1833 ≤ v1835 then
      if (s1834 71 0 14) = x1 then
        if (s1834 71 0 15) = x2 then
          if (s1834 71 0 16) = x3 then
            if (0 ≤ (mw ((mw ((48 : Int) * x4)) + x6)) ∧ (mw ((mw ((48 : Int) * x4)) + x6)) < 768) then
              ih x1 x2 x3 x4 (mw (x5 + (mw ((s1834 71 0 17) * (s1834 79 0 ((mw ((mw ((48 : Int) * x4)) + x6)).toNat)))))) (mw (x6 + 1)) s1834
            else none
          else
            ih x1 x2 x3 x4 x5 (mw (x6 + 1)) s1834
        else
          ih x1 x2 x3 x4 x5 (mw (x6 + 1)) s1834
      else
        ih x1 x2 x3 x4 x5 (mw (x6 + 1)) s1834
    else
      some (.inl ((0 : Int), s1834))
  ) n
theorem L_X12_counts_6_s (N n : Nat) (x1 : Int) (x2 : Int) (x3 : Int) (x4 : Int) (x5 : Int) (x6 : Int) (σ : mS) : L_X12_counts_6 N (n + 1) x1 x2 x3 x4 x5 x6 σ =
  if (σ 71 0 6) ≤ x6 then
    some (.inr (x5, σ))
  else
    Option.bind (f_X12_turns N x6 x1 x2 x3 σ) fun s1831 =>
    Option.bind (f_X12_at N (s1831 71 0 14) (s1831 71 0 15) (s1831 71 0 16) s1831) fun ⟨v1833, s1832⟩ =>
    Option.bind (f_X12_at N x1 x2 x3 s1832) fun ⟨v1835, s1834⟩ =>
    if v1833 ≤ v1835 then
      if (s1834 71 0 14) = x1 then
        if (s1834 71 0 15) = x2 then
          if (s1834 71 0 16) = x3 then
            if (0 ≤ (mw ((mw ((48 : Int) * x4)) + x6)) ∧ (mw ((mw ((48 : Int) * x4)) + x6)) < 768) then
              L_X12_counts_6 N n x1 x2 x3 x4 (mw (x5 + (mw ((s1834 71 0 17) * (s1834 79 0 ((mw ((mw ((48 : Int) * x4)) + x6)).toNat)))))) (mw (x6 + 1)) s1834
            else none
          else
            L_X12_counts_6 N n x1 x2 x3 x4 x5 (mw (x6 + 1)) s1834
        else
          L_X12_counts_6 N n x1 x2 x3 x4 x5 (mw (x6 + 1)) s1834
      else
        L_X12_counts_6 N n x1 x2 x3 x4 x5 (mw (x6 + 1)) s1834
    else
      some (.inl ((0 : Int), s1834)) := rfl
noncomputable def f_X12_counts (N : Nat) (a1 : Int) (a2 : Int) (a3 : Int) (a4 : Int) (σ : mS) : Option (Int × mS) :=
  Option.bind (L_X12_counts_6 N N a1 a2 a3 a4 0 0 σ) fun o => match o with
    | .inl (v1848, s1849) => some (v1848, s1849)
    | .inr (o1845, s1844) =>
      if o1845 = 0 then
        some ((0 : Int), s1844)
      else
        some ((1 : Int), s1844)
noncomputable def L_X12_count0_14 (N : Nat) (n : Nat) : Int → Int → Int → Int → Int → mS → Option (Int × mS) := @Nat.rec (fun _ => Int → Int → Int → Int → Int → mS → Option (Int × mS)) (fun _ _ _ _ _ _ => none) (fun n ih x1 x2 x3 x4 x5 σ =>
  if x1 < (mw (x4 + x5)) then
    some (x3, σ)
  else
    Option.bind (f_X12_counts N x4 x5 (mw ((mw (x1 - x4)) - x5)) x2 σ) fun ⟨v1851, s1850⟩ =>
    if v1851 = 0 then
      ih x1 x2 (mw (x3 + 0)) x4 (mw (x5 + 1)) s1850
    else
      ih x1 x2 (mw (x3 + 1)) x4 (mw (x5 + 1)) s1850
  ) n
theorem L_X12_count0_14_s (N n : Nat) (x1 : Int) (x2 : Int) (x3 : Int) (x4 : Int) (x5 : Int) (σ : mS) : L_X12_count0_14 N (n + 1) x1 x2 x3 x4 x5 σ =
  if x1 < (mw (x4 + x5)) then
    some (x3, σ)
  else
    Option.bind (f_X12_counts N x4 x5 (mw ((mw (x1 - x4)) - x5)) x2 σ) fun ⟨v1851, s1850⟩ =>
    if v1851 = 0 then
      L_X12_count0_14 N n x1 x2 (mw (x3 + 0)) x4 (mw (x5 + 1)) s1850
    else
      L_X12_count0_14 N n x1 x2 (mw (x3 + 1)) x4 (mw (x5 + 1)) s1850 := rfl
noncomputable def L_X12_count0_5 (N : Nat) (n : Nat) : Int → Int → Int → Int → mS → Option (Int × mS) := @Nat.rec (fun _ => Int → Int → Int → Int → mS → Option (Int × mS)) (fun _ _ _ _ _ => none) (fun n ih x1 x2 x3 x4 σ =>
  if x1 < x4 then
    some (x3, σ)
  else
    Option.bind (L_X12_count0_14 N N x1 x2 x3 x4 0 σ) fun ⟨o1856, s1855⟩ =>
    ih x1 x2 o1856 (mw (x4 + 1)) s1855
  ) n
theorem L_X12_count0_5_s (N n : Nat) (x1 : Int) (x2 : Int) (x3 : Int) (x4 : Int) (σ : mS) : L_X12_count0_5 N (n + 1) x1 x2 x3 x4 σ =
  if x1 < x4 then
    some (x3, σ)
  else
    Option.bind (L_X12_count0_14 N N x1 x2 x3 x4 0 σ) fun ⟨o1856, s1855⟩ =>
    L_X12_count0_5 N n x1 x2 o1856 (mw (x4 + 1)) s1855 := rfl
noncomputable def f_X12_count0 (N : Nat) (a1 : Int) (a2 : Int) (σ : mS) : Option (Int × mS) :=
  Option.bind (L_X12_count0_5 N N a1 a2 0 0 σ) fun ⟨o1860, s1859⟩ =>
  some (o1860, s1859)
noncomputable def f_X12_count (N : Nat) (a1 : Int) (a2 : Int) (σ : mS) : Option (Int × mS) :=
  Option.bind (f_X12_isIn N a1 0 8 σ) fun ⟨v1828, s1827⟩ =>
  if v1828 = 0 then
    some ((-1 : Int), s1827)
  else
    Option.bind (f_X12_isSign N a2 s1827) fun ⟨v1830, s1829⟩ =>
    if v1830 = 0 then
      some ((-1 : Int), s1829)
    else
      Option.bind (f_X12_count0 N a1 a2 s1829) fun ⟨v1863, s1862⟩ =>
      some (v1863, s1862)
noncomputable def L_X12_ringLong_10 (N : Nat) (n : Nat) : Int → Int → Int → Int → mS → Option (Int × mS) := @Nat.rec (fun _ => Int → Int → Int → Int → mS → Option (Int × mS)) (fun _ _ _ _ _ => none) (fun n ih x1 x2 x3 x4 σ =>
  if x4 = x2 then
    some (x3, σ)
  else
    Option.bind (f_X12_to N x1 x4 σ) fun ⟨v1881, s1880⟩ =>
    ih x1 x2 (mw (x3 + 1)) v1881 s1880
  ) n
theorem L_X12_ringLong_10_s (N n : Nat) (x1 : Int) (x2 : Int) (x3 : Int) (x4 : Int) (σ : mS) : L_X12_ringLong_10 N (n + 1) x1 x2 x3 x4 σ =
  if x4 = x2 then
    some (x3, σ)
  else
    Option.bind (f_X12_to N x1 x4 σ) fun ⟨v1881, s1880⟩ =>
    L_X12_ringLong_10 N n x1 x2 (mw (x3 + 1)) v1881 s1880 := rfl
noncomputable def f_X12_ringLong (N : Nat) (a1 : Int) (a2 : Int) (σ : mS) : Option (Int × mS) :=
  Option.bind (f_X12_to N a1 a2 σ) fun ⟨v1879, s1878⟩ =>
  Option.bind (L_X12_ringLong_10 N N a1 a2 1 v1879 s1878) fun ⟨o1885, s1884⟩ =>
  some (o1885, s1884)
noncomputable def L_X12_series_38 (N : Nat) (n : Nat) : Int → Int → Int → Int → Int → mS → Option (mS) := @Nat.rec (fun _ => Int → Int → Int → Int → Int → mS → Option (mS)) (fun _ _ _ _ _ _ => none) (fun n ih x1 x2 x3 x5 x6 σ =>
  if x1 < x6 then
    some σ
  else
    if x6 = 0 then
      if (0 ≤ x6 ∧ x6 < 201) then
        ih x1 x2 x3 x5 (mw (x6 + 1)) (mup σ 82 0 x6.toNat 1)
      else none
    else
      if (0 ≤ x6 ∧ x6 < 201) then
        ih x1 x2 x3 x5 (mw (x6 + 1)) (mup σ 82 0 x6.toNat 0)
      else none
  ) n
theorem L_X12_series_38_s (N n : Nat) (x1 : Int) (x2 : Int) (x3 : Int) (x5 : Int) (x6 : Int) (σ : mS) : L_X12_series_38 N (n + 1) x1 x2 x3 x5 x6 σ =
  if x1 < x6 then
    some σ
  else
    if x6 = 0 then
      if (0 ≤ x6 ∧ x6 < 201) then
        L_X12_series_38 N n x1 x2 x3 x5 (mw (x6 + 1)) (mup σ 82 0 x6.toNat 1)
      else none
    else
      if (0 ≤ x6 ∧ x6 < 201) then
        L_X12_series_38 N n x1 x2 x3 x5 (mw (x6 + 1)) (mup σ 82 0 x6.toNat 0)
      else none := rfl
noncomputable def L_X12_series_116 (N : Nat) (n : Nat) : Int → Int → Int → Int → Int → Int → Int → Int → mS → Option (mS) := @Nat.rec (fun _ => Int → Int → Int → Int → Int → Int → Int → Int → mS → Option (mS)) (fun _ _ _ _ _ _ _ _ _ => none) (fun n ih x1 x2 x3 x5 x6 x7 x8 x9 σ =>
  if x1 < x9 then
    some σ
  else
    if (0 ≤ x9 ∧ x9 < 201) ∧ (0 ≤ (mw (x9 - x7)) ∧ (mw (x9 - x7)) < 201) then
      ih x1 x2 x3 x5 x6 x7 x8 (mw (x9 + 1)) (mup σ 82 0 x9.toNat (mx ((σ 82 0 x9.toNat) + (mx (x8 * (σ 82 0 ((mw (x9 - x7)).toNat)))))))
    else none
  ) n
theorem L_X12_series_116_s (N n : Nat) (x1 : Int) (x2 : Int) (x3 : Int) (x5 : Int) (x6 : Int) (x7 : Int) (x8 : Int) (x9 : Int) (σ : mS) : L_X12_series_116 N (n + 1) x1 x2 x3 x5 x6 x7 x8 x9 σ =
  if x1 < x9 then
    some σ
  else
    if (0 ≤ x9 ∧ x9 < 201) ∧ (0 ≤ (mw (x9 - x7)) ∧ (mw (x9 - x7)) < 201) then
      L_X12_series_116 N n x1 x2 x3 x5 x6 x7 x8 (mw (x9 + 1)) (mup σ 82 0 x9.toNat (mx ((σ 82 0 x9.toNat) + (mx (x8 * (σ 82 0 ((mw (x9 - x7)).toNat)))))))
    else none := rfl
noncomputable def L_X12_series_70 (N : Nat) (n : Nat) : Int → Int → Int → Int → Int → mS → Option (mS) := @Nat.rec (fun _ => Int → Int → Int → Int → Int → mS → Option (mS)) (fun _ _ _ _ _ _ => none) (fun n ih x1 x2 x3 x5 x6 σ =>
  if (3 : Int) ≤ x6 then
    some σ
  else
    Option.bind (f_X12_ringLeast N x5 x6 σ) fun ⟨v1877, s1876⟩ =>
    if v1877 = x6 then
      Option.bind (f_X12_ringLong N x5 x6 s1876) fun ⟨v1889, s1888⟩ =>
      Option.bind (f_X12_ringSign N x5 x6 s1888) fun ⟨v1891, s1890⟩ =>
      Option.bind (L_X12_series_116 N N x1 x2 x3 x5 x6 v1889 v1891 v1889 s1890) fun s1893 =>
      ih x1 x2 x3 x5 (mw (x6 + 1)) s1893
    else
      ih x1 x2 x3 x5 (mw (x6 + 1)) s1876
  ) n
theorem L_X12_series_70_s (N n : Nat) (x1 : Int) (x2 : Int) (x3 : Int) (x5 : Int) (x6 : Int) (σ : mS) : L_X12_series_70 N (n + 1) x1 x2 x3 x5 x6 σ =
  if (3 : Int) ≤ x6 then
    some σ
  else
    Option.bind (f_X12_ringLeast N x5 x6 σ) fun ⟨v1877, s1876⟩ =>
    if v1877 = x6 then
      Option.bind (f_X12_ringLong N x5 x6 s1876) fun ⟨v1889, s1888⟩ =>
      Option.bind (f_X12_ringSign N x5 x6 s1888) fun ⟨v1891, s1890⟩ =>
      Option.bind (L_X12_series_116 N N x1 x2 x3 x5 x6 v1889 v1891 v1889 s1890) fun s1893 =>
      L_X12_series_70 N n x1 x2 x3 x5 (mw (x6 + 1)) s1893
    else
      L_X12_series_70 N n x1 x2 x3 x5 (mw (x6 + 1)) s1876 := rfl
noncomputable def L_X12_series_26 (N : Nat) (n : Nat) : Int → Int → Int → Int → mS → Option (Int × mS) := @Nat.rec (fun _ => Int → Int → Int → Int → mS → Option (Int × mS)) (fun _ _ _ _ _ => none) (fun n ih x1 x2 x3 x5 σ =>
  if (σ 71 0 6) ≤ x5 then
    some (x3, σ)
  else
    Option.bind (L_X12_series_38 N N x1 x2 x3 x5 0 σ) fun s1875 =>
    Option.bind (L_X12_series_70 N N x1 x2 x3 x5 0 s1875) fun s1900 =>
    if (0 ≤ (mw ((mw ((48 : Int) * x2)) + x5)) ∧ (mw ((mw ((48 : Int) * x2)) + x5)) < 768) ∧ (0 ≤ x1 ∧ x1 < 201) then
      ih x1 x2 (mx (x3 + (mx ((s1900 79 0 ((mw ((mw ((48 : Int) * x2)) + x5)).toNat)) * (s1900 82 0 x1.toNat))))) (mw (x5 + 1)) s1900
    else none
  ) n
theorem L_X12_series_26_s (N n : Nat) (x1 : Int) (x2 : Int) (x3 : Int) (x5 : Int) (σ : mS) : L_X12_series_26 N (n + 1) x1 x2 x3 x5 σ =
  if (σ 71 0 6) ≤ x5 then
    some (x3, σ)
  else
    Option.bind (L_X12_series_38 N N x1 x2 x3 x5 0 σ) fun s1875 =>
    Option.bind (L_X12_series_70 N N x1 x2 x3 x5 0 s1875) fun s1900 =>
    if (0 ≤ (mw ((mw ((48 : Int) * x2)) + x5)) ∧ (mw ((mw ((48 : Int) * x2)) + x5)) < 768) ∧ (0 ≤ x1 ∧ x1 < 201) then
      L_X12_series_26 N n x1 x2 (mx (x3 + (mx ((s1900 79 0 ((mw ((mw ((48 : Int) * x2)) + x5)).toNat)) * (s1900 82 0 x1.toNat))))) (mw (x5 + 1)) s1900
    else none := rfl
noncomputable def f_X12_series (N : Nat) (a1 : Int) (a2 : Int) (σ : mS) : Option (Int × mS) :=
  Option.bind (f_X12_isIn N a1 0 200 σ) fun ⟨v1870, s1869⟩ =>
  if v1870 = 0 then
    some ((-1 : Int), s1869)
  else
    Option.bind (f_X12_isSign N a2 s1869) fun ⟨v1872, s1871⟩ =>
    if v1872 = 0 then
      some ((-1 : Int), s1871)
    else
      Option.bind (L_X12_series_26 N N a1 a2 0 0 s1871) fun ⟨o1905, s1904⟩ =>
      if ¬ (s1904 71 0 6) = 0 then
        some ((mw (o_ldiv o1905 (s1904 71 0 6))), s1904)
      else none
noncomputable def L_X12_few_26 (N : Nat) (n : Nat) : Int → Int → Int → mS → Option (mS) := @Nat.rec (fun _ => Int → Int → Int → mS → Option (mS)) (fun _ _ _ _ => none) (fun n ih x1 x2 x3 σ =>
  if (729 : Int) ≤ x3 then
    some σ
  else
    if (0 ≤ (mw ((mw ((729 : Int) * x2)) + x3)) ∧ (mw ((mw ((729 : Int) * x2)) + x3)) < 29160) ∧ (0 ≤ (mw ((mw ((729 : Int) * x1)) + x3)) ∧ (mw ((mw ((729 : Int) * x1)) + x3)) < 7290) then
      ih x1 x2 (mw (x3 + 1)) (mup σ 81 0 ((mw ((mw ((729 : Int) * x1)) + x3)).toNat) (σ 84 0 ((mw ((mw ((729 : Int) * x2)) + x3)).toNat)))
    else none
  ) n
theorem L_X12_few_26_s (N n : Nat) (x1 : Int) (x2 : Int) (x3 : Int) (σ : mS) : L_X12_few_26 N (n + 1) x1 x2 x3 σ =
  if (729 : Int) ≤ x3 then
    some σ
  else
    if (0 ≤ (mw ((mw ((729 : Int) * x2)) + x3)) ∧ (mw ((mw ((729 : Int) * x2)) + x3)) < 29160) ∧ (0 ≤ (mw ((mw ((729 : Int) * x1)) + x3)) ∧ (mw ((mw ((729 : Int) * x1)) + x3)) < 7290) then
      L_X12_few_26 N n x1 x2 (mw (x3 + 1)) (mup σ 81 0 ((mw ((mw ((729 : Int) * x1)) + x3)).toNat) (σ 84 0 ((mw ((mw ((729 : Int) * x2)) + x3)).toNat)))
    else none := rfl
noncomputable def f_X12_few (N : Nat) (a1 : Int) (a2 : Int) (σ : mS) : Option (Int × mS) :=
  Option.bind (f_X12_isPoly N a1 σ) fun ⟨v1912, s1911⟩ =>
  if v1912 = 0 then
    some ((-2 : Int), s1911)
  else
    Option.bind (f_X12_isIn N a2 0 (mw ((s1911 71 0 19) - 1)) s1911) fun ⟨v1914, s1913⟩ =>
    if v1914 = 0 then
      some ((-2 : Int), s1913)
    else
      Option.bind (L_X12_few_26 N N a1 a2 0 s1913) fun s1916 =>
      Option.bind (f_X12_degree0 N a1 s1916) fun ⟨v1918, s1917⟩ =>
      some (v1918, s1917)
noncomputable def f_X12_laws (N : Nat) (a1 : Int) (a2 : Int) (σ : mS) : Option (Int × mS) :=
  Option.bind (f_X12_isIn N a1 0 6 σ) fun ⟨v1926, s1925⟩ =>
  if v1926 = 0 then
    some ((-1 : Int), s1925)
  else
    Option.bind (f_X12_isIn N a2 0 1 s1925) fun ⟨v1928, s1927⟩ =>
    if v1928 = 0 then
      some ((-1 : Int), s1927)
    else
      Option.bind (f_X12_list N a1 s1927) fun s1929 =>
      if a2 = 0 then
        some ((s1929 71 0 26), s1929)
      else
        Option.bind (f_X12_count0 N a1 0 s1929) fun ⟨v1931, s1930⟩ =>
        some ((mw ((s1929 71 0 26) - v1931)), s1930)
noncomputable def L_X12_made_56 (N : Nat) (n : Nat) : Int → Int → Int → mS → Option (mS) := @Nat.rec (fun _ => Int → Int → Int → mS → Option (mS)) (fun _ _ _ _ => none) (fun n ih x1 x2 x3 σ =>
  if (729 : Int) ≤ x3 then
    some σ
  else
    if (mw ((mw ((o_div x3 81) + (o_rem (o_div x3 9) 9))) + (o_rem x3 9))) = x2 then
      if (0 ≤ (mw ((mw ((729 : Int) * x1)) + x3)) ∧ (mw ((mw ((729 : Int) * x1)) + x3)) < 7290) then
        if (0 ≤ x3 ∧ x3 < 729) then
          ih x1 x2 (mw (x3 + 1)) (mup σ 87 0 x3.toNat (σ 81 0 ((mw ((mw ((729 : Int) * x1)) + x3)).toNat)))
        else none
      else none
    else
      if (0 ≤ x3 ∧ x3 < 729) then
        ih x1 x2 (mw (x3 + 1)) (mup σ 87 0 x3.toNat 0)
      else none
  ) n
theorem L_X12_made_56_s (N n : Nat) (x1 : Int) (x2 : Int) (x3 : Int) (σ : mS) : L_X12_made_56 N (n + 1) x1 x2 x3 σ =
  if (729 : Int) ≤ x3 then
    some σ
  else
    if (mw ((mw ((o_div x3 81) + (o_rem (o_div x3 9) 9))) + (o_rem x3 9))) = x2 then
      if (0 ≤ (mw ((mw ((729 : Int) * x1)) + x3)) ∧ (mw ((mw ((729 : Int) * x1)) + x3)) < 7290) then
        if (0 ≤ x3 ∧ x3 < 729) then
          L_X12_made_56 N n x1 x2 (mw (x3 + 1)) (mup σ 87 0 x3.toNat (σ 81 0 ((mw ((mw ((729 : Int) * x1)) + x3)).toNat)))
        else none
      else none
    else
      if (0 ≤ x3 ∧ x3 < 729) then
        L_X12_made_56 N n x1 x2 (mw (x3 + 1)) (mup σ 87 0 x3.toNat 0)
      else none := rfl
noncomputable def L_X12_made_175 (N : Nat) (n : Nat) : Int → Int → Int → Int → Int → mS → Option (mS) := @Nat.rec (fun _ => Int → Int → Int → Int → Int → mS → Option (mS)) (fun _ _ _ _ _ _ => none) (fun n ih x1 x2 x3 x4 x5 σ =>
  if (40 : Int) ≤ x5 then
    some σ
  else
    if (0 ≤ x4 ∧ x4 < 30) ∧ (0 ≤ (mw ((mw ((40 : Int) * (σ 89 0 x4.toNat))) + x5)) ∧ (mw ((mw ((40 : Int) * (σ 89 0 x4.toNat))) + x5)) < 16000) ∧ (0 ≤ (mw ((mw ((40 : Int) * (σ 71 0 32))) + x5)) ∧ (mw ((mw ((40 : Int) * (σ 71 0 32))) + x5)) < 8000) then
      ih x1 x2 x3 x4 (mw (x5 + 1)) (mup σ 95 0 ((mw ((mw ((40 : Int) * (σ 71 0 32))) + x5)).toNat) (σ 85 0 ((mw ((mw ((40 : Int) * (σ 89 0 x4.toNat))) + x5)).toNat)))
    else none
  ) n
theorem L_X12_made_175_s (N n : Nat) (x1 : Int) (x2 : Int) (x3 : Int) (x4 : Int) (x5 : Int) (σ : mS) : L_X12_made_175 N (n + 1) x1 x2 x3 x4 x5 σ =
  if (40 : Int) ≤ x5 then
    some σ
  else
    if (0 ≤ x4 ∧ x4 < 30) ∧ (0 ≤ (mw ((mw ((40 : Int) * (σ 89 0 x4.toNat))) + x5)) ∧ (mw ((mw ((40 : Int) * (σ 89 0 x4.toNat))) + x5)) < 16000) ∧ (0 ≤ (mw ((mw ((40 : Int) * (σ 71 0 32))) + x5)) ∧ (mw ((mw ((40 : Int) * (σ 71 0 32))) + x5)) < 8000) then
      L_X12_made_175 N n x1 x2 x3 x4 (mw (x5 + 1)) (mup σ 95 0 ((mw ((mw ((40 : Int) * (σ 71 0 32))) + x5)).toNat) (σ 85 0 ((mw ((mw ((40 : Int) * (σ 89 0 x4.toNat))) + x5)).toNat)))
    else none := rfl
noncomputable def L_X12_made_120 (N : Nat) (n : Nat) : Int → Int → Int → Int → mS → Option (mS) := @Nat.rec (fun _ => Int → Int → Int → Int → mS → Option (mS)) (fun _ _ _ _ _ => none) (fun n ih x1 x2 x3 x4 σ =>
  if (σ 71 0 27) ≤ x4 then
    some σ
  else
    if x3 = 0 then
      some σ
    else
      if (0 ≤ x4 ∧ x4 < 30) then
        if (σ 91 0 x4.toNat) = 0 then
          ih x1 x2 x3 (mw (x4 + 1)) σ
        else
          if (0 ≤ x4 ∧ x4 < 30) ∧ (0 ≤ (σ 71 0 32) ∧ (σ 71 0 32) < 200) then
            Option.bind (L_X12_made_175 N N x1 x2 x3 x4 0 (mup (mup σ 93 0 ((σ 71 0 32).toNat) (σ 91 0 x4.toNat)) 94 0 ((σ 71 0 32).toNat) x2)) fun s1952 =>
            ih x1 x2 x3 (mw (x4 + 1)) (mup s1952 71 0 32 (mw ((s1952 71 0 32) + 1)))
          else none
      else none
  ) n
theorem L_X12_made_120_s (N n : Nat) (x1 : Int) (x2 : Int) (x3 : Int) (x4 : Int) (σ : mS) : L_X12_made_120 N (n + 1) x1 x2 x3 x4 σ =
  if (σ 71 0 27) ≤ x4 then
    some σ
  else
    if x3 = 0 then
      some σ
    else
      if (0 ≤ x4 ∧ x4 < 30) then
        if (σ 91 0 x4.toNat) = 0 then
          L_X12_made_120 N n x1 x2 x3 (mw (x4 + 1)) σ
        else
          if (0 ≤ x4 ∧ x4 < 30) ∧ (0 ≤ (σ 71 0 32) ∧ (σ 71 0 32) < 200) then
            Option.bind (L_X12_made_175 N N x1 x2 x3 x4 0 (mup (mup σ 93 0 ((σ 71 0 32).toNat) (σ 91 0 x4.toNat)) 94 0 ((σ 71 0 32).toNat) x2)) fun s1952 =>
            L_X12_made_120 N n x1 x2 x3 (mw (x4 + 1)) (mup s1952 71 0 32 (mw ((s1952 71 0 32) + 1)))
          else none
      else none := rfl
noncomputable def L_X12_made_43 (N : Nat) (n : Nat) : Int → Int → mS → Option (mS) := @Nat.rec (fun _ => Int → Int → mS → Option (mS)) (fun _ _ _ => none) (fun n ih x1 x2 σ =>
  if (7 : Int) ≤ x2 then
    some σ
  else
    Option.bind (f_X12_plainOf N x2 σ) fun s1945 =>
    Option.bind (L_X12_made_56 N N x1 x2 0 s1945) fun s1948 =>
    Option.bind (f_X12_lessens N s1948) fun ⟨v1950, s1949⟩ =>
    Option.bind (L_X12_made_120 N N x1 x2 v1950 0 s1949) fun s1957 =>
    ih x1 (mw (x2 + 1)) s1957
  ) n
theorem L_X12_made_43_s (N n : Nat) (x1 : Int) (x2 : Int) (σ : mS) : L_X12_made_43 N (n + 1) x1 x2 σ =
  if (7 : Int) ≤ x2 then
    some σ
  else
    Option.bind (f_X12_plainOf N x2 σ) fun s1945 =>
    Option.bind (L_X12_made_56 N N x1 x2 0 s1945) fun s1948 =>
    Option.bind (f_X12_lessens N s1948) fun ⟨v1950, s1949⟩ =>
    Option.bind (L_X12_made_120 N N x1 x2 v1950 0 s1949) fun s1957 =>
    L_X12_made_43 N n x1 (mw (x2 + 1)) s1957 := rfl
noncomputable def f_X12_made (N : Nat) (a1 : Int) (σ : mS) : Option (Int × mS) :=
  Option.bind (f_X12_isPoly N a1 σ) fun ⟨v1940, s1939⟩ =>
  if v1940 = 0 then
    some ((-1 : Int), s1939)
  else
    Option.bind (f_X12_stays0 N a1 0 s1939) fun ⟨v1942, s1941⟩ =>
    if v1942 = 0 then
      some ((-1 : Int), s1941)
    else
      Option.bind (f_X12_degree0 N a1 s1941) fun ⟨v1944, s1943⟩ =>
      if v1944 ≤ (6 : Int) then
        Option.bind (L_X12_made_43 N N a1 0 (mup (mup s1943 71 0 32 0) 71 0 36 (s1943 71 0 19))) fun s1963 =>
        some ((s1963 71 0 32), s1963)
      else
        some ((-1 : Int), s1943)
noncomputable def f_X12_part (N : Nat) (a1 : Int) (a2 : Int) (σ : mS) : Option (Int × mS) :=
  Option.bind (f_X12_isIn N a1 0 (mw ((σ 71 0 32) - 1)) σ) fun ⟨v1972, s1971⟩ =>
  if v1972 = 0 then
    some ((-1 : Int), s1971)
  else
    if a2 = 0 then
      if (0 ≤ a1 ∧ a1 < 200) then
        some ((s1971 93 0 a1.toNat), s1971)
      else none
    else
      if a2 = (1 : Int) then
        if (0 ≤ a1 ∧ a1 < 200) then
          some ((s1971 94 0 a1.toNat), s1971)
        else none
      else
        Option.bind (f_X12_isIn N a2 2 (mw ((1 : Int) + (s1971 71 0 36))) s1971) fun ⟨v1974, s1973⟩ =>
        if v1974 = 0 then
          some ((-1 : Int), s1973)
        else
          if (0 ≤ (mw ((mw ((mw ((40 : Int) * a1)) + a2)) - 2)) ∧ (mw ((mw ((mw ((40 : Int) * a1)) + a2)) - 2)) < 8000) then
            some ((s1973 95 0 ((mw ((mw ((mw ((40 : Int) * a1)) + a2)) - 2)).toNat)), s1973)
          else none
noncomputable def L_X12_power_5 (N : Nat) (n : Nat) : Int → Int → Int → Int → mS → Option (Int × mS) := @Nat.rec (fun _ => Int → Int → Int → Int → mS → Option (Int × mS)) (fun _ _ _ _ _ => none) (fun n ih x0 x1 x2 x4 σ =>
  if x1 ≤ x4 then
    some (x2, σ)
  else
    ih x0 x1 (o_lrem (mx (x2 * x0)) 32003) (mw (x4 + 1)) σ
  ) n
theorem L_X12_power_5_s (N n : Nat) (x0 : Int) (x1 : Int) (x2 : Int) (x4 : Int) (σ : mS) : L_X12_power_5 N (n + 1) x0 x1 x2 x4 σ =
  if x1 ≤ x4 then
    some (x2, σ)
  else
    L_X12_power_5 N n x0 x1 (o_lrem (mx (x2 * x0)) 32003) (mw (x4 + 1)) σ := rfl
noncomputable def f_X12_power (N : Nat) (a0 : Int) (a1 : Int) (σ : mS) : Option (Int × mS) :=
  Option.bind (L_X12_power_5 N N a0 a1 1 0 σ) fun ⟨o1991, s1990⟩ =>
  some ((mw o1991), s1990)
noncomputable def L_X12_value_38 (N : Nat) (n : Nat) : Int → Int → Int → Int → Int → Int → Int → Int → mS → Option (Int × mS) := @Nat.rec (fun _ => Int → Int → Int → Int → Int → Int → Int → Int → mS → Option (Int × mS)) (fun _ _ _ _ _ _ _ _ _ => none) (fun n ih x1 x2 x3 x4 x5 x7 x8 x9 σ =>
  if (9 : Int) ≤ (mw ((mw (x7 + x8)) + x9)) then
    some (x5, σ)
  else
    Option.bind (f_X12_of_ N x1 x7 x8 x9 σ) fun ⟨v1984, s1983⟩ =>
    if v1984 = 0 then
      ih x1 x2 x3 x4 (mx (x5 + 0)) x7 x8 (mw (x9 + 1)) s1983
    else
      Option.bind (f_X12_of_ N x1 x7 x8 x9 s1983) fun ⟨v1986, s1985⟩ =>
      Option.bind (f_X12_left N x2 s1985) fun ⟨v1988, s1987⟩ =>
      Option.bind (f_X12_power N v1988 x7 s1987) fun ⟨v1994, s1993⟩ =>
      Option.bind (f_X12_left N x3 s1993) fun ⟨v1996, s1995⟩ =>
      Option.bind (f_X12_power N v1996 x8 s1995) fun ⟨v1998, s1997⟩ =>
      Option.bind (f_X12_left N x4 s1997) fun ⟨v2000, s1999⟩ =>
      Option.bind (f_X12_power N v2000 x9 s1999) fun ⟨v2002, s2001⟩ =>
      ih x1 x2 x3 x4 (mx (x5 + (o_lrem (mx ((o_lrem (mx ((o_lrem (mx (v1986 * v1994)) 32003) * v1998)) 32003) * v2002)) 32003))) x7 x8 (mw (x9 + 1)) s2001
  ) n
theorem L_X12_value_38_s (N n : Nat) (x1 : Int) (x2 : Int) (x3 : Int) (x4 : Int) (x5 : Int) (x7 : Int) (x8 : Int) (x9 : Int) (σ : mS) : L_X12_value_38 N (n + 1) x1 x2 x3 x4 x5 x7 x8 x9 σ =
  if (9 : Int) ≤ (mw ((mw (x7 + x8)) + x9)) then
    some (x5, σ)
  else
    Option.bind (f_X12_of_ N x1 x7 x8 x9 σ) fun ⟨v1984, s1983⟩ =>
    if v1984 = 0 then
      L_X12_value_38 N n x1 x2 x3 x4 (mx (x5 + 0)) x7 x8 (mw (x9 + 1)) s1983
    else
      Option.bind (f_X12_of_ N x1 x7 x8 x9 s1983) fun ⟨v1986, s1985⟩ =>
      Option.bind (f_X12_left N x2 s1985) fun ⟨v1988, s1987⟩ =>
      Option.bind (f_X12_power N v1988 x7 s1987) fun ⟨v1994, s1993⟩ =>
      Option.bind (f_X12_left N x3 s1993) fun ⟨v1996, s1995⟩ =>
      Option.bind (f_X12_power N v1996 x8 s1995) fun ⟨v1998, s1997⟩ =>
      Option.bind (f_X12_left N x4 s1997) fun ⟨v2000, s1999⟩ =>
      Option.bind (f_X12_power N v2000 x9 s1999) fun ⟨v2002, s2001⟩ =>
      L_X12_value_38 N n x1 x2 x3 x4 (mx (x5 + (o_lrem (mx ((o_lrem (mx ((o_lrem (mx (v1986 * v1994)) 32003) * v1998)) 32003) * v2002)) 32003))) x7 x8 (mw (x9 + 1)) s2001 := rfl
noncomputable def L_X12_value_25 (N : Nat) (n : Nat) : Int → Int → Int → Int → Int → Int → Int → mS → Option (Int × mS) := @Nat.rec (fun _ => Int → Int → Int → Int → Int → Int → Int → mS → Option (Int × mS)) (fun _ _ _ _ _ _ _ _ => none) (fun n ih x1 x2 x3 x4 x5 x7 x8 σ =>
  if (9 : Int) ≤ (mw (x7 + x8)) then
    some (x5, σ)
  else
    Option.bind (L_X12_value_38 N N x1 x2 x3 x4 x5 x7 x8 0 σ) fun ⟨o2014, s2013⟩ =>
    ih x1 x2 x3 x4 o2014 x7 (mw (x8 + 1)) s2013
  ) n
theorem L_X12_value_25_s (N n : Nat) (x1 : Int) (x2 : Int) (x3 : Int) (x4 : Int) (x5 : Int) (x7 : Int) (x8 : Int) (σ : mS) : L_X12_value_25 N (n + 1) x1 x2 x3 x4 x5 x7 x8 σ =
  if (9 : Int) ≤ (mw (x7 + x8)) then
    some (x5, σ)
  else
    Option.bind (L_X12_value_38 N N x1 x2 x3 x4 x5 x7 x8 0 σ) fun ⟨o2014, s2013⟩ =>
    L_X12_value_25 N n x1 x2 x3 x4 o2014 x7 (mw (x8 + 1)) s2013 := rfl
noncomputable def L_X12_value_15 (N : Nat) (n : Nat) : Int → Int → Int → Int → Int → Int → mS → Option (Int × mS) := @Nat.rec (fun _ => Int → Int → Int → Int → Int → Int → mS → Option (Int × mS)) (fun _ _ _ _ _ _ _ => none) (fun n ih x1 x2 x3 x4 x5 x7 σ =>
  if (9 : Int) ≤ x7 then
    some (x5, σ)
  else
    Option.bind (L_X12_value_25 N N x1 x2 x3 x4 x5 x7 0 σ) fun ⟨o2018, s2017⟩ =>
    ih x1 x2 x3 x4 o2018 (mw (x7 + 1)) s2017
  ) n
theorem L_X12_value_15_s (N n : Nat) (x1 : Int) (x2 : Int) (x3 : Int) (x4 : Int) (x5 : Int) (x7 : Int) (σ : mS) : L_X12_value_15 N (n + 1) x1 x2 x3 x4 x5 x7 σ =
  if (9 : Int) ≤ x7 then
    some (x5, σ)
  else
    Option.bind (L_X12_value_25 N N x1 x2 x3 x4 x5 x7 0 σ) fun ⟨o2018, s2017⟩ =>
    L_X12_value_15 N n x1 x2 x3 x4 o2018 (mw (x7 + 1)) s2017 := rfl
noncomputable def f_X12_value (N : Nat) (a1 : Int) (a2 : Int) (a3 : Int) (a4 : Int) (σ : mS) : Option (Int × mS) :=
  Option.bind (f_X12_isPoly N a1 σ) fun ⟨v1982, s1981⟩ =>
  if v1982 = 0 then
    some ((-1 : Int), s1981)
  else
    Option.bind (L_X12_value_15 N N a1 a2 a3 a4 0 0 s1981) fun ⟨o2022, s2021⟩ =>
    Option.bind (f_X12_left N o2022 s2021) fun ⟨v2024, s2023⟩ =>
    some (v2024, s2023)
noncomputable def L_X12_leads0_2 (N : Nat) (n : Nat) : Int → Int → mS → Option (mS) := @Nat.rec (fun _ => Int → Int → mS → Option (mS)) (fun _ _ _ => none) (fun n ih x1 x2 σ =>
  if (3 : Int) ≤ x2 then
    some σ
  else
    if (0 ≤ (mw ((mw ((3 : Int) * x1)) + x2)) ∧ (mw ((mw ((3 : Int) * x1)) + x2)) < 144) then
      Option.bind (f_X12_size N (σ 74 0 ((mw ((mw ((3 : Int) * x1)) + x2)).toNat)) σ) fun ⟨v2030, s2029⟩ =>
      if 0 ≤ (σ 74 0 ((mw ((mw ((3 : Int) * x1)) + x2)).toNat)) then
        if (0 ≤ x2 ∧ x2 < 3) ∧ (0 ≤ (mw (v2030 - 1)) ∧ (mw (v2030 - 1)) < 3) then
          ih x1 (mw (x2 + 1)) (mup s2029 98 0 ((mw (v2030 - 1)).toNat) (s2029 96 0 x2.toNat))
        else none
      else
        if (0 ≤ x2 ∧ x2 < 3) then
          if (0 ≤ (mw (v2030 - 1)) ∧ (mw (v2030 - 1)) < 3) then
            ih x1 (mw (x2 + 1)) (mup s2029 98 0 ((mw (v2030 - 1)).toNat) (mw (-(s2029 96 0 x2.toNat))))
          else none
        else none
    else none
  ) n
theorem L_X12_leads0_2_s (N n : Nat) (x1 : Int) (x2 : Int) (σ : mS) : L_X12_leads0_2 N (n + 1) x1 x2 σ =
  if (3 : Int) ≤ x2 then
    some σ
  else
    if (0 ≤ (mw ((mw ((3 : Int) * x1)) + x2)) ∧ (mw ((mw ((3 : Int) * x1)) + x2)) < 144) then
      Option.bind (f_X12_size N (σ 74 0 ((mw ((mw ((3 : Int) * x1)) + x2)).toNat)) σ) fun ⟨v2030, s2029⟩ =>
      if 0 ≤ (σ 74 0 ((mw ((mw ((3 : Int) * x1)) + x2)).toNat)) then
        if (0 ≤ x2 ∧ x2 < 3) ∧ (0 ≤ (mw (v2030 - 1)) ∧ (mw (v2030 - 1)) < 3) then
          L_X12_leads0_2 N n x1 (mw (x2 + 1)) (mup s2029 98 0 ((mw (v2030 - 1)).toNat) (s2029 96 0 x2.toNat))
        else none
      else
        if (0 ≤ x2 ∧ x2 < 3) then
          if (0 ≤ (mw (v2030 - 1)) ∧ (mw (v2030 - 1)) < 3) then
            L_X12_leads0_2 N n x1 (mw (x2 + 1)) (mup s2029 98 0 ((mw (v2030 - 1)).toNat) (mw (-(s2029 96 0 x2.toNat))))
          else none
        else none
    else none := rfl
noncomputable def f_X12_leads0 (N : Nat) (a1 : Int) (σ : mS) : Option (mS) :=
  Option.bind (L_X12_leads0_2 N N a1 0 σ) fun s2034 =>
  some s2034
noncomputable def L_X12_images_55 (N : Nat) (n : Nat) : Int → Int → Int → mS → Option (Int × mS) := @Nat.rec (fun _ => Int → Int → Int → mS → Option (Int × mS)) (fun _ _ _ _ => none) (fun n ih x4 x5 x6 σ =>
  if (σ 71 0 40) ≤ x6 then
    some (x5, σ)
  else
    if x5 = 0 then
      if (0 ≤ (mw ((3 : Int) * x6)) ∧ (mw ((3 : Int) * x6)) < 144) then
        if (σ 97 0 ((mw ((3 : Int) * x6)).toNat)) = (σ 98 0 0) then
          if (0 ≤ (mw ((mw ((3 : Int) * x6)) + 1)) ∧ (mw ((mw ((3 : Int) * x6)) + 1)) < 144) then
            if (σ 97 0 ((mw ((mw ((3 : Int) * x6)) + 1)).toNat)) = (σ 98 0 1) then
              if (0 ≤ (mw ((mw ((3 : Int) * x6)) + 2)) ∧ (mw ((mw ((3 : Int) * x6)) + 2)) < 144) then
                if (σ 97 0 ((mw ((mw ((3 : Int) * x6)) + 2)).toNat)) = (σ 98 0 2) then
                  ih x4 1 (mw (x6 + 1)) σ
                else
                  ih x4 0 (mw (x6 + 1)) σ
              else none
            else
              ih x4 0 (mw (x6 + 1)) σ
          else none
        else
          ih x4 0 (mw (x6 + 1)) σ
      else none
    else
      ih x4 1 (mw (x6 + 1)) σ
  ) n
theorem L_X12_images_55_s (N n : Nat) (x4 : Int) (x5 : Int) (x6 : Int) (σ : mS) : L_X12_images_55 N (n + 1) x4 x5 x6 σ =
  if (σ 71 0 40) ≤ x6 then
    some (x5, σ)
  else
    if x5 = 0 then
      if (0 ≤ (mw ((3 : Int) * x6)) ∧ (mw ((3 : Int) * x6)) < 144) then
        if (σ 97 0 ((mw ((3 : Int) * x6)).toNat)) = (σ 98 0 0) then
          if (0 ≤ (mw ((mw ((3 : Int) * x6)) + 1)) ∧ (mw ((mw ((3 : Int) * x6)) + 1)) < 144) then
            if (σ 97 0 ((mw ((mw ((3 : Int) * x6)) + 1)).toNat)) = (σ 98 0 1) then
              if (0 ≤ (mw ((mw ((3 : Int) * x6)) + 2)) ∧ (mw ((mw ((3 : Int) * x6)) + 2)) < 144) then
                if (σ 97 0 ((mw ((mw ((3 : Int) * x6)) + 2)).toNat)) = (σ 98 0 2) then
                  L_X12_images_55 N n x4 1 (mw (x6 + 1)) σ
                else
                  L_X12_images_55 N n x4 0 (mw (x6 + 1)) σ
              else none
            else
              L_X12_images_55 N n x4 0 (mw (x6 + 1)) σ
          else none
        else
          L_X12_images_55 N n x4 0 (mw (x6 + 1)) σ
      else none
    else
      L_X12_images_55 N n x4 1 (mw (x6 + 1)) σ := rfl
noncomputable def L_X12_images_151 (N : Nat) (n : Nat) : Int → Int → mS → Option (mS) := @Nat.rec (fun _ => Int → Int → mS → Option (mS)) (fun _ _ _ => none) (fun n ih x4 x6 σ =>
  if (3 : Int) ≤ x6 then
    some σ
  else
    if (0 ≤ x6 ∧ x6 < 3) ∧ (0 ≤ (mw ((mw ((3 : Int) * (σ 71 0 40))) + x6)) ∧ (mw ((mw ((3 : Int) * (σ 71 0 40))) + x6)) < 144) then
      ih x4 (mw (x6 + 1)) (mup σ 97 0 ((mw ((mw ((3 : Int) * (σ 71 0 40))) + x6)).toNat) (σ 98 0 x6.toNat))
    else none
  ) n
theorem L_X12_images_151_s (N n : Nat) (x4 : Int) (x6 : Int) (σ : mS) : L_X12_images_151 N (n + 1) x4 x6 σ =
  if (3 : Int) ≤ x6 then
    some σ
  else
    if (0 ≤ x6 ∧ x6 < 3) ∧ (0 ≤ (mw ((mw ((3 : Int) * (σ 71 0 40))) + x6)) ∧ (mw ((mw ((3 : Int) * (σ 71 0 40))) + x6)) < 144) then
      L_X12_images_151 N n x4 (mw (x6 + 1)) (mup σ 97 0 ((mw ((mw ((3 : Int) * (σ 71 0 40))) + x6)).toNat) (σ 98 0 x6.toNat))
    else none := rfl
noncomputable def L_X12_images_34 (N : Nat) (n : Nat) : Int → mS → Option (mS) := @Nat.rec (fun _ => Int → mS → Option (mS)) (fun _ _ => none) (fun n ih x4 σ =>
  if (σ 71 0 6) ≤ x4 then
    some σ
  else
    Option.bind (f_X12_leads0 N x4 σ) fun s2036 =>
    Option.bind (L_X12_images_55 N N x4 0 0 s2036) fun ⟨o2043, s2042⟩ =>
    if o2043 = 0 then
      Option.bind (L_X12_images_151 N N x4 0 s2042) fun s2045 =>
      ih (mw (x4 + 1)) (mup s2045 71 0 40 (mw ((s2045 71 0 40) + 1)))
    else
      ih (mw (x4 + 1)) s2042
  ) n
theorem L_X12_images_34_s (N n : Nat) (x4 : Int) (σ : mS) : L_X12_images_34 N (n + 1) x4 σ =
  if (σ 71 0 6) ≤ x4 then
    some σ
  else
    Option.bind (f_X12_leads0 N x4 σ) fun s2036 =>
    Option.bind (L_X12_images_55 N N x4 0 0 s2036) fun ⟨o2043, s2042⟩ =>
    if o2043 = 0 then
      Option.bind (L_X12_images_151 N N x4 0 s2042) fun s2045 =>
      L_X12_images_34 N n (mw (x4 + 1)) (mup s2045 71 0 40 (mw ((s2045 71 0 40) + 1)))
    else
      L_X12_images_34 N n (mw (x4 + 1)) s2042 := rfl
noncomputable def f_X12_images (N : Nat) (a1 : Int) (a2 : Int) (a3 : Int) (σ : mS) : Option (Int × mS) :=
  Option.bind (L_X12_images_34 N N 0 (mup (mup (mup (mup (mup σ 96 0 0 a1) 96 0 1 a2) 96 0 2 a3) 71 0 41 1) 71 0 40 0)) fun s2051 =>
  some ((s2051 71 0 40), s2051)
noncomputable def f_X12_image (N : Nat) (a1 : Int) (a2 : Int) (σ : mS) : Option (Int × mS) :=
  Option.bind (f_X12_isIn N a1 0 (mw ((σ 71 0 40) - 1)) σ) fun ⟨v2054, s2053⟩ =>
  if v2054 = 0 then
    some ((0 : Int), s2053)
  else
    Option.bind (f_X12_isIn N a2 0 2 s2053) fun ⟨v2056, s2055⟩ =>
    if v2056 = 0 then
      some ((0 : Int), s2055)
    else
      if (0 ≤ (mw ((mw ((3 : Int) * a1)) + a2)) ∧ (mw ((mw ((3 : Int) * a1)) + a2)) < 144) then
        some ((s2055 97 0 ((mw ((mw ((3 : Int) * a1)) + a2)).toNat)), s2055)
      else none
noncomputable def L_X12_leads_3 (N : Nat) (n : Nat) : Int → Int → Int → Int → mS → Option ((Int × mS) ⊕ (mS)) := @Nat.rec (fun _ => Int → Int → Int → Int → mS → Option ((Int × mS) ⊕ (mS))) (fun _ _ _ _ _ => none) (fun n ih x1 x2 x3 x4 σ =>
  if (σ 71 0 6) ≤ x4 then
    some (.inr σ)
  else
    if (σ 71 0 41) = 0 then
      some (.inr σ)
    else
      Option.bind (f_X12_leads0 N x4 σ) fun s2061 =>
      if (s2061 98 0 0) = x1 then
        if (s2061 98 0 1) = x2 then
          if (s2061 98 0 2) = x3 then
            some (.inl (x4, s2061))
          else
            ih x1 x2 x3 (mw (x4 + 1)) s2061
        else
          ih x1 x2 x3 (mw (x4 + 1)) s2061
      else
        ih x1 x2 x3 (mw (x4 + 1)) s2061
  ) n
theorem L_X12_leads_3_s (N n : Nat) (x1 : Int) (x2 : Int) (x3 : Int) (x4 : Int) (σ : mS) : L_X12_leads_3 N (n + 1) x1 x2 x3 x4 σ =
  if (σ 71 0 6) ≤ x4 then
    some (.inr σ)
  else
    if (σ 71 0 41) = 0 then
      some (.inr σ)
    else
      Option.bind (f_X12_leads0 N x4 σ) fun s2061 =>
      if (s2061 98 0 0) = x1 then
        if (s2061 98 0 1) = x2 then
          if (s2061 98 0 2) = x3 then
            some (.inl (x4, s2061))
          else
            L_X12_leads_3 N n x1 x2 x3 (mw (x4 + 1)) s2061
        else
          L_X12_leads_3 N n x1 x2 x3 (mw (x4 + 1)) s2061
      else
        L_X12_leads_3 N n x1 x2 x3 (mw (x4 + 1)) s2061 := rfl
noncomputable def f_X12_leads (N : Nat) (a1 : Int) (a2 : Int) (a3 : Int) (σ : mS) : Option (Int × mS) :=
  Option.bind (L_X12_leads_3 N N a1 a2 a3 0 σ) fun o => match o with
    | .inl (v2070, s2071) => some (v2070, s2071)
    | .inr s2068 =>
      some ((-1 : Int), s2068)
