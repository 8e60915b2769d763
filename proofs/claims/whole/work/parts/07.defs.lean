/-! THE METHODS IN THOUGHT, printed from the bytecode by a program (wip/whole/gen/decomp.py) -/
/-- a literal's length, a sign of it -/
def sLen (i : Nat) : Option Int32 := if i < 10 then some (Int32.ofNat (litB.getD i []).length) else none
def sAt (i : Nat) (k : Int32) : Option Int32 := if i < 10 ∧ vpi k (litB.getD i []).length = true then some ((litB.getD i []).getD k.toNatClampNeg 0) else none
def f_X0_init (t : Nat) (h : HP) : Option (Unit × HP) :=
  (pI 0 2 t 3 h).bind fun h6 =>
  (pI 0 4 t 1 h6).bind fun h11 =>
  ob (mkA 7 8 h11) fun x17 h17 =>
  (pR 0 6 t x17 h17).bind fun h19 =>
  ob (mkA 7 8 h19) fun x25 h25 =>
  (pR 0 7 t x25 h25).bind fun h27 =>
  ob (mkA 7 8 h27) fun x33 h33 =>
  (pR 0 8 t x33 h33).bind fun h35 =>
  ob (mkA 7 8 h35) fun x41 h41 =>
  (pR 0 9 t x41 h41).bind fun h43 =>
  ob (mkA 7 8 h43) fun x49 h49 =>
  (pR 0 10 t x49 h49).bind fun h51 =>
  ob (mkA 7 6 h51) fun x57 h57 =>
  (pR 0 11 t x57 h57).bind fun h59 =>
  ob (mkA 7 6 h59) fun x65 h65 =>
  (pR 0 12 t x65 h65).bind fun h67 =>
  ob (mkA 7 6 h67) fun x73 h73 =>
  (pR 0 13 t x73 h73).bind fun h75 =>
  ob (mkA 7 48 h75) fun x81 h81 =>
  (pR 0 14 t x81 h81).bind fun h83 =>
  ob (mkA 7 48 h83) fun x89 h89 =>
  (pR 0 15 t x89 h89).bind fun h91 =>
  some ((), h91)
def f_X0_become (t : Nat) (a1 : Nat) (h : HP) : Option (Unit × HP) :=
  (gI 0 0 a1 h).bind fun x2 =>
  (pI 0 0 t x2 h).bind fun h5 =>
  (gI 0 1 a1 h5).bind fun x10 =>
  (pI 0 1 t x10 h5).bind fun h13 =>
  (gI 0 2 a1 h13).bind fun x18 =>
  (pI 0 2 t x18 h13).bind fun h21 =>
  (gI 0 3 a1 h21).bind fun x26 =>
  (pI 0 3 t x26 h21).bind fun h29 =>
  (gI 0 4 a1 h29).bind fun x34 =>
  (pI 0 4 t x34 h29).bind fun h37 =>
  (gI 0 5 a1 h37).bind fun x42 =>
  (pI 0 5 t x42 h37).bind fun h45 =>
  (gR 0 6 a1 h45).bind fun x49 =>
  (gR 0 6 t h45).bind fun x54 =>
  (cpI x49 0 x54 0 8 h45).bind fun h60 =>
  (gR 0 7 a1 h60).bind fun x64 =>
  (gR 0 7 t h60).bind fun x69 =>
  (cpI x64 0 x69 0 8 h60).bind fun h75 =>
  (gR 0 8 a1 h75).bind fun x79 =>
  (gR 0 8 t h75).bind fun x84 =>
  (cpI x79 0 x84 0 8 h75).bind fun h90 =>
  (gR 0 9 a1 h90).bind fun x94 =>
  (gR 0 9 t h90).bind fun x99 =>
  (cpI x94 0 x99 0 8 h90).bind fun h105 =>
  (gR 0 10 a1 h105).bind fun x109 =>
  (gR 0 10 t h105).bind fun x114 =>
  (cpI x109 0 x114 0 8 h105).bind fun h120 =>
  (gR 0 11 a1 h120).bind fun x124 =>
  (gR 0 11 t h120).bind fun x129 =>
  (cpI x124 0 x129 0 6 h120).bind fun h135 =>
  (gR 0 12 a1 h135).bind fun x139 =>
  (gR 0 12 t h135).bind fun x144 =>
  (cpI x139 0 x144 0 6 h135).bind fun h150 =>
  (gR 0 13 a1 h150).bind fun x154 =>
  (gR 0 13 t h150).bind fun x159 =>
  (cpI x154 0 x159 0 6 h150).bind fun h165 =>
  (gR 0 14 a1 h165).bind fun x169 =>
  (gR 0 14 t h165).bind fun x174 =>
  (cpI x169 0 x174 0 48 h165).bind fun h180 =>
  (gR 0 15 a1 h180).bind fun x184 =>
  (gR 0 15 t h180).bind fun x189 =>
  (cpI x184 0 x189 0 48 h180).bind fun h195 =>
  some ((), h195)
def f_X0_withBit (a0 : Int32) (a1 : Int32) (a2 : Int32) (h : HP) : Option (Int32 × HP) :=
  if a2 = 0 then
    some (a0 &&& ((1 <<< (a1 &&& 31)) ^^^ (-1)), h)
  else
    some (a0 ||| (1 <<< (a1 &&& 31)), h)
def f_X0_setHums (t : Nat) (a1 : Int32) (a2 : Int32) (h : HP) : Option (Unit × HP) :=
  (gI 0 5 t h).bind fun x2 =>
  ob (f_X0_withBit x2 a1 a2 h) fun x7 h7 =>
  (pI 0 5 t x7 h7).bind fun h10 =>
  some ((), h10)
def f_X0_setHeld (t : Nat) (a1 : Int32) (a2 : Int32) (a3 : Int32) (h : HP) : Option (Unit × HP) :=
  (gR 0 15 t h).bind fun x1 =>
  (sI x1 ((a1 * 6) + a2) a3 h).bind fun h11 =>
  some ((), h11)
def lb_X0_addPerson_57 (a0 : Nat) (a5 : Int32) (K : HP → Option (Int32 × HP)) (F : Int32 → HP → Option (Int32 × HP)) (b6 : Int32) (h : HP) : Option (Int32 × HP) :=
  if 6 ≤ b6 then
    K h
  else
    ob (inv 0 a0 h (f_X0_setHeld a0 a5 b6 (-1) h)) fun _ h70 =>
    F (b6 + 1) h70
def lp_X0_addPerson_57 (a0 : Nat) (a5 : Int32) (K : HP → Option (Int32 × HP)) : Nat → Int32 → HP → Option (Int32 × HP)
  | 0 => fun _ _ => none
  | k + 1 => lb_X0_addPerson_57 a0 a5 K (lp_X0_addPerson_57 a0 a5 K k)
def f_X0_addPerson (t : Nat) (a1 : Int32) (a2 : Int32) (a3 : Int32) (a4 : Int32) (h : HP) : Option (Int32 × HP) :=
  (gI 0 0 t h).bind fun x1 =>
  (gR 0 6 t h).bind fun x7 =>
  (sI x7 x1 a1 h).bind fun h13 =>
  (gR 0 7 t h13).bind fun x15 =>
  (sI x15 x1 a2 h13).bind fun h21 =>
  (gR 0 8 t h21).bind fun x23 =>
  (sI x23 x1 a3 h21).bind fun h29 =>
  (gR 0 9 t h29).bind fun x31 =>
  (sI x31 x1 a4 h29).bind fun h38 =>
  (gR 0 10 t h38).bind fun x40 =>
  (sI x40 x1 0 h38).bind fun h46 =>
  ob (inv 0 t h46 (f_X0_setHums t x1 0 h46)) fun _ h51 =>
  lp_X0_addPerson_57 t x1 (fun h57_ =>
    (pI 0 0 t (x1 + 1) h57_).bind fun h84 =>
    some (x1, h84))
    1000 0 h51
def lb_X0_addSong_29 (a0 : Nat) (a3 : Int32) (K : HP → Option (Int32 × HP)) (F : Int32 → HP → Option (Int32 × HP)) (b4 : Int32) (h : HP) : Option (Int32 × HP) :=
  if 8 ≤ b4 then
    K h
  else
    (gR 0 14 a0 h).bind fun x37 =>
    (sI x37 ((a3 * 8) + b4) 0 h).bind fun h48 =>
    F (b4 + 1) h48
def lp_X0_addSong_29 (a0 : Nat) (a3 : Int32) (K : HP → Option (Int32 × HP)) : Nat → Int32 → HP → Option (Int32 × HP)
  | 0 => fun _ _ => none
  | k + 1 => lb_X0_addSong_29 a0 a3 K (lp_X0_addSong_29 a0 a3 K k)
def lb_X0_addSong_58 (a0 : Nat) (a3 : Int32) (K : HP → Option (Int32 × HP)) (F : Int32 → HP → Option (Int32 × HP)) (b4 : Int32) (h : HP) : Option (Int32 × HP) :=
  if 8 ≤ b4 then
    K h
  else
    ob (inv 0 a0 h (f_X0_setHeld a0 b4 a3 (-1) h)) fun _ h70 =>
    F (b4 + 1) h70
def lp_X0_addSong_58 (a0 : Nat) (a3 : Int32) (K : HP → Option (Int32 × HP)) : Nat → Int32 → HP → Option (Int32 × HP)
  | 0 => fun _ _ => none
  | k + 1 => lb_X0_addSong_58 a0 a3 K (lp_X0_addSong_58 a0 a3 K k)
def f_X0_addSong (t : Nat) (a1 : Int32) (a2 : Int32) (h : HP) : Option (Int32 × HP) :=
  (gI 0 1 t h).bind fun x1 =>
  (gR 0 11 t h).bind fun x6 =>
  (sI x6 x1 a1 h).bind fun h11 =>
  (gR 0 12 t h11).bind fun x13 =>
  (sI x13 x1 a2 h11).bind fun h18 =>
  (gR 0 13 t h18).bind fun x20 =>
  (sI x20 x1 0 h18).bind fun h25 =>
  lp_X0_addSong_29 t x1 (fun h29_ =>
    lp_X0_addSong_58 t x1 (fun h58_ =>
      (pI 0 1 t (x1 + 1) h58_).bind fun h83 =>
      some (x1, h83))
      1000 0 h29_)
    1000 0 h25
def f_X0_heldFor (t : Nat) (a1 : Int32) (a2 : Int32) (h : HP) : Option (Int32 × HP) :=
  (gR 0 15 t h).bind fun x1 =>
  (lI x1 ((a1 * 6) + a2) h).bind fun x10 =>
  some (x10, h)
def f_X0_setBeside (t : Nat) (a1 : Int32) (a2 : Int32) (a3 : Int32) (h : HP) : Option (Unit × HP) :=
  (gR 0 10 t h).bind fun x1 =>
  (gR 0 10 t h).bind fun x6 =>
  (lI x6 a1 h).bind fun x10 =>
  ob (f_X0_withBit x10 a2 a3 h) fun x13 h13 =>
  (sI x1 a1 x13 h13).bind fun h16 =>
  (gR 0 10 t h16).bind fun x18 =>
  (gR 0 10 t h16).bind fun x23 =>
  (lI x23 a2 h16).bind fun x27 =>
  ob (f_X0_withBit x27 a1 a3 h16) fun x30 h30 =>
  (sI x18 a2 x30 h30).bind fun h33 =>
  some ((), h33)
def lb_X0_leaveTable_2 (a0 : Nat) (a1 : Int32) (K : HP → Option (Unit × HP)) (F : Int32 → HP → Option (Unit × HP)) (b2 : Int32) (h : HP) : Option (Unit × HP) :=
  (gI 0 0 a0 h).bind fun x4 =>
  if x4 ≤ b2 then
    K h
  else
    ob (inv 0 a0 h (f_X0_setBeside a0 a1 b2 0 h)) fun _ h14 =>
    F (b2 + 1) h14
def lp_X0_leaveTable_2 (a0 : Nat) (a1 : Int32) (K : HP → Option (Unit × HP)) : Nat → Int32 → HP → Option (Unit × HP)
  | 0 => fun _ _ => none
  | k + 1 => lb_X0_leaveTable_2 a0 a1 K (lp_X0_leaveTable_2 a0 a1 K k)
def f_X0_leaveTable (t : Nat) (a1 : Int32) (h : HP) : Option (Unit × HP) :=
  lp_X0_leaveTable_2 t a1 (fun h2_ =>
    some ((), h2_))
    1000 0 h
def f_X0_isOfKind (t : Nat) (a1 : Int32) (a2 : Int32) (h : HP) : Option (Int32 × HP) :=
  (gR 0 6 t h).bind fun x1 =>
  (lI x1 a1 h).bind fun x5 =>
  if a2 = 0 then
    rZ 1 h
  else
    if a2 = x5 then
      rZ 1 h
    else
      if a2 = 1 then
        if x5 = 3 then
          rZ 1 h
        else
          rZ 0 h
      else
        if a2 = 2 then
          if x5 = 4 then
            rZ 1 h
          else
            rZ 0 h
        else
          rZ 0 h
def f_X0_holdOn (t : Nat) (a1 : Int32) (a2 : Int32) (h : HP) : Option (Int32 × HP) :=
  (gR 0 8 t h).bind fun x1 =>
  (lI x1 a1 h).bind fun x5 =>
  (gR 0 9 t h).bind fun x9 =>
  (lI x9 a1 h).bind fun x13 =>
  (gR 0 6 t h).bind fun x17 =>
  (lI x17 a1 h).bind fun x21 =>
  if x21 = 1 then
    (gR 0 7 t h).bind fun x38 =>
    (lI x38 a1 h).bind fun x42 =>
    if 0 ≤ (((x5 + a2) - x13) - x42) then
      if x21 = 3 then
        (dz 2).bind fun _ =>
        some (((((x5 + a2) - x13) - x42) + 1) / 2, h)
      else
      if x21 = 4 then
        some ((((x5 + a2) - x13) - x42) + 5, h)
      else
      if x21 = 5 then
        some (2 * (((x5 + a2) - x13) - x42), h)
      else
      some (((x5 + a2) - x13) - x42, h)
    else
      if x21 = 3 then
        (dz 2).bind fun _ =>
        some ((0 + 1) / 2, h)
      else
      if x21 = 4 then
        some (0 + 5, h)
      else
      if x21 = 5 then
        some (2 * 0, h)
      else
      some (0, h)
  else
    if x21 = 3 then
      (gR 0 7 t h).bind fun x38 =>
      (lI x38 a1 h).bind fun x42 =>
      if 0 ≤ (((x5 + a2) - x13) - x42) then
        if x21 = 3 then
          (dz 2).bind fun _ =>
          some (((((x5 + a2) - x13) - x42) + 1) / 2, h)
        else
        if x21 = 4 then
          some ((((x5 + a2) - x13) - x42) + 5, h)
        else
        if x21 = 5 then
          some (2 * (((x5 + a2) - x13) - x42), h)
        else
        some (((x5 + a2) - x13) - x42, h)
      else
        if x21 = 3 then
          (dz 2).bind fun _ =>
          some ((0 + 1) / 2, h)
        else
        if x21 = 4 then
          some (0 + 5, h)
        else
        if x21 = 5 then
          some (2 * 0, h)
        else
        some (0, h)
    else
      if x21 = 2 then
        (gI 0 2 t h).bind fun x62 =>
        if 0 ≤ (((x5 + a2) - x13) - x62) then
          if x21 = 3 then
            (dz 2).bind fun _ =>
            some (((((x5 + a2) - x13) - x62) + 1) / 2, h)
          else
          if x21 = 4 then
            some ((((x5 + a2) - x13) - x62) + 5, h)
          else
          if x21 = 5 then
            some (2 * (((x5 + a2) - x13) - x62), h)
          else
          some (((x5 + a2) - x13) - x62, h)
        else
          if x21 = 3 then
            (dz 2).bind fun _ =>
            some ((0 + 1) / 2, h)
          else
          if x21 = 4 then
            some (0 + 5, h)
          else
          if x21 = 5 then
            some (2 * 0, h)
          else
          some (0, h)
      else
        if x21 = 4 then
          (gI 0 2 t h).bind fun x62 =>
          if 0 ≤ (((x5 + a2) - x13) - x62) then
            if x21 = 3 then
              (dz 2).bind fun _ =>
              some (((((x5 + a2) - x13) - x62) + 1) / 2, h)
            else
            if x21 = 4 then
              some ((((x5 + a2) - x13) - x62) + 5, h)
            else
            if x21 = 5 then
              some (2 * (((x5 + a2) - x13) - x62), h)
            else
            some (((x5 + a2) - x13) - x62, h)
          else
            if x21 = 3 then
              (dz 2).bind fun _ =>
              some ((0 + 1) / 2, h)
            else
            if x21 = 4 then
              some (0 + 5, h)
            else
            if x21 = 5 then
              some (2 * 0, h)
            else
            some (0, h)
        else
          if 0 ≤ ((x5 + a2) - x13) then
            if x21 = 3 then
              (dz 2).bind fun _ =>
              some ((((x5 + a2) - x13) + 1) / 2, h)
            else
            if x21 = 4 then
              some (((x5 + a2) - x13) + 5, h)
            else
            if x21 = 5 then
              some (2 * ((x5 + a2) - x13), h)
            else
            some ((x5 + a2) - x13, h)
          else
            if x21 = 3 then
              (dz 2).bind fun _ =>
              some ((0 + 1) / 2, h)
            else
            if x21 = 4 then
              some (0 + 5, h)
            else
            if x21 = 5 then
              some (2 * 0, h)
            else
            some (0, h)
def lb_X0_havers_4 (a0 : Nat) (a1 : Int32) (K : Int32 → HP → Option (Int32 × HP)) (F : Int32 → Int32 → HP → Option (Int32 × HP)) (b2 : Int32) (b3 : Int32) (h : HP) : Option (Int32 × HP) :=
  (gI 0 0 a0 h).bind fun x6 =>
  if x6 ≤ b3 then
    K b2 h
  else
    ob (inv 0 a0 h (f_X0_heldFor a0 b3 a1 h)) fun x15 h15 =>
    if x15 = (-1) then
      F b2 (b3 + 1) h15
    else
      F (b2 ||| (1 <<< (b3 &&& 31))) (b3 + 1) h15
def lp_X0_havers_4 (a0 : Nat) (a1 : Int32) (K : Int32 → HP → Option (Int32 × HP)) : Nat → Int32 → Int32 → HP → Option (Int32 × HP)
  | 0 => fun _ _ _ => none
  | k + 1 => lb_X0_havers_4 a0 a1 K (lp_X0_havers_4 a0 a1 K k)
def f_X0_havers (t : Nat) (a1 : Int32) (h : HP) : Option (Int32 × HP) :=
  lp_X0_havers_4 t a1 (fun b2_4 h4_ =>
    some (b2_4, h4_))
    1000 0 0 h
def lb_X0_repertoire_4 (a0 : Nat) (a1 : Int32) (K : Int32 → HP → Option (Int32 × HP)) (F : Int32 → Int32 → HP → Option (Int32 × HP)) (b2 : Int32) (b3 : Int32) (h : HP) : Option (Int32 × HP) :=
  (gI 0 1 a0 h).bind fun x6 =>
  if x6 ≤ b3 then
    K b2 h
  else
    ob (inv 0 a0 h (f_X0_heldFor a0 a1 b3 h)) fun x15 h15 =>
    if x15 = (-1) then
      F b2 (b3 + 1) h15
    else
      F (b2 ||| (1 <<< (b3 &&& 31))) (b3 + 1) h15
def lp_X0_repertoire_4 (a0 : Nat) (a1 : Int32) (K : Int32 → HP → Option (Int32 × HP)) : Nat → Int32 → Int32 → HP → Option (Int32 × HP)
  | 0 => fun _ _ _ => none
  | k + 1 => lb_X0_repertoire_4 a0 a1 K (lp_X0_repertoire_4 a0 a1 K k)
def f_X0_repertoire (t : Nat) (a1 : Int32) (h : HP) : Option (Int32 × HP) :=
  lp_X0_repertoire_4 t a1 (fun b2_4 h4_ =>
    some (b2_4, h4_))
    1000 0 0 h
def lb_X0_knownSongs_4 (a0 : Nat) (K : Int32 → HP → Option (Int32 × HP)) (F : Int32 → Int32 → HP → Option (Int32 × HP)) (b1 : Int32) (b2 : Int32) (h : HP) : Option (Int32 × HP) :=
  (gI 0 0 a0 h).bind fun x6 =>
  if x6 ≤ b2 then
    K b1 h
  else
    ob (inv 0 a0 h (f_X0_repertoire a0 b2 h)) fun x15 h15 =>
    F (b1 ||| x15) (b2 + 1) h15
def lp_X0_knownSongs_4 (a0 : Nat) (K : Int32 → HP → Option (Int32 × HP)) : Nat → Int32 → Int32 → HP → Option (Int32 × HP)
  | 0 => fun _ _ _ => none
  | k + 1 => lb_X0_knownSongs_4 a0 K (lp_X0_knownSongs_4 a0 K k)
def f_X0_knownSongs (t : Nat) (h : HP) : Option (Int32 × HP) :=
  lp_X0_knownSongs_4 t (fun b1_4 h4_ =>
    some (b1_4, h4_))
    1000 0 0 h
def lb_X0_songsOfState_4 (a0 : Nat) (a1 : Int32) (K : Int32 → HP → Option (Int32 × HP)) (F : Int32 → Int32 → HP → Option (Int32 × HP)) (b2 : Int32) (b3 : Int32) (h : HP) : Option (Int32 × HP) :=
  (gI 0 1 a0 h).bind fun x6 =>
  if x6 ≤ b3 then
    K b2 h
  else
    (gR 0 13 a0 h).bind fun x13 =>
    (lI x13 b3 h).bind fun x17 =>
    if x17 = a1 then
      F (b2 ||| (1 <<< (b3 &&& 31))) (b3 + 1) h
    else
      F b2 (b3 + 1) h
def lp_X0_songsOfState_4 (a0 : Nat) (a1 : Int32) (K : Int32 → HP → Option (Int32 × HP)) : Nat → Int32 → Int32 → HP → Option (Int32 × HP)
  | 0 => fun _ _ _ => none
  | k + 1 => lb_X0_songsOfState_4 a0 a1 K (lp_X0_songsOfState_4 a0 a1 K k)
def f_X0_songsOfState (t : Nat) (a1 : Int32) (h : HP) : Option (Int32 × HP) :=
  lp_X0_songsOfState_4 t a1 (fun b2_4 h4_ =>
    some (b2_4, h4_))
    1000 0 0 h
def lb_X0_peopleWithNone_4 (a0 : Nat) (K : Int32 → HP → Option (Int32 × HP)) (F : Int32 → Int32 → HP → Option (Int32 × HP)) (b1 : Int32) (b2 : Int32) (h : HP) : Option (Int32 × HP) :=
  (gI 0 0 a0 h).bind fun x6 =>
  if x6 ≤ b2 then
    K b1 h
  else
    ob (inv 0 a0 h (f_X0_repertoire a0 b2 h)) fun x14 h14 =>
    if x14 = 0 then
      F (b1 ||| (1 <<< (b2 &&& 31))) (b2 + 1) h14
    else
      F b1 (b2 + 1) h14
def lp_X0_peopleWithNone_4 (a0 : Nat) (K : Int32 → HP → Option (Int32 × HP)) : Nat → Int32 → Int32 → HP → Option (Int32 × HP)
  | 0 => fun _ _ _ => none
  | k + 1 => lb_X0_peopleWithNone_4 a0 K (lp_X0_peopleWithNone_4 a0 K k)
def f_X0_peopleWithNone (t : Nat) (h : HP) : Option (Int32 × HP) :=
  lp_X0_peopleWithNone_4 t (fun b1_4 h4_ =>
    some (b1_4, h4_))
    1000 0 0 h
def lb_X0_peopleWithAll_4 (a0 : Nat) (a1 : Int32) (K : Int32 → HP → Option (Int32 × HP)) (F : Int32 → Int32 → HP → Option (Int32 × HP)) (b2 : Int32) (b3 : Int32) (h : HP) : Option (Int32 × HP) :=
  (gI 0 0 a0 h).bind fun x6 =>
  if x6 ≤ b3 then
    K b2 h
  else
    ob (inv 0 a0 h (f_X0_repertoire a0 b3 h)) fun x14 h14 =>
    if (x14 &&& a1) = a1 then
      F (b2 ||| (1 <<< (b3 &&& 31))) (b3 + 1) h14
    else
      F b2 (b3 + 1) h14
def lp_X0_peopleWithAll_4 (a0 : Nat) (a1 : Int32) (K : Int32 → HP → Option (Int32 × HP)) : Nat → Int32 → Int32 → HP → Option (Int32 × HP)
  | 0 => fun _ _ _ => none
  | k + 1 => lb_X0_peopleWithAll_4 a0 a1 K (lp_X0_peopleWithAll_4 a0 a1 K k)
def f_X0_peopleWithAll (t : Nat) (a1 : Int32) (h : HP) : Option (Int32 × HP) :=
  lp_X0_peopleWithAll_4 t a1 (fun b2_4 h4_ =>
    some (b2_4, h4_))
    1000 0 0 h
def f_J6_bitCount_0f7a4 (a0 : Int32) (h : HP) : Option (Int32 × HP) :=
  some ((((((((a0 - (((a0.toUInt32 >>> ((1 : Int32).toUInt32 &&& Int32.toUInt32 31)).toInt32) &&& 1431655765)) &&& 858993459) + ((((a0 - (((a0.toUInt32 >>> ((1 : Int32).toUInt32 &&& Int32.toUInt32 31)).toInt32) &&& 1431655765)).toUInt32 >>> ((2 : Int32).toUInt32 &&& Int32.toUInt32 31)).toInt32) &&& 858993459)) + (((((a0 - (((a0.toUInt32 >>> ((1 : Int32).toUInt32 &&& Int32.toUInt32 31)).toInt32) &&& 1431655765)) &&& 858993459) + ((((a0 - (((a0.toUInt32 >>> ((1 : Int32).toUInt32 &&& Int32.toUInt32 31)).toInt32) &&& 1431655765)).toUInt32 >>> ((2 : Int32).toUInt32 &&& Int32.toUInt32 31)).toInt32) &&& 858993459)).toUInt32 >>> ((4 : Int32).toUInt32 &&& Int32.toUInt32 31)).toInt32)) &&& 252645135) + (((((((a0 - (((a0.toUInt32 >>> ((1 : Int32).toUInt32 &&& Int32.toUInt32 31)).toInt32) &&& 1431655765)) &&& 858993459) + ((((a0 - (((a0.toUInt32 >>> ((1 : Int32).toUInt32 &&& Int32.toUInt32 31)).toInt32) &&& 1431655765)).toUInt32 >>> ((2 : Int32).toUInt32 &&& Int32.toUInt32 31)).toInt32) &&& 858993459)) + (((((a0 - (((a0.toUInt32 >>> ((1 : Int32).toUInt32 &&& Int32.toUInt32 31)).toInt32) &&& 1431655765)) &&& 858993459) + ((((a0 - (((a0.toUInt32 >>> ((1 : Int32).toUInt32 &&& Int32.toUInt32 31)).toInt32) &&& 1431655765)).toUInt32 >>> ((2 : Int32).toUInt32 &&& Int32.toUInt32 31)).toInt32) &&& 858993459)).toUInt32 >>> ((4 : Int32).toUInt32 &&& Int32.toUInt32 31)).toInt32)) &&& 252645135).toUInt32 >>> ((8 : Int32).toUInt32 &&& Int32.toUInt32 31)).toInt32)) + ((((((((a0 - (((a0.toUInt32 >>> ((1 : Int32).toUInt32 &&& Int32.toUInt32 31)).toInt32) &&& 1431655765)) &&& 858993459) + ((((a0 - (((a0.toUInt32 >>> ((1 : Int32).toUInt32 &&& Int32.toUInt32 31)).toInt32) &&& 1431655765)).toUInt32 >>> ((2 : Int32).toUInt32 &&& Int32.toUInt32 31)).toInt32) &&& 858993459)) + (((((a0 - (((a0.toUInt32 >>> ((1 : Int32).toUInt32 &&& Int32.toUInt32 31)).toInt32) &&& 1431655765)) &&& 858993459) + ((((a0 - (((a0.toUInt32 >>> ((1 : Int32).toUInt32 &&& Int32.toUInt32 31)).toInt32) &&& 1431655765)).toUInt32 >>> ((2 : Int32).toUInt32 &&& Int32.toUInt32 31)).toInt32) &&& 858993459)).toUInt32 >>> ((4 : Int32).toUInt32 &&& Int32.toUInt32 31)).toInt32)) &&& 252645135) + (((((((a0 - (((a0.toUInt32 >>> ((1 : Int32).toUInt32 &&& Int32.toUInt32 31)).toInt32) &&& 1431655765)) &&& 858993459) + ((((a0 - (((a0.toUInt32 >>> ((1 : Int32).toUInt32 &&& Int32.toUInt32 31)).toInt32) &&& 1431655765)).toUInt32 >>> ((2 : Int32).toUInt32 &&& Int32.toUInt32 31)).toInt32) &&& 858993459)) + (((((a0 - (((a0.toUInt32 >>> ((1 : Int32).toUInt32 &&& Int32.toUInt32 31)).toInt32) &&& 1431655765)) &&& 858993459) + ((((a0 - (((a0.toUInt32 >>> ((1 : Int32).toUInt32 &&& Int32.toUInt32 31)).toInt32) &&& 1431655765)).toUInt32 >>> ((2 : Int32).toUInt32 &&& Int32.toUInt32 31)).toInt32) &&& 858993459)).toUInt32 >>> ((4 : Int32).toUInt32 &&& Int32.toUInt32 31)).toInt32)) &&& 252645135).toUInt32 >>> ((8 : Int32).toUInt32 &&& Int32.toUInt32 31)).toInt32)).toUInt32 >>> ((16 : Int32).toUInt32 &&& Int32.toUInt32 31)).toInt32)) &&& 63, h)
def lb_X0_mostHeld_6 (a0 : Nat) (K : Int32 → HP → Option (Int32 × HP)) (F : Int32 → Int32 → Int32 → HP → Option (Int32 × HP)) (b1 : Int32) (b2 : Int32) (b3 : Int32) (h : HP) : Option (Int32 × HP) :=
  (gI 0 1 a0 h).bind fun x8 =>
  if x8 ≤ b3 then
    K b1 h
  else
    ob (inv 0 a0 h (f_X0_havers a0 b3 h)) fun x16 h16 =>
    ob (f_J6_bitCount_0f7a4 x16 h16) fun x19 h19 =>
    if x19 ≤ b2 then
      F b1 b2 (b3 + 1) h19
    else
      F b3 x19 (b3 + 1) h19
def lp_X0_mostHeld_6 (a0 : Nat) (K : Int32 → HP → Option (Int32 × HP)) : Nat → Int32 → Int32 → Int32 → HP → Option (Int32 × HP)
  | 0 => fun _ _ _ _ => none
  | k + 1 => lb_X0_mostHeld_6 a0 K (lp_X0_mostHeld_6 a0 K k)
def f_X0_mostHeld (t : Nat) (h : HP) : Option (Int32 × HP) :=
  lp_X0_mostHeld_6 t (fun b1_6 h6_ =>
    some (b1_6, h6_))
    1000 (-1) (-1) 0 h
def lb_X0_leastHeld_7 (a0 : Nat) (K : Int32 → HP → Option (Int32 × HP)) (F : Int32 → Int32 → Int32 → HP → Option (Int32 × HP)) (b1 : Int32) (b2 : Int32) (b3 : Int32) (h : HP) : Option (Int32 × HP) :=
  (gI 0 1 a0 h).bind fun x9 =>
  if x9 ≤ b3 then
    K b1 h
  else
    ob (inv 0 a0 h (f_X0_havers a0 b3 h)) fun x17 h17 =>
    ob (f_J6_bitCount_0f7a4 x17 h17) fun x20 h20 =>
    if b2 ≤ x20 then
      F b1 b2 (b3 + 1) h20
    else
      F b3 x20 (b3 + 1) h20
def lp_X0_leastHeld_7 (a0 : Nat) (K : Int32 → HP → Option (Int32 × HP)) : Nat → Int32 → Int32 → Int32 → HP → Option (Int32 × HP)
  | 0 => fun _ _ _ _ => none
  | k + 1 => lb_X0_leastHeld_7 a0 K (lp_X0_leastHeld_7 a0 K k)
def f_X0_leastHeld (t : Nat) (h : HP) : Option (Int32 × HP) :=
  lp_X0_leastHeld_7 t (fun b1_7 h7_ =>
    some (b1_7, h7_))
    1000 (-1) 9 0 h
def lb_X0_tableOf_17 (a0 : Nat) (a3 : Int32) (K : Int32 → HP → Option (Int32 × HP)) (F : Int32 → Int32 → HP → Option (Int32 × HP)) (b2 : Int32) (b4 : Int32) (h : HP) : Option (Int32 × HP) :=
  (gI 0 0 a0 h).bind fun x20 =>
  if x20 ≤ b4 then
    K b2 h
  else
    if ((b2 >>> (b4 &&& 31)) &&& 1) = 1 then
      (gR 0 10 a0 h).bind fun x38 =>
      (lI x38 b4 h).bind fun x43 =>
      F (b2 ||| x43) (b4 + 1) h
    else
      F b2 (b4 + 1) h
def lp_X0_tableOf_17 (a0 : Nat) (a3 : Int32) (K : Int32 → HP → Option (Int32 × HP)) : Nat → Int32 → Int32 → HP → Option (Int32 × HP)
  | 0 => fun _ _ _ => none
  | k + 1 => lb_X0_tableOf_17 a0 a3 K (lp_X0_tableOf_17 a0 a3 K k)
def lb_X0_tableOf_6 (a0 : Nat) (K : Int32 → HP → Option (Int32 × HP)) (F : Int32 → Int32 → HP → Option (Int32 × HP)) (b2 : Int32) (b3 : Int32) (h : HP) : Option (Int32 × HP) :=
  (gI 0 0 a0 h).bind fun x8 =>
  if x8 ≤ b3 then
    K b2 h
  else
    lp_X0_tableOf_17 a0 b3 (fun b2_17 h17_ =>
      F b2_17 (b3 + 1) h17_)
      1000 b2 0 h
def lp_X0_tableOf_6 (a0 : Nat) (K : Int32 → HP → Option (Int32 × HP)) : Nat → Int32 → Int32 → HP → Option (Int32 × HP)
  | 0 => fun _ _ _ => none
  | k + 1 => lb_X0_tableOf_6 a0 K (lp_X0_tableOf_6 a0 K k)
def f_X0_tableOf (t : Nat) (a1 : Int32) (h : HP) : Option (Int32 × HP) :=
  lp_X0_tableOf_6 t (fun b2_6 h6_ =>
    some (b2_6, h6_))
    1000 (1 <<< (a1 &&& 31)) 0 h
def lb_X0_weakestOn_7 (a0 : Nat) (a1 : Int32) (K : Int32 → HP → Option (Int32 × HP)) (F : Int32 → Int32 → Int32 → HP → Option (Int32 × HP)) (b2 : Int32) (b3 : Int32) (b4 : Int32) (h : HP) : Option (Int32 × HP) :=
  (gI 0 0 a0 h).bind fun x10 =>
  if x10 ≤ b4 then
    K b2 h
  else
    ob (inv 0 a0 h (f_X0_heldFor a0 b4 a1 h)) fun x20 h20 =>
    (gR 0 11 a0 h20).bind fun x29 =>
    (lI x29 a1 h20).bind fun x33 =>
    ob (inv 0 a0 h20 (f_X0_holdOn a0 b4 x33 h20)) fun x34 h34 =>
    if x20 = (-1) then
      F b2 b3 (b4 + 1) h34
    else
      if b2 = (-1) then
        F b4 (x34 - x20) (b4 + 1) h34
      else
        if b3 ≤ (x34 - x20) then
          F b2 b3 (b4 + 1) h34
        else
          F b4 (x34 - x20) (b4 + 1) h34
def lp_X0_weakestOn_7 (a0 : Nat) (a1 : Int32) (K : Int32 → HP → Option (Int32 × HP)) : Nat → Int32 → Int32 → Int32 → HP → Option (Int32 × HP)
  | 0 => fun _ _ _ _ => none
  | k + 1 => lb_X0_weakestOn_7 a0 a1 K (lp_X0_weakestOn_7 a0 a1 K k)
def f_X0_weakestOn (t : Nat) (a1 : Int32) (h : HP) : Option (Int32 × HP) :=
  lp_X0_weakestOn_7 t a1 (fun b2_7 h7_ =>
    some (b2_7, h7_))
    1000 (-1) 0 0 h
def lb_X0_countKind_4 (a0 : Nat) (a1 : Int32) (K : Int32 → HP → Option (Int32 × HP)) (F : Int32 → Int32 → HP → Option (Int32 × HP)) (b2 : Int32) (b3 : Int32) (h : HP) : Option (Int32 × HP) :=
  (gI 0 0 a0 h).bind fun x6 =>
  if x6 ≤ b3 then
    K b2 h
  else
    (gR 0 6 a0 h).bind fun x13 =>
    (lI x13 b3 h).bind fun x17 =>
    if x17 = a1 then
      F (b2 + 1) (b3 + 1) h
    else
      F b2 (b3 + 1) h
def lp_X0_countKind_4 (a0 : Nat) (a1 : Int32) (K : Int32 → HP → Option (Int32 × HP)) : Nat → Int32 → Int32 → HP → Option (Int32 × HP)
  | 0 => fun _ _ _ => none
  | k + 1 => lb_X0_countKind_4 a0 a1 K (lp_X0_countKind_4 a0 a1 K k)
def f_X0_countKind (t : Nat) (a1 : Int32) (h : HP) : Option (Int32 × HP) :=
  lp_X0_countKind_4 t a1 (fun b2_4 h4_ =>
    some (b2_4, h4_))
    1000 0 0 h
def lb_X0_bestMemory_4 (a0 : Nat) (K : Int32 → HP → Option (Int32 × HP)) (F : Int32 → Int32 → HP → Option (Int32 × HP)) (b1 : Int32) (b2 : Int32) (h : HP) : Option (Int32 × HP) :=
  (gI 0 0 a0 h).bind fun x6 =>
  if x6 ≤ b2 then
    K b1 h
  else
    if b1 = (-1) then
      F b2 (b2 + 1) h
    else
      (gR 0 8 a0 h).bind fun x18 =>
      (lI x18 b2 h).bind fun x22 =>
      (gR 0 8 a0 h).bind fun x24 =>
      (lI x24 b1 h).bind fun x28 =>
      if x22 ≤ x28 then
        F b1 (b2 + 1) h
      else
        F b2 (b2 + 1) h
def lp_X0_bestMemory_4 (a0 : Nat) (K : Int32 → HP → Option (Int32 × HP)) : Nat → Int32 → Int32 → HP → Option (Int32 × HP)
  | 0 => fun _ _ _ => none
  | k + 1 => lb_X0_bestMemory_4 a0 K (lp_X0_bestMemory_4 a0 K k)
def f_X0_bestMemory (t : Nat) (h : HP) : Option (Int32 × HP) :=
  lp_X0_bestMemory_4 t (fun b1_4 h4_ =>
    some (b1_4, h4_))
    1000 (-1) 0 h
def f_J9_min_7cf53 (a0 : Int32) (a1 : Int32) (h : HP) : Option (Int32 × HP) :=
  if a1 < a0 then
    some (a1, h)
  else
    some (a0, h)
def f_X0_countYear (t : Nat) (h : HP) : Option (Unit × HP) :=
  (gI 0 3 t h).bind fun x5 =>
  ob (f_J9_min_7cf53 999 (x5 + 1) h) fun x10 h10 =>
  (pI 0 3 t x10 h10).bind fun h13 =>
  some ((), h13)
def lb_X0_forget_2 (a0 : Nat) (a1 : Int32) (K : HP → Option (Unit × HP)) (F : Int32 → HP → Option (Unit × HP)) (b2 : Int32) (h : HP) : Option (Unit × HP) :=
  (gI 0 0 a0 h).bind fun x4 =>
  if x4 ≤ b2 then
    K h
  else
    ob (inv 0 a0 h (f_X0_heldFor a0 b2 a1 h)) fun x13 h13 =>
    if x13 = (-1) then
      F (b2 + 1) h13
    else
      ob (f_J9_min_7cf53 99 (x13 + 1) h13) fun x27 h27 =>
      (gI 0 5 a0 h27).bind fun x33 =>
      if ((x33 >>> (b2 &&& 31)) &&& 1) = 1 then
        ob (inv 0 a0 h27 (f_X0_setHeld a0 b2 a1 x27 h27)) fun _ h81 =>
        F (b2 + 1) h81
      else
        (gR 0 11 a0 h27).bind fun x49 =>
        (lI x49 a1 h27).bind fun x53 =>
        ob (inv 0 a0 h27 (f_X0_holdOn a0 b2 x53 h27)) fun x54 h54 =>
        if x54 < x27 then
          ob (inv 0 a0 h54 (f_X0_setHeld a0 b2 a1 (-1) h54)) fun _ h81 =>
          F (b2 + 1) h81
        else
          ob (inv 0 a0 h54 (f_X0_setHeld a0 b2 a1 x27 h54)) fun _ h81 =>
          F (b2 + 1) h81
def lp_X0_forget_2 (a0 : Nat) (a1 : Int32) (K : HP → Option (Unit × HP)) : Nat → Int32 → HP → Option (Unit × HP)
  | 0 => fun _ _ => none
  | k + 1 => lb_X0_forget_2 a0 a1 K (lp_X0_forget_2 a0 a1 K k)
def f_X0_forget (t : Nat) (a1 : Int32) (h : HP) : Option (Unit × HP) :=
  lp_X0_forget_2 t a1 (fun h2_ =>
    some ((), h2_))
    1000 0 h
def lb_X0_pickUp_8 (a0 : Nat) (a1 : Int32) (a2 : Int32) (K : HP → Option (Unit × HP)) (F : Int32 → HP → Option (Unit × HP)) (b3 : Int32) (h : HP) : Option (Unit × HP) :=
  (gI 0 0 a0 h).bind fun x10 =>
  if x10 ≤ b3 then
    K h
  else
    if ((a2 >>> (b3 &&& 31)) &&& 1) = 0 then
      (gR 0 6 a0 h).bind fun x32 =>
      (lI x32 b3 h).bind fun x36 =>
      if x36 = 5 then
        (gR 0 10 a0 h).bind fun x47 =>
        (lI x47 b3 h).bind fun x51 =>
        if (x51 &&& a2) = 0 then
          F (b3 + 1) h
        else
          ob (inv 0 a0 h (f_X0_setHeld a0 b3 a1 0 h)) fun _ h61 =>
          F (b3 + 1) h61
      else
        F (b3 + 1) h
    else
      (gR 0 6 a0 h).bind fun x32 =>
      (lI x32 b3 h).bind fun x36 =>
      if x36 = 5 then
        F (b3 + 1) h
      else
        F (b3 + 1) h
def lp_X0_pickUp_8 (a0 : Nat) (a1 : Int32) (a2 : Int32) (K : HP → Option (Unit × HP)) : Nat → Int32 → HP → Option (Unit × HP)
  | 0 => fun _ _ => none
  | k + 1 => lb_X0_pickUp_8 a0 a1 a2 K (lp_X0_pickUp_8 a0 a1 a2 K k)
def f_X0_pickUp (t : Nat) (a1 : Int32) (h : HP) : Option (Unit × HP) :=
  ob (inv 0 t h (f_X0_havers t a1 h)) fun x2 h2 =>
  lp_X0_pickUp_8 t a1 x2 (fun h8_ =>
    some ((), h8_))
    1000 0 h2
def f_X0_callUp (t : Nat) (a1 : Int32) (h : HP) : Option (Int32 × HP) :=
  (gR 0 13 t h).bind fun x1 =>
  (lI x1 a1 h).bind fun x5 =>
  if x5 = 1 then
    (gR 0 12 t h).bind fun x11 =>
    (lI x11 a1 h).bind fun x15 =>
    (gI 0 3 t h).bind fun x17 =>
    (dz 5).bind fun _ =>
    if x15 = (x17 - x17 / 5 * 5) then
      ob (inv 0 t h (f_X0_bestMemory t h)) fun x28 h28 =>
      if x28 = (-1) then
        rZ 0 h28
      else
        ob (inv 0 t h28 (f_X0_setHeld t x28 a1 0 h28)) fun _ h43 =>
        (gR 0 13 t h43).bind fun x47 =>
        (sI x47 a1 2 h43).bind fun h52 =>
        rZ 1 h52
    else
      rZ 0 h
  else
    rZ 0 h
def f_X0_passSong (t : Nat) (a1 : Int32) (h : HP) : Option (Int32 × HP) :=
  ob (inv 0 t h (f_X0_forget t a1 h)) fun _ h2 =>
  ob (inv 0 t h2 (f_X0_pickUp t a1 h2)) fun _ h7 =>
  ob (inv 0 t h7 (f_X0_callUp t a1 h7)) fun x12 h12 =>
  (gR 0 13 t h12).bind fun x17 =>
  (lI x17 a1 h12).bind fun x21 =>
  if x21 = 0 then
    ob (inv 0 t h12 (f_X0_havers t a1 h12)) fun x27 h27 =>
    if x27 = 0 then
      (gR 0 13 t h27).bind fun x34 =>
      (sI x34 a1 1 h27).bind fun h39 =>
      rZ x12 h39
    else
      rZ x12 h27
  else
    rZ x12 h12
def lb_X0_passYear_8 (a0 : Nat) (K : Int32 → HP → Option (Int32 × HP)) (F : Int32 → Int32 → HP → Option (Int32 × HP)) (b1 : Int32) (b2 : Int32) (h : HP) : Option (Int32 × HP) :=
  (gI 0 1 a0 h).bind fun x10 =>
  if x10 ≤ b2 then
    K b1 h
  else
    ob (inv 0 a0 h (f_X0_passSong a0 b2 h)) fun x18 h18 =>
    if x18 = 0 then
      F b1 (b2 + 1) h18
    else
      F (b1 + 1) (b2 + 1) h18
def lp_X0_passYear_8 (a0 : Nat) (K : Int32 → HP → Option (Int32 × HP)) : Nat → Int32 → Int32 → HP → Option (Int32 × HP)
  | 0 => fun _ _ _ => none
  | k + 1 => lb_X0_passYear_8 a0 K (lp_X0_passYear_8 a0 K k)
def f_X0_passYear (t : Nat) (h : HP) : Option (Int32 × HP) :=
  ob (inv 0 t h (f_X0_countYear t h)) fun _ h1 =>
  lp_X0_passYear_8 t (fun b1_8 h8_ =>
    some (b1_8, h8_))
    1000 0 0 h1
def f_X0_passYearOf (t : Nat) (a1 : Int32) (h : HP) : Option (Unit × HP) :=
  ob (inv 0 t h (f_X0_countYear t h)) fun _ h1 =>
  ob (inv 0 t h1 (f_X0_passSong t a1 h1)) fun x6 h6 =>
  some ((), h6)
def f_X0_draw (t : Nat) (a1 : Int32) (h : HP) : Option (Int32 × HP) :=
  (gI 0 4 t h).bind fun x2 =>
  (pI 0 4 t ((x2 * 1103515245) + 12345) h).bind fun h12 =>
  if 0 < a1 then
    (gI 0 4 t h12).bind fun x24 =>
    (dz a1).bind fun _ =>
    some (((x24.toUInt32 >>> ((16 : Int32).toUInt32 &&& Int32.toUInt32 31)).toInt32) - ((x24.toUInt32 >>> ((16 : Int32).toUInt32 &&& Int32.toUInt32 31)).toInt32) / a1 * a1, h12)
  else
    some (0, h12)
def f_X0_passDrawnYear (t : Nat) (h : HP) : Option (Int32 × HP) :=
  ob (inv 0 t h (f_X0_draw t 10 h)) fun x4 h4 =>
  (pI 0 2 t x4 h4).bind fun h7 =>
  (gI 0 0 t h7).bind fun x12 =>
  ob (inv 0 t h7 (f_X0_draw t x12 h7)) fun x15 h15 =>
  (gR 0 9 t h15).bind fun x20 =>
  ob (inv 0 t h15 (f_X0_draw t 10 h15)) fun x27 h27 =>
  (sI x20 x15 x27 h27).bind fun h30 =>
  ob (inv 0 t h30 (f_X0_passYear t h30)) fun x32 h32 =>
  some (x32, h32)
def f_X1_init (t : Nat) (h : HP) : Option (Unit × HP) :=
  ob (mkO 0 h) fun x5 h5 =>
  ob (f_X0_init x5 h5) fun _ h9 =>
  (pR 1 0 t x5 h9).bind fun h12 =>
  ob (mkA 7 6 h12) fun x18 h18 =>
  (pR 1 1 t x18 h18).bind fun h20 =>
  some ((), h20)
def lb_X1_after_10 (a0 : Nat) (a2 : Int32) (K : HP → Option (Nat × HP)) (F : Int32 → HP → Option (Nat × HP)) (b3 : Int32) (h : HP) : Option (Nat × HP) :=
  if a2 ≤ b3 then
    K h
  else
    (gR 1 0 a0 h).bind fun x16 =>
    ob (inv 0 x16 h (f_X0_passYear x16 h)) fun x19 h19 =>
    F (b3 + 1) h19
def lp_X1_after_10 (a0 : Nat) (a2 : Int32) (K : HP → Option (Nat × HP)) : Nat → Int32 → HP → Option (Nat × HP)
  | 0 => fun _ _ => none
  | k + 1 => lb_X1_after_10 a0 a2 K (lp_X1_after_10 a0 a2 K k)
def f_X1_after (t : Nat) (a1 : Nat) (a2 : Int32) (h : HP) : Option (Nat × HP) :=
  (gR 1 0 t h).bind fun x1 =>
  ob (inv 0 x1 h (f_X0_become x1 a1 h)) fun _ h5 =>
  lp_X1_after_10 t a2 (fun h10_ =>
    (gR 1 0 t h10_).bind fun x30 =>
    some (x30, h10_))
    1000 0 h5
def lb_X1_lossFromThen_2 (a0 : Nat) (a1 : Int32) (a2 : Int32) (K : HP → Option (Int32 × HP)) (F : Int32 → HP → Option (Int32 × HP)) (b3 : Int32) (h : HP) : Option (Int32 × HP) :=
  if a2 < b3 then
    K h
  else
    (gR 1 0 a0 h).bind fun x8 =>
    (gR 0 13 x8 h).bind fun x11 =>
    (lI x11 a1 h).bind fun x15 =>
    if x15 = 0 then
      (gR 1 0 a0 h).bind fun x22 =>
      ob (inv 0 x22 h (f_X0_passYearOf x22 a1 h)) fun _ h26 =>
      F (b3 + 1) h26
    else
      some (b3, h)
def lp_X1_lossFromThen_2 (a0 : Nat) (a1 : Int32) (a2 : Int32) (K : HP → Option (Int32 × HP)) : Nat → Int32 → HP → Option (Int32 × HP)
  | 0 => fun _ _ => none
  | k + 1 => lb_X1_lossFromThen_2 a0 a1 a2 K (lp_X1_lossFromThen_2 a0 a1 a2 K k)
def f_X1_lossFromThen (t : Nat) (a1 : Int32) (a2 : Int32) (h : HP) : Option (Int32 × HP) :=
  lp_X1_lossFromThen_2 t a1 a2 (fun h2_ =>
    some (61, h2_))
    1000 0 h
def f_X1_lossIn (t : Nat) (a1 : Nat) (a2 : Int32) (h : HP) : Option (Int32 × HP) :=
  (gR 1 0 t h).bind fun x1 =>
  ob (inv 0 x1 h (f_X0_become x1 a1 h)) fun _ h5 =>
  ob (inv 1 t h5 (f_X1_lossFromThen t a2 60 h5)) fun x12 h12 =>
  some (x12, h12)
def lb_X1_findIn_10 (a0 : Nat) (a2 : Int32) (K : HP → Option (Int32 × HP)) (F : Int32 → HP → Option (Int32 × HP)) (b3 : Int32) (h : HP) : Option (Int32 × HP) :=
  if 60 < b3 then
    K h
  else
    (gR 1 0 a0 h).bind fun x17 =>
    (gR 0 13 x17 h).bind fun x20 =>
    (lI x20 a2 h).bind fun x24 =>
    if x24 = 2 then
      some (b3, h)
    else
      (gR 1 0 a0 h).bind fun x32 =>
      ob (inv 0 x32 h (f_X0_passYearOf x32 a2 h)) fun _ h36 =>
      F (b3 + 1) h36
def lp_X1_findIn_10 (a0 : Nat) (a2 : Int32) (K : HP → Option (Int32 × HP)) : Nat → Int32 → HP → Option (Int32 × HP)
  | 0 => fun _ _ => none
  | k + 1 => lb_X1_findIn_10 a0 a2 K (lp_X1_findIn_10 a0 a2 K k)
def f_X1_findIn (t : Nat) (a1 : Nat) (a2 : Int32) (h : HP) : Option (Int32 × HP) :=
  (gR 1 0 t h).bind fun x1 =>
  ob (inv 0 x1 h (f_X0_become x1 a1 h)) fun _ h5 =>
  lp_X1_findIn_10 t a2 (fun h10_ =>
    some (61, h10_))
    1000 0 h5
def lb_X1_forgetIn_11 (a0 : Nat) (a2 : Int32) (a3 : Int32) (K : HP → Option (Int32 × HP)) (F : Int32 → HP → Option (Int32 × HP)) (b4 : Int32) (h : HP) : Option (Int32 × HP) :=
  if 60 < b4 then
    K h
  else
    (gR 1 0 a0 h).bind fun x19 =>
    ob (inv 0 x19 h (f_X0_heldFor x19 a2 a3 h)) fun x24 h24 =>
    if x24 = (-1) then
      some (b4, h24)
    else
      (gR 1 0 a0 h24).bind fun x35 =>
      ob (inv 0 x35 h24 (f_X0_passYearOf x35 a3 h24)) fun _ h39 =>
      F (b4 + 1) h39
def lp_X1_forgetIn_11 (a0 : Nat) (a2 : Int32) (a3 : Int32) (K : HP → Option (Int32 × HP)) : Nat → Int32 → HP → Option (Int32 × HP)
  | 0 => fun _ _ => none
  | k + 1 => lb_X1_forgetIn_11 a0 a2 a3 K (lp_X1_forgetIn_11 a0 a2 a3 K k)
def f_X1_forgetIn (t : Nat) (a1 : Nat) (a2 : Int32) (a3 : Int32) (h : HP) : Option (Int32 × HP) :=
  (gR 1 0 t h).bind fun x1 =>
  ob (inv 0 x1 h (f_X0_become x1 a1 h)) fun _ h5 =>
  lp_X1_forgetIn_11 t a2 a3 (fun h11_ =>
    some (61, h11_))
    1000 0 h5
def lb_X1_lastHavers_21 (a0 : Nat) (a2 : Int32) (K : HP → Option (Int32 × HP)) (F : Int32 → HP → Option (Int32 × HP)) (b3 : Int32) (h : HP) : Option (Int32 × HP) :=
  if 60 < b3 then
    K h
  else
    (gR 1 0 a0 h).bind fun x28 =>
    ob (inv 0 x28 h (f_X0_havers x28 a2 h)) fun x32 h32 =>
    (gR 1 0 a0 h32).bind fun x38 =>
    ob (inv 0 x38 h32 (f_X0_passYearOf x38 a2 h32)) fun _ h42 =>
    (gR 1 0 a0 h42).bind fun x46 =>
    (gR 0 13 x46 h42).bind fun x49 =>
    (lI x49 a2 h42).bind fun x53 =>
    if x53 = 0 then
      F (b3 + 1) h42
    else
      some (x32, h42)
def lp_X1_lastHavers_21 (a0 : Nat) (a2 : Int32) (K : HP → Option (Int32 × HP)) : Nat → Int32 → HP → Option (Int32 × HP)
  | 0 => fun _ _ => none
  | k + 1 => lb_X1_lastHavers_21 a0 a2 K (lp_X1_lastHavers_21 a0 a2 K k)
def f_X1_lastHavers (t : Nat) (a1 : Nat) (a2 : Int32) (h : HP) : Option (Int32 × HP) :=
  (gR 0 13 a1 h).bind fun x1 =>
  (lI x1 a2 h).bind fun x5 =>
  if x5 = 0 then
    (gR 1 0 t h).bind fun x12 =>
    ob (inv 0 x12 h (f_X0_become x12 a1 h)) fun _ h16 =>
    lp_X1_lastHavers_21 t a2 (fun h21_ =>
      some ((-1), h21_))
      1000 1 h16
  else
    some ((-1), h)
def lb_X1_neededAtTable_9 (a0 : Nat) (a1 : Nat) (a2 : Int32) (K : Int32 → HP → Option (Int32 × HP)) (F : Int32 → Int32 → Int32 → HP → Option (Int32 × HP)) (b3 : Int32) (b4 : Int32) (b5 : Int32) (h : HP) : Option (Int32 × HP) :=
  (gI 0 0 a1 h).bind fun x12 =>
  if x12 ≤ b5 then
    K b3 h
  else
    (gR 1 0 a0 h).bind fun x19 =>
    ob (inv 0 x19 h (f_X0_become x19 a1 h)) fun _ h23 =>
    (gR 1 0 a0 h23).bind fun x27 =>
    ob (inv 0 x27 h23 (f_X0_leaveTable x27 b5 h23)) fun _ h32 =>
    ob (inv 1 a0 h32 (f_X1_lossFromThen a0 a2 (b4 - 1) h32)) fun x41 h41 =>
    if b4 ≤ x41 then
      F b3 b4 (b5 + 1) h41
    else
      F b5 x41 (b5 + 1) h41
def lp_X1_neededAtTable_9 (a0 : Nat) (a1 : Nat) (a2 : Int32) (K : Int32 → HP → Option (Int32 × HP)) : Nat → Int32 → Int32 → Int32 → HP → Option (Int32 × HP)
  | 0 => fun _ _ _ _ => none
  | k + 1 => lb_X1_neededAtTable_9 a0 a1 a2 K (lp_X1_neededAtTable_9 a0 a1 a2 K k)
def f_X1_neededAtTable (t : Nat) (a1 : Nat) (a2 : Int32) (h : HP) : Option (Int32 × HP) :=
  lp_X1_neededAtTable_9 t a1 a2 (fun b3_9 h9_ =>
    some (b3_9, h9_))
    1000 (-1) 61 0 h
def lb_X1_leastWork_3 (a0 : Nat) (a1 : Nat) (a2 : Int32) (a3 : Int32) (K : HP → Option (Int32 × HP)) (F : Int32 → HP → Option (Int32 × HP)) (b4 : Int32) (h : HP) : Option (Int32 × HP) :=
  if 10 ≤ b4 then
    K h
  else
    (gR 1 0 a0 h).bind fun x11 =>
    ob (inv 0 x11 h (f_X0_become x11 a1 h)) fun _ h15 =>
    (gR 1 0 a0 h15).bind fun x19 =>
    (pI 0 2 x19 b4 h15).bind fun h24 =>
    ob (inv 1 a0 h24 (f_X1_lossFromThen a0 a2 a3 h24)) fun x30 h30 =>
    if x30 = 61 then
      F (b4 + 1) h30
    else
      some (b4, h30)
def lp_X1_leastWork_3 (a0 : Nat) (a1 : Nat) (a2 : Int32) (a3 : Int32) (K : HP → Option (Int32 × HP)) : Nat → Int32 → HP → Option (Int32 × HP)
  | 0 => fun _ _ => none
  | k + 1 => lb_X1_leastWork_3 a0 a1 a2 a3 K (lp_X1_leastWork_3 a0 a1 a2 a3 K k)
def f_X1_leastWork (t : Nat) (a1 : Nat) (a2 : Int32) (a3 : Int32) (h : HP) : Option (Int32 × HP) :=
  lp_X1_leastWork_3 t a1 a2 a3 (fun h3_ =>
    some ((-1), h3_))
    1000 0 h
def lb_X1_teachThen_2 (a0 : Nat) (a1 : Int32) (a2 : Int32) (K : HP → Option (Unit × HP)) (F : Int32 → HP → Option (Unit × HP)) (b3 : Int32) (h : HP) : Option (Unit × HP) :=
  (gR 1 0 a0 h).bind fun x4 =>
  (gI 0 0 x4 h).bind fun x7 =>
  if x7 ≤ b3 then
    K h
  else
    if ((a1 >>> (b3 &&& 31)) &&& 1) = 1 then
      (gR 1 0 a0 h).bind fun x23 =>
      ob (inv 0 x23 h (f_X0_setHeld x23 b3 a2 0 h)) fun _ h29 =>
      F (b3 + 1) h29
    else
      F (b3 + 1) h
def lp_X1_teachThen_2 (a0 : Nat) (a1 : Int32) (a2 : Int32) (K : HP → Option (Unit × HP)) : Nat → Int32 → HP → Option (Unit × HP)
  | 0 => fun _ _ => none
  | k + 1 => lb_X1_teachThen_2 a0 a1 a2 K (lp_X1_teachThen_2 a0 a1 a2 K k)
def f_X1_teachThen (t : Nat) (a1 : Int32) (a2 : Int32) (h : HP) : Option (Unit × HP) :=
  lp_X1_teachThen_2 t a1 a2 (fun h2_ =>
    some ((), h2_))
    1000 0 h
def lb_X1_worstPupils_17 (a0 : Nat) (a1 : Nat) (a2 : Int32) (a3 : Int32) (a4 : Int32) (K : Int32 → HP → Option (Int32 × HP)) (F : Int32 → Int32 → Int32 → HP → Option (Int32 × HP)) (b5 : Int32) (b6 : Int32) (b7 : Int32) (h : HP) : Option (Int32 × HP) :=
  (gI 0 0 a1 h).bind fun x21 =>
  if (1 <<< (x21 &&& 31)) ≤ b7 then
    K b5 h
  else
    if (b7 &&& a4) = 0 then
      ob (f_J6_bitCount_0f7a4 b7 h) fun x38 h38 =>
      if x38 = a3 then
        (gR 1 0 a0 h38).bind fun x46 =>
        ob (inv 0 x46 h38 (f_X0_become x46 a1 h38)) fun _ h50 =>
        ob (inv 1 a0 h50 (f_X1_teachThen a0 b7 a2 h50)) fun _ h57 =>
        ob (inv 1 a0 h57 (f_X1_lossFromThen a0 a2 (b6 - 1) h57)) fun x66 h66 =>
        if b6 ≤ x66 then
          F b5 b6 (b7 + 1) h66
        else
          F b7 x66 (b7 + 1) h66
      else
        F b5 b6 (b7 + 1) h38
    else
      F b5 b6 (b7 + 1) h
def lp_X1_worstPupils_17 (a0 : Nat) (a1 : Nat) (a2 : Int32) (a3 : Int32) (a4 : Int32) (K : Int32 → HP → Option (Int32 × HP)) : Nat → Int32 → Int32 → Int32 → HP → Option (Int32 × HP)
  | 0 => fun _ _ _ _ => none
  | k + 1 => lb_X1_worstPupils_17 a0 a1 a2 a3 a4 K (lp_X1_worstPupils_17 a0 a1 a2 a3 a4 K k)
def f_X1_worstPupils (t : Nat) (a1 : Nat) (a2 : Int32) (a3 : Int32) (h : HP) : Option (Int32 × HP) :=
  ob (inv 0 a1 h (f_X0_havers a1 a2 h)) fun x2 h2 =>
  lp_X1_worstPupils_17 t a1 a2 a3 x2 (fun b5_17 h17_ =>
    some (b5_17, h17_))
    1000 (-1) 61 0 h2
def lb_X1_bestHummer_8 (a0 : Nat) (a1 : Nat) (a2 : Int32) (K : Int32 → HP → Option (Int32 × HP)) (F : Int32 → Int32 → Int32 → HP → Option (Int32 × HP)) (b3 : Int32) (b4 : Int32) (b5 : Int32) (h : HP) : Option (Int32 × HP) :=
  (gI 0 0 a1 h).bind fun x11 =>
  if x11 ≤ b5 then
    K b3 h
  else
    ob (inv 0 a1 h (f_X0_heldFor a1 b5 a2 h)) fun x21 h21 =>
    if x21 = (-1) then
      F b3 b4 (b5 + 1) h21
    else
      (gR 1 0 a0 h21).bind fun x29 =>
      ob (inv 0 x29 h21 (f_X0_become x29 a1 h21)) fun _ h33 =>
      (gR 1 0 a0 h33).bind fun x37 =>
      ob (inv 0 x37 h33 (f_X0_setHums x37 b5 1 h33)) fun _ h43 =>
      ob (inv 1 a0 h43 (f_X1_lossFromThen a0 a2 60 h43)) fun x50 h50 =>
      if x50 ≤ b4 then
        F b3 b4 (b5 + 1) h50
      else
        F b5 x50 (b5 + 1) h50
def lp_X1_bestHummer_8 (a0 : Nat) (a1 : Nat) (a2 : Int32) (K : Int32 → HP → Option (Int32 × HP)) : Nat → Int32 → Int32 → Int32 → HP → Option (Int32 × HP)
  | 0 => fun _ _ _ _ => none
  | k + 1 => lb_X1_bestHummer_8 a0 a1 a2 K (lp_X1_bestHummer_8 a0 a1 a2 K k)
def f_X1_bestHummer (t : Nat) (a1 : Nat) (a2 : Int32) (h : HP) : Option (Int32 × HP) :=
  lp_X1_bestHummer_8 t a1 a2 (fun b3_8 h8_ =>
    some (b3_8, h8_))
    1000 (-1) (-1) 0 h
def lb_X1_nextLost_8 (a0 : Nat) (a1 : Nat) (K : Int32 → HP → Option (Int32 × HP)) (F : Int32 → Int32 → Int32 → HP → Option (Int32 × HP)) (b2 : Int32) (b3 : Int32) (b4 : Int32) (h : HP) : Option (Int32 × HP) :=
  (gI 0 1 a1 h).bind fun x11 =>
  if x11 ≤ b4 then
    K b2 h
  else
    (gR 0 13 a1 h).bind fun x18 =>
    (lI x18 b4 h).bind fun x23 =>
    if x23 = 0 then
      (gR 1 0 a0 h).bind fun x28 =>
      ob (inv 0 x28 h (f_X0_become x28 a1 h)) fun _ h32 =>
      ob (inv 1 a0 h32 (f_X1_lossFromThen a0 b4 (b3 - 1) h32)) fun x41 h41 =>
      if b3 ≤ x41 then
        F b2 b3 (b4 + 1) h41
      else
        F b4 x41 (b4 + 1) h41
    else
      F b2 b3 (b4 + 1) h
def lp_X1_nextLost_8 (a0 : Nat) (a1 : Nat) (K : Int32 → HP → Option (Int32 × HP)) : Nat → Int32 → Int32 → Int32 → HP → Option (Int32 × HP)
  | 0 => fun _ _ _ _ => none
  | k + 1 => lb_X1_nextLost_8 a0 a1 K (lp_X1_nextLost_8 a0 a1 K k)
def f_X1_nextLost (t : Nat) (a1 : Nat) (h : HP) : Option (Int32 × HP) :=
  lp_X1_nextLost_8 t a1 (fun b2_8 h8_ =>
    some (b2_8, h8_))
    1000 (-1) 61 0 h
def lb_X1_placeOf_5 (a0 : Nat) (a1 : Nat) (a2 : Int32) (K : Int32 → HP → Option (Int32 × HP)) (F : Int32 → Int32 → HP → Option (Int32 × HP)) (b3 : Int32) (b4 : Int32) (h : HP) : Option (Int32 × HP) :=
  (gI 0 1 a1 h).bind fun x8 =>
  if x8 ≤ b4 then
    K b3 h
  else
    (gR 1 1 a0 h).bind fun x15 =>
    (lI x15 b4 h).bind fun x20 =>
    (gR 1 1 a0 h).bind fun x22 =>
    (lI x22 a2 h).bind fun x26 =>
    if x20 = x26 then
      if a2 ≤ b4 then
        (gR 1 1 a0 h).bind fun x44 =>
        (lI x44 b4 h).bind fun x49 =>
        (gR 1 1 a0 h).bind fun x51 =>
        (lI x51 a2 h).bind fun x55 =>
        if x49 < x55 then
          F (b3 + 1) (b4 + 1) h
        else
          F b3 (b4 + 1) h
      else
        (gR 1 1 a0 h).bind fun x44 =>
        (lI x44 b4 h).bind fun x49 =>
        (gR 1 1 a0 h).bind fun x51 =>
        (lI x51 a2 h).bind fun x55 =>
        if x49 < x55 then
          F (b3 + 1) (b4 + 1) h
        else
          F (b3 + 1) (b4 + 1) h
    else
      (gR 1 1 a0 h).bind fun x44 =>
      (lI x44 b4 h).bind fun x49 =>
      (gR 1 1 a0 h).bind fun x51 =>
      (lI x51 a2 h).bind fun x55 =>
      if x49 < x55 then
        F (b3 + 1) (b4 + 1) h
      else
        F b3 (b4 + 1) h
def lp_X1_placeOf_5 (a0 : Nat) (a1 : Nat) (a2 : Int32) (K : Int32 → HP → Option (Int32 × HP)) : Nat → Int32 → Int32 → HP → Option (Int32 × HP)
  | 0 => fun _ _ _ => none
  | k + 1 => lb_X1_placeOf_5 a0 a1 a2 K (lp_X1_placeOf_5 a0 a1 a2 K k)
def f_X1_placeOf (t : Nat) (a1 : Nat) (a2 : Int32) (h : HP) : Option (Int32 × HP) :=
  lp_X1_placeOf_5 t a1 a2 (fun b3_5 h5_ =>
    some (b3_5, h5_))
    1000 0 0 h
def lb_X1_inOrder_2 (a0 : Nat) (a1 : Nat) (a2 : Int32) (K : HP → Option (Int32 × HP)) (F : Int32 → HP → Option (Int32 × HP)) (b3 : Int32) (h : HP) : Option (Int32 × HP) :=
  (gI 0 1 a1 h).bind fun x4 =>
  if x4 ≤ b3 then
    K h
  else
    (gR 1 0 a0 h).bind fun x11 =>
    ob (inv 0 x11 h (f_X0_become x11 a1 h)) fun _ h15 =>
    (gR 1 1 a0 h15).bind fun x19 =>
    ob (inv 1 a0 h15 (f_X1_lossFromThen a0 b3 60 h15)) fun x27 h27 =>
    (sI x19 b3 x27 h27).bind fun h30 =>
    F (b3 + 1) h30
def lp_X1_inOrder_2 (a0 : Nat) (a1 : Nat) (a2 : Int32) (K : HP → Option (Int32 × HP)) : Nat → Int32 → HP → Option (Int32 × HP)
  | 0 => fun _ _ => none
  | k + 1 => lb_X1_inOrder_2 a0 a1 a2 K (lp_X1_inOrder_2 a0 a1 a2 K k)
def lb_X1_inOrder_39 (a0 : Nat) (a1 : Nat) (a2 : Int32) (K : HP → Option (Int32 × HP)) (F : Int32 → HP → Option (Int32 × HP)) (b3 : Int32) (h : HP) : Option (Int32 × HP) :=
  (gI 0 1 a1 h).bind fun x41 =>
  if x41 ≤ b3 then
    K h
  else
    ob (inv 1 a0 h (f_X1_placeOf a0 a1 b3 h)) fun x50 h50 =>
    if x50 = a2 then
      some (b3, h50)
    else
      F (b3 + 1) h50
def lp_X1_inOrder_39 (a0 : Nat) (a1 : Nat) (a2 : Int32) (K : HP → Option (Int32 × HP)) : Nat → Int32 → HP → Option (Int32 × HP)
  | 0 => fun _ _ => none
  | k + 1 => lb_X1_inOrder_39 a0 a1 a2 K (lp_X1_inOrder_39 a0 a1 a2 K k)
def f_X1_inOrder (t : Nat) (a1 : Nat) (a2 : Int32) (h : HP) : Option (Int32 × HP) :=
  lp_X1_inOrder_2 t a1 a2 (fun h2_ =>
    lp_X1_inOrder_39 t a1 a2 (fun h39_ =>
      some ((-1), h39_))
      1000 0 h2_)
    1000 0 h
def lb_X1_comesAsTold_3 (a0 : Nat) (a1 : Nat) (a2 : Int32) (a3 : Int32) (K : HP → Option (Int32 × HP)) (F : Int32 → HP → Option (Int32 × HP)) (b4 : Int32) (h : HP) : Option (Int32 × HP) :=
  if a2 ≤ b4 then
    K h
  else
    (gR 1 0 a0 h).bind fun x10 =>
    ob (inv 0 x10 h (f_X0_passYear x10 h)) fun x13 h13 =>
    (gR 1 0 a0 h13).bind fun x18 =>
    ob (inv 0 x18 h13 (f_X0_repertoire x18 a3 h13)) fun x22 h22 =>
    (gR 3 2 a1 h22).bind fun x27 =>
    (lJ x27 b4 h22).bind fun x32 =>
    if (lg_cmp x22.toInt64 x32) = 0 then
      F (b4 + 1) h22
    else
      rZ 0 h22
def lp_X1_comesAsTold_3 (a0 : Nat) (a1 : Nat) (a2 : Int32) (a3 : Int32) (K : HP → Option (Int32 × HP)) : Nat → Int32 → HP → Option (Int32 × HP)
  | 0 => fun _ _ => none
  | k + 1 => lb_X1_comesAsTold_3 a0 a1 a2 a3 K (lp_X1_comesAsTold_3 a0 a1 a2 a3 K k)
def f_X1_comesAsTold (t : Nat) (a1 : Nat) (a2 : Int32) (a3 : Int32) (h : HP) : Option (Int32 × HP) :=
  lp_X1_comesAsTold_3 t a1 a2 a3 (fun h3_ =>
    rZ 1 h3_)
    1000 0 h
def lb_X1_memoriesBy_6 (a0 : Nat) (a1 : Nat) (a2 : Nat) (a3 : Int32) (a4 : Int32) (K : Int32 → HP → Option (Int32 × HP)) (F : Int32 → Int32 → HP → Option (Int32 × HP)) (b5 : Int32) (b6 : Int32) (h : HP) : Option (Int32 × HP) :=
  if 10 ≤ b6 then
    K b5 h
  else
    (gR 1 0 a0 h).bind fun x14 =>
    ob (inv 0 x14 h (f_X0_become x14 a1 h)) fun _ h18 =>
    (gR 1 0 a0 h18).bind fun x22 =>
    (gR 0 8 x22 h18).bind fun x25 =>
    (sI x25 a4 b6 h18).bind fun h32 =>
    ob (inv 1 a0 h32 (f_X1_comesAsTold a0 a2 a3 a4 h32)) fun x38 h38 =>
    if x38 = 0 then
      F b5 (b6 + 1) h38
    else
      F (b5 ||| (1 <<< (b6 &&& 31))) (b6 + 1) h38
def lp_X1_memoriesBy_6 (a0 : Nat) (a1 : Nat) (a2 : Nat) (a3 : Int32) (a4 : Int32) (K : Int32 → HP → Option (Int32 × HP)) : Nat → Int32 → Int32 → HP → Option (Int32 × HP)
  | 0 => fun _ _ _ => none
  | k + 1 => lb_X1_memoriesBy_6 a0 a1 a2 a3 a4 K (lp_X1_memoriesBy_6 a0 a1 a2 a3 a4 K k)
def f_X1_memoriesBy (t : Nat) (a1 : Nat) (a2 : Nat) (a3 : Int32) (a4 : Int32) (h : HP) : Option (Int32 × HP) :=
  lp_X1_memoriesBy_6 t a1 a2 a3 a4 (fun b5_6 h6_ =>
    some (b5_6, h6_))
    1000 0 0 h
def lb_X1_kindsBy_6 (a0 : Nat) (a1 : Nat) (a2 : Nat) (a3 : Int32) (a4 : Int32) (K : Int32 → HP → Option (Int32 × HP)) (F : Int32 → Int32 → HP → Option (Int32 × HP)) (b5 : Int32) (b6 : Int32) (h : HP) : Option (Int32 × HP) :=
  if 6 ≤ b6 then
    K b5 h
  else
    (gR 1 0 a0 h).bind fun x14 =>
    ob (inv 0 x14 h (f_X0_become x14 a1 h)) fun _ h18 =>
    (gR 1 0 a0 h18).bind fun x22 =>
    (gR 0 6 x22 h18).bind fun x25 =>
    (sI x25 a4 b6 h18).bind fun h32 =>
    ob (inv 1 a0 h32 (f_X1_comesAsTold a0 a2 a3 a4 h32)) fun x38 h38 =>
    if x38 = 0 then
      F b5 (b6 + 1) h38
    else
      F (b5 ||| (1 <<< (b6 &&& 31))) (b6 + 1) h38
def lp_X1_kindsBy_6 (a0 : Nat) (a1 : Nat) (a2 : Nat) (a3 : Int32) (a4 : Int32) (K : Int32 → HP → Option (Int32 × HP)) : Nat → Int32 → Int32 → HP → Option (Int32 × HP)
  | 0 => fun _ _ _ => none
  | k + 1 => lb_X1_kindsBy_6 a0 a1 a2 a3 a4 K (lp_X1_kindsBy_6 a0 a1 a2 a3 a4 K k)
def f_X1_kindsBy (t : Nat) (a1 : Nat) (a2 : Nat) (a3 : Int32) (a4 : Int32) (h : HP) : Option (Int32 × HP) :=
  lp_X1_kindsBy_6 t a1 a2 a3 a4 (fun b5_6 h6_ =>
    some (b5_6, h6_))
    1000 0 0 h
def lb_X1_losesWithin_3 (a0 : Nat) (a1 : Int32) (a2 : Int32) (a3 : Int32) (K : HP → Option (Int32 × HP)) (F : Int32 → HP → Option (Int32 × HP)) (b4 : Int32) (h : HP) : Option (Int32 × HP) :=
  if a3 ≤ b4 then
    K h
  else
    (gR 1 0 a0 h).bind fun x10 =>
    ob (inv 0 x10 h (f_X0_passYearOf x10 a2 h)) fun _ h14 =>
    (gR 1 0 a0 h14).bind fun x18 =>
    ob (inv 0 x18 h14 (f_X0_heldFor x18 a1 a2 h14)) fun x23 h23 =>
    if x23 = (-1) then
      rZ 1 h23
    else
      F (b4 + 1) h23
def lp_X1_losesWithin_3 (a0 : Nat) (a1 : Int32) (a2 : Int32) (a3 : Int32) (K : HP → Option (Int32 × HP)) : Nat → Int32 → HP → Option (Int32 × HP)
  | 0 => fun _ _ => none
  | k + 1 => lb_X1_losesWithin_3 a0 a1 a2 a3 K (lp_X1_losesWithin_3 a0 a1 a2 a3 K k)
def f_X1_losesWithin (t : Nat) (a1 : Int32) (a2 : Int32) (a3 : Int32) (h : HP) : Option (Int32 × HP) :=
  lp_X1_losesWithin_3 t a1 a2 a3 (fun h3_ =>
    rZ 0 h3_)
    1000 0 h
def lb_X1_leastGrief_3 (a0 : Nat) (a1 : Nat) (a2 : Int32) (a3 : Int32) (a4 : Int32) (K : HP → Option (Int32 × HP)) (F : Int32 → HP → Option (Int32 × HP)) (b5 : Int32) (h : HP) : Option (Int32 × HP) :=
  if 10 ≤ b5 then
    K h
  else
    (gR 1 0 a0 h).bind fun x11 =>
    ob (inv 0 x11 h (f_X0_become x11 a1 h)) fun _ h15 =>
    (gR 1 0 a0 h15).bind fun x19 =>
    (gR 0 9 x19 h15).bind fun x22 =>
    (sI x22 a2 b5 h15).bind fun h28 =>
    ob (inv 1 a0 h28 (f_X1_losesWithin a0 a2 a3 a4 h28)) fun x34 h34 =>
    if x34 = 0 then
      F (b5 + 1) h34
    else
      some (b5, h34)
def lp_X1_leastGrief_3 (a0 : Nat) (a1 : Nat) (a2 : Int32) (a3 : Int32) (a4 : Int32) (K : HP → Option (Int32 × HP)) : Nat → Int32 → HP → Option (Int32 × HP)
  | 0 => fun _ _ => none
  | k + 1 => lb_X1_leastGrief_3 a0 a1 a2 a3 a4 K (lp_X1_leastGrief_3 a0 a1 a2 a3 a4 K k)
def f_X1_leastGrief (t : Nat) (a1 : Nat) (a2 : Int32) (a3 : Int32) (a4 : Int32) (h : HP) : Option (Int32 × HP) :=
  lp_X1_leastGrief_3 t a1 a2 a3 a4 (fun h3_ =>
    some ((-1), h3_))
    1000 0 h
def lb_X1_firstWrong_11 (a0 : Nat) (a2 : Nat) (a3 : Int32) (K : HP → Option (Int32 × HP)) (F : Int32 → HP → Option (Int32 × HP)) (b4 : Int32) (h : HP) : Option (Int32 × HP) :=
  if a3 ≤ b4 then
    K h
  else
    (gR 1 0 a0 h).bind fun x18 =>
    ob (inv 0 x18 h (f_X0_passYear x18 h)) fun x21 h21 =>
    (gR 1 0 a0 h21).bind fun x26 =>
    ob (inv 0 x26 h21 (f_X0_knownSongs x26 h21)) fun x29 h29 =>
    (gR 3 2 a2 h29).bind fun x34 =>
    (lJ x34 b4 h29).bind fun x39 =>
    if (lg_cmp x29.toInt64 x39) = 0 then
      F (b4 + 1) h29
    else
      some (b4, h29)
def lp_X1_firstWrong_11 (a0 : Nat) (a2 : Nat) (a3 : Int32) (K : HP → Option (Int32 × HP)) : Nat → Int32 → HP → Option (Int32 × HP)
  | 0 => fun _ _ => none
  | k + 1 => lb_X1_firstWrong_11 a0 a2 a3 K (lp_X1_firstWrong_11 a0 a2 a3 K k)
def f_X1_firstWrong (t : Nat) (a1 : Nat) (a2 : Nat) (a3 : Int32) (h : HP) : Option (Int32 × HP) :=
  (gR 1 0 t h).bind fun x1 =>
  ob (inv 0 x1 h (f_X0_become x1 a1 h)) fun _ h5 =>
  lp_X1_firstWrong_11 t a2 a3 (fun h11_ =>
    some ((-1), h11_))
    1000 0 h5
def f_X2_init (t : Nat) (h : HP) : Option (Unit × HP) :=
  ob (mkA 7 250 h) fun x8 h8 =>
  (pR 2 0 t x8 h8).bind fun h10 =>
  ob (mkA 7 4 h10) fun x15 h15 =>
  (pR 2 1 t x15 h15).bind fun h17 =>
  some ((), h17)
def f_X2_append (t : Nat) (a1 : Int32) (h : HP) : Option (Int32 × HP) :=
  (gR 2 0 t h).bind fun x1 =>
  (gI 2 2 t h).bind fun x5 =>
  (sI x1 x5 a1 h).bind fun h9 =>
  (gI 2 2 t h9).bind fun x12 =>
  (pI 2 2 t (x12 + 1) h9).bind fun h17 =>
  (gI 2 2 t h17).bind fun x21 =>
  some (x21, h17)
def f_X2_isLetter (a0 : Int32) (h : HP) : Option (Int32 × HP) :=
  if a0 < 97 then
    rZ 0 h
  else
    if 122 < a0 then
      rZ 0 h
    else
      rZ 1 h
def f_X2_isDigit (a0 : Int32) (h : HP) : Option (Int32 × HP) :=
  if a0 < 48 then
    rZ 0 h
  else
    if 57 < a0 then
      rZ 0 h
    else
      rZ 1 h
def lb_X2_readNumber_5 (a0 : Nat) (K : HP → Option (Unit × HP)) (F : HP → Option (Unit × HP)) (h : HP) : Option (Unit × HP) :=
  (gI 2 6 a0 h).bind fun x6 =>
  (gI 2 2 a0 h).bind fun x10 =>
  if x10 ≤ x6 then
    K h
  else
    (gR 2 0 a0 h).bind fun x17 =>
    (gI 2 6 a0 h).bind fun x21 =>
    (lI x17 x21 h).bind fun x24 =>
    ob (f_X2_isDigit x24 h) fun x25 h25 =>
    if x25 = 0 then
      K h25
    else
      (gI 2 6 a0 h25).bind fun x33 =>
      (gI 2 5 a0 h25).bind fun x37 =>
      if 3 ≤ (x33 - x37) then
        (pI 2 4 a0 1000 h25).bind fun h71 =>
        (gI 2 6 a0 h71).bind fun x76 =>
        (pI 2 6 a0 (x76 + 1) h71).bind fun h81 =>
        F h81
      else
        (gI 2 4 a0 h25).bind fun x46 =>
        (gR 2 0 a0 h25).bind fun x53 =>
        (gI 2 6 a0 h25).bind fun x57 =>
        (lI x53 x57 h25).bind fun x60 =>
        (pI 2 4 a0 (((x46 * 10) + x60) - 48) h25).bind fun h71 =>
        (gI 2 6 a0 h71).bind fun x76 =>
        (pI 2 6 a0 (x76 + 1) h71).bind fun h81 =>
        F h81
def lp_X2_readNumber_5 (a0 : Nat) (K : HP → Option (Unit × HP)) : Nat → HP → Option (Unit × HP)
  | 0 => fun _ => none
  | k + 1 => lb_X2_readNumber_5 a0 K (lp_X2_readNumber_5 a0 K k)
def f_X2_readNumber (t : Nat) (h : HP) : Option (Unit × HP) :=
  (pI 2 4 t 0 h).bind fun h2 =>
  lp_X2_readNumber_5 t (fun h5_ =>
    some ((), h5_))
    1000 h2
def lb_X2_advance_8 (a0 : Nat) (K : HP → Option (Unit × HP)) (F : HP → Option (Unit × HP)) (h : HP) : Option (Unit × HP) :=
  (gI 2 5 a0 h).bind fun x9 =>
  (gI 2 2 a0 h).bind fun x13 =>
  if x13 ≤ x9 then
    K h
  else
    (gR 2 0 a0 h).bind fun x20 =>
    (gI 2 5 a0 h).bind fun x24 =>
    (lI x20 x24 h).bind fun x27 =>
    if x27 = 32 then
      (gI 2 5 a0 h).bind fun x35 =>
      (pI 2 5 a0 (x35 + 1) h).bind fun h40 =>
      F h40
    else
      K h
def lp_X2_advance_8 (a0 : Nat) (K : HP → Option (Unit × HP)) : Nat → HP → Option (Unit × HP)
  | 0 => fun _ => none
  | k + 1 => lb_X2_advance_8 a0 K (lp_X2_advance_8 a0 K k)
def lb_X2_advance_93 (a0 : Nat) (K : HP → Option (Unit × HP)) (F : HP → Option (Unit × HP)) (h : HP) : Option (Unit × HP) :=
  (gI 2 6 a0 h).bind fun x94 =>
  (gI 2 2 a0 h).bind fun x98 =>
  if x98 ≤ x94 then
    K h
  else
    (gR 2 0 a0 h).bind fun x105 =>
    (gI 2 6 a0 h).bind fun x109 =>
    (lI x105 x109 h).bind fun x112 =>
    ob (f_X2_isLetter x112 h) fun x113 h113 =>
    if x113 = 0 then
      K h113
    else
      (gI 2 6 a0 h113).bind fun x121 =>
      (pI 2 6 a0 (x121 + 1) h113).bind fun h126 =>
      F h126
def lp_X2_advance_93 (a0 : Nat) (K : HP → Option (Unit × HP)) : Nat → HP → Option (Unit × HP)
  | 0 => fun _ => none
  | k + 1 => lb_X2_advance_93 a0 K (lp_X2_advance_93 a0 K k)
def f_X2_advance (t : Nat) (h : HP) : Option (Unit × HP) :=
  (gI 2 6 t h).bind fun x2 =>
  (pI 2 5 t x2 h).bind fun h5 =>
  lp_X2_advance_8 t (fun h8_ =>
    (gI 2 5 t h8_).bind fun x48 =>
    (pI 2 6 t x48 h8_).bind fun h51 =>
    (gI 2 5 t h51).bind fun x55 =>
    (gI 2 2 t h51).bind fun x59 =>
    if x55 < x59 then
      (gR 2 0 t h51).bind fun x74 =>
      (gI 2 5 t h51).bind fun x78 =>
      (lI x74 x78 h51).bind fun x81 =>
      ob (f_X2_isLetter x81 h51) fun x82 h82 =>
      if x82 = 0 then
        (gR 2 0 t h82).bind fun x133 =>
        (gI 2 5 t h82).bind fun x137 =>
        (lI x133 x137 h82).bind fun x140 =>
        ob (f_X2_isDigit x140 h82) fun x141 h141 =>
        if x141 = 0 then
          (gR 2 0 t h141).bind fun x161 =>
          (gI 2 5 t h141).bind fun x165 =>
          (lI x161 x165 h141).bind fun x168 =>
          if x168 = 59 then
            (pI 2 3 t 3 h141).bind fun h179 =>
            (gI 2 6 t h179).bind fun x184 =>
            (pI 2 6 t (x184 + 1) h179).bind fun h189 =>
            some ((), h189)
          else
            (pI 2 3 t 4 h141).bind fun h179 =>
            (gI 2 6 t h179).bind fun x184 =>
            (pI 2 6 t (x184 + 1) h179).bind fun h189 =>
            some ((), h189)
        else
          (pI 2 3 t 2 h141).bind fun h149 =>
          ob (inv 2 t h149 (f_X2_readNumber t h149)) fun _ h153 =>
          some ((), h153)
      else
        (pI 2 3 t 1 h82).bind fun h90 =>
        lp_X2_advance_93 t (fun h93_ =>
          some ((), h93_))
          1000 h90
    else
      (pI 2 3 t 0 h51).bind fun h67 =>
      some ((), h67))
    1000 h5
def f_X2_wordOf (a0 : Int32) (h : HP) : Option (Nat × HP) :=
  if a0 = 0 then
    some (0, h)
  else
  if a0 = 1 then
    some (1, h)
  else
  if a0 = 2 then
    some (2, h)
  else
  if a0 = 3 then
    some (3, h)
  else
  if a0 = 4 then
    some (4, h)
  else
  if a0 = 5 then
    some (5, h)
  else
  if a0 = 6 then
    some (6, h)
  else
  if a0 = 7 then
    some (7, h)
  else
  if a0 = 8 then
    some (8, h)
  else
  some (9, h)
def lb_X2_spells_28 (a0 : Nat) (a1 : Nat) (K : HP → Option (Int32 × HP)) (F : Int32 → HP → Option (Int32 × HP)) (b2 : Int32) (h : HP) : Option (Int32 × HP) :=
  (sLen a1).bind fun x30 =>
  if x30 ≤ b2 then
    K h
  else
    (gR 2 0 a0 h).bind fun x37 =>
    (gI 2 5 a0 h).bind fun x41 =>
    (lI x37 (x41 + b2) h).bind fun x46 =>
    (sAt a1 b2).bind fun x49 =>
    if x46 = x49 then
      F (b2 + 1) h
    else
      rZ 0 h
def lp_X2_spells_28 (a0 : Nat) (a1 : Nat) (K : HP → Option (Int32 × HP)) : Nat → Int32 → HP → Option (Int32 × HP)
  | 0 => fun _ _ => none
  | k + 1 => lb_X2_spells_28 a0 a1 K (lp_X2_spells_28 a0 a1 K k)
def f_X2_spells (t : Nat) (a1 : Nat) (h : HP) : Option (Int32 × HP) :=
  (gI 2 3 t h).bind fun x1 =>
  if x1 = 1 then
    (gI 2 6 t h).bind fun x9 =>
    (gI 2 5 t h).bind fun x13 =>
    (sLen a1).bind fun x18 =>
    if (x9 - x13) = x18 then
      lp_X2_spells_28 t a1 (fun h28_ =>
        rZ 1 h28_)
        1000 0 h
    else
      rZ 0 h
  else
    rZ 0 h
def lb_X2_formOfWord_2 (a0 : Nat) (K : HP → Option (Int32 × HP)) (F : Int32 → HP → Option (Int32 × HP)) (b1 : Int32) (h : HP) : Option (Int32 × HP) :=
  if 10 ≤ b1 then
    K h
  else
    ob (f_X2_wordOf b1 h) fun x10 h10 =>
    ob (inv 2 a0 h10 (f_X2_spells a0 x10 h10)) fun x13 h13 =>
    if x13 = 0 then
      F (b1 + 1) h13
    else
      some (b1, h13)
def lp_X2_formOfWord_2 (a0 : Nat) (K : HP → Option (Int32 × HP)) : Nat → Int32 → HP → Option (Int32 × HP)
  | 0 => fun _ _ => none
  | k + 1 => lb_X2_formOfWord_2 a0 K (lp_X2_formOfWord_2 a0 K k)
def f_X2_formOfWord (t : Nat) (h : HP) : Option (Int32 × HP) :=
  lp_X2_formOfWord_2 t (fun h2_ =>
    some ((-1), h2_))
    1000 0 h
def f_X2_hasRoom (a0 : Nat) (a1 : Int32) (h : HP) : Option (Int32 × HP) :=
  if a1 = 0 then
    (gI 0 0 a0 h).bind fun x5 =>
    if 8 ≤ x5 then
      rZ 0 h
    else
      rZ 1 h
  else
    if a1 = 1 then
      (gI 0 1 a0 h).bind fun x19 =>
      if 6 ≤ x19 then
        rZ 0 h
      else
        rZ 1 h
    else
      rZ 1 h
def f_X2_numbersOf (a0 : Int32) (h : HP) : Option (Int32 × HP) :=
  if a0 = 0 then
    some (4, h)
  else
    if a0 < 6 then
      some (2, h)
    else
      some (1, h)
def f_X2_limitOf (a0 : Nat) (a1 : Int32) (a2 : Int32) (h : HP) : Option (Int32 × HP) :=
  if a1 = 0 then
    if a2 = 0 then
      some (6, h)
    else
      some (10, h)
  else
  if a1 = 1 then
    if a2 = 0 then
      some (10, h)
    else
      some (5, h)
  else
  if a1 = 2 then
    if a2 = 0 then
      (gI 0 0 a0 h).bind fun x84 =>
      some (x84, h)
    else
      (gI 0 1 a0 h).bind fun x91 =>
      some (x91, h)
  else
  if a1 = 3 then
    if a2 = 0 then
      (gI 0 0 a0 h).bind fun x84 =>
      some (x84, h)
    else
      (gI 0 1 a0 h).bind fun x91 =>
      some (x91, h)
  else
  if a1 = 4 then
    (gI 0 0 a0 h).bind fun x103 =>
    some (x103, h)
  else
  if a1 = 5 then
    (gI 0 0 a0 h).bind fun x103 =>
    some (x103, h)
  else
  if a1 = 6 then
    (gI 0 0 a0 h).bind fun x103 =>
    some (x103, h)
  else
  if a1 = 7 then
    (gI 0 0 a0 h).bind fun x103 =>
    some (x103, h)
  else
  if a1 = 8 then
    some (10, h)
  else
  if a1 = 9 then
    some (1000, h)
  else
  (gI 0 0 a0 h).bind fun x103 =>
  some (x103, h)
def f_X2_apply (t : Nat) (a1 : Nat) (a2 : Int32) (h : HP) : Option (Unit × HP) :=
  if a2 = 0 then
    (gR 2 1 t h).bind fun x54 =>
    (lI x54 0 h).bind fun x58 =>
    (gR 2 1 t h).bind fun x60 =>
    (lI x60 1 h).bind fun x64 =>
    (gR 2 1 t h).bind fun x66 =>
    (lI x66 2 h).bind fun x70 =>
    (gR 2 1 t h).bind fun x72 =>
    (lI x72 3 h).bind fun x76 =>
    ob (inv 0 a1 h (f_X0_addPerson a1 x58 x64 x70 x76 h)) fun x77 h77 =>
    some ((), h77)
  else
  if a2 = 1 then
    (gR 2 1 t h).bind fun x86 =>
    (lI x86 0 h).bind fun x90 =>
    (gR 2 1 t h).bind fun x92 =>
    (lI x92 1 h).bind fun x96 =>
    ob (inv 0 a1 h (f_X0_addSong a1 x90 x96 h)) fun x97 h97 =>
    some ((), h97)
  else
  if a2 = 2 then
    (gR 2 1 t h).bind fun x106 =>
    (lI x106 0 h).bind fun x110 =>
    (gR 2 1 t h).bind fun x112 =>
    (lI x112 1 h).bind fun x116 =>
    if a2 = 2 then
      ob (inv 0 a1 h (f_X0_setHeld a1 x110 x116 0 h)) fun _ h127 =>
      some ((), h127)
    else
      ob (inv 0 a1 h (f_X0_setHeld a1 x110 x116 (-1) h)) fun _ h127 =>
      some ((), h127)
  else
  if a2 = 3 then
    (gR 2 1 t h).bind fun x106 =>
    (lI x106 0 h).bind fun x110 =>
    (gR 2 1 t h).bind fun x112 =>
    (lI x112 1 h).bind fun x116 =>
    if a2 = 2 then
      ob (inv 0 a1 h (f_X0_setHeld a1 x110 x116 0 h)) fun _ h127 =>
      some ((), h127)
    else
      ob (inv 0 a1 h (f_X0_setHeld a1 x110 x116 (-1) h)) fun _ h127 =>
      some ((), h127)
  else
  if a2 = 4 then
    (gR 2 1 t h).bind fun x135 =>
    (lI x135 0 h).bind fun x139 =>
    (gR 2 1 t h).bind fun x141 =>
    (lI x141 1 h).bind fun x145 =>
    if a2 = 4 then
      ob (inv 0 a1 h (f_X0_setBeside a1 x139 x145 1 h)) fun _ h156 =>
      some ((), h156)
    else
      ob (inv 0 a1 h (f_X0_setBeside a1 x139 x145 0 h)) fun _ h156 =>
      some ((), h156)
  else
  if a2 = 5 then
    (gR 2 1 t h).bind fun x135 =>
    (lI x135 0 h).bind fun x139 =>
    (gR 2 1 t h).bind fun x141 =>
    (lI x141 1 h).bind fun x145 =>
    if a2 = 4 then
      ob (inv 0 a1 h (f_X0_setBeside a1 x139 x145 1 h)) fun _ h156 =>
      some ((), h156)
    else
      ob (inv 0 a1 h (f_X0_setBeside a1 x139 x145 0 h)) fun _ h156 =>
      some ((), h156)
  else
  if a2 = 6 then
    (gR 2 1 t h).bind fun x164 =>
    (lI x164 0 h).bind fun x168 =>
    if a2 = 6 then
      ob (inv 0 a1 h (f_X0_setHums a1 x168 1 h)) fun _ h180 =>
      some ((), h180)
    else
      ob (inv 0 a1 h (f_X0_setHums a1 x168 0 h)) fun _ h180 =>
      some ((), h180)
  else
  if a2 = 7 then
    (gR 2 1 t h).bind fun x164 =>
    (lI x164 0 h).bind fun x168 =>
    if a2 = 6 then
      ob (inv 0 a1 h (f_X0_setHums a1 x168 1 h)) fun _ h180 =>
      some ((), h180)
    else
      ob (inv 0 a1 h (f_X0_setHums a1 x168 0 h)) fun _ h180 =>
      some ((), h180)
  else
  if a2 = 8 then
    (gR 2 1 t h).bind fun x188 =>
    (lI x188 0 h).bind fun x192 =>
    (pI 0 2 a1 x192 h).bind fun h193 =>
    some ((), h193)
  else
  (gR 2 1 t h).bind fun x201 =>
  (lI x201 0 h).bind fun x205 =>
  (pI 0 3 a1 x205 h).bind fun h206 =>
  some ((), h206)
def lb_X2_readStatement_32 (a0 : Nat) (a1 : Nat) (a2 : Int32) (a3 : Int32) (K : HP → Option (Int32 × HP)) (F : Int32 → HP → Option (Int32 × HP)) (b4 : Int32) (h : HP) : Option (Int32 × HP) :=
  if a3 ≤ b4 then
    K h
  else
    (gI 2 3 a0 h).bind fun x39 =>
    if x39 = 2 then
      (gI 2 4 a0 h).bind fun x47 =>
      ob (f_X2_limitOf a1 a2 b4 h) fun x54 h54 =>
      if x47 < x54 then
        if a2 = 4 then
          if b4 = 1 then
            (gI 2 4 a0 h54).bind fun x79 =>
            (gR 2 1 a0 h54).bind fun x83 =>
            (lI x83 0 h54).bind fun x87 =>
            if x79 = x87 then
              rZ 0 h54
            else
              (gR 2 1 a0 h54).bind fun x94 =>
              (gI 2 4 a0 h54).bind fun x100 =>
              (sI x94 b4 x100 h54).bind fun h103 =>
              ob (inv 2 a0 h103 (f_X2_advance a0 h103)) fun _ h105 =>
              F (b4 + 1) h105
          else
            (gR 2 1 a0 h54).bind fun x94 =>
            (gI 2 4 a0 h54).bind fun x100 =>
            (sI x94 b4 x100 h54).bind fun h103 =>
            ob (inv 2 a0 h103 (f_X2_advance a0 h103)) fun _ h105 =>
            F (b4 + 1) h105
        else
          if a2 = 5 then
            if b4 = 1 then
              (gI 2 4 a0 h54).bind fun x79 =>
              (gR 2 1 a0 h54).bind fun x83 =>
              (lI x83 0 h54).bind fun x87 =>
              if x79 = x87 then
                rZ 0 h54
              else
                (gR 2 1 a0 h54).bind fun x94 =>
                (gI 2 4 a0 h54).bind fun x100 =>
                (sI x94 b4 x100 h54).bind fun h103 =>
                ob (inv 2 a0 h103 (f_X2_advance a0 h103)) fun _ h105 =>
                F (b4 + 1) h105
            else
              (gR 2 1 a0 h54).bind fun x94 =>
              (gI 2 4 a0 h54).bind fun x100 =>
              (sI x94 b4 x100 h54).bind fun h103 =>
              ob (inv 2 a0 h103 (f_X2_advance a0 h103)) fun _ h105 =>
              F (b4 + 1) h105
          else
            (gR 2 1 a0 h54).bind fun x94 =>
            (gI 2 4 a0 h54).bind fun x100 =>
            (sI x94 b4 x100 h54).bind fun h103 =>
            ob (inv 2 a0 h103 (f_X2_advance a0 h103)) fun _ h105 =>
            F (b4 + 1) h105
      else
        rZ 0 h54
    else
      rZ 0 h
def lp_X2_readStatement_32 (a0 : Nat) (a1 : Nat) (a2 : Int32) (a3 : Int32) (K : HP → Option (Int32 × HP)) : Nat → Int32 → HP → Option (Int32 × HP)
  | 0 => fun _ _ => none
  | k + 1 => lb_X2_readStatement_32 a0 a1 a2 a3 K (lp_X2_readStatement_32 a0 a1 a2 a3 K k)
def f_X2_readStatement (t : Nat) (a1 : Nat) (h : HP) : Option (Int32 × HP) :=
  ob (inv 2 t h (f_X2_formOfWord t h)) fun x1 h1 =>
  if x1 = (-1) then
    rZ 0 h1
  else
    ob (f_X2_hasRoom a1 x1 h1) fun x12 h12 =>
    if x12 = 0 then
      rZ 0 h12
    else
      ob (inv 2 t h12 (f_X2_advance t h12)) fun _ h21 =>
      ob (f_X2_numbersOf x1 h21) fun x25 h25 =>
      lp_X2_readStatement_32 t a1 x1 x25 (fun h32_ =>
        ob (inv 2 t h32_ (f_X2_apply t a1 x1 h32_)) fun _ h117 =>
        rZ 1 h117)
        1000 0 h25
def lb_X2_read_11 (a0 : Nat) (a1 : Nat) (K : HP → Option (Int32 × HP)) (F : Int32 → HP → Option (Int32 × HP)) (b2 : Int32) (h : HP) : Option (Int32 × HP) :=
  if 250 < b2 then
    K h
  else
    ob (inv 2 a0 h (f_X2_readStatement a0 a1 h)) fun x20 h20 =>
    if x20 = 0 then
      some ((-1), h20)
    else
      (gI 2 3 a0 h20).bind fun x29 =>
      if x29 = 0 then
        some (b2, h20)
      else
        (gI 2 3 a0 h20).bind fun x38 =>
        if x38 = 3 then
          ob (inv 2 a0 h20 (f_X2_advance a0 h20)) fun _ h48 =>
          F (b2 + 1) h48
        else
          some ((-1), h20)
def lp_X2_read_11 (a0 : Nat) (a1 : Nat) (K : HP → Option (Int32 × HP)) : Nat → Int32 → HP → Option (Int32 × HP)
  | 0 => fun _ _ => none
  | k + 1 => lb_X2_read_11 a0 a1 K (lp_X2_read_11 a0 a1 K k)
def f_X2_read (t : Nat) (a1 : Nat) (h : HP) : Option (Int32 × HP) :=
  (pI 2 6 t 0 h).bind fun h2 =>
  ob (inv 2 t h2 (f_X2_advance t h2)) fun _ h6 =>
  lp_X2_read_11 t a1 (fun h11_ =>
    some ((-1), h11_))
    1000 1 h6
def f_X3_init (t : Nat) (h : HP) : Option (Unit × HP) :=
  (pI 3 0 t (-1) h).bind fun h6 =>
  ob (mkA 8 40 h6) fun x12 h12 =>
  (pR 3 2 t x12 h12).bind fun h14 =>
  some ((), h14)
def lb_X3_becomeRow_12 (a0 : Nat) (K : HP → Option (Unit × HP)) (F : Int32 → HP → Option (Unit × HP)) (b3 : Int32) (h : HP) : Option (Unit × HP) :=
  if 40 ≤ b3 then
    K h
  else
    (gR 3 2 a0 h).bind fun x19 =>
    (sJ x19 b3 0 h).bind fun h24 =>
    F (b3 + 1) h24
def lp_X3_becomeRow_12 (a0 : Nat) (K : HP → Option (Unit × HP)) : Nat → Int32 → HP → Option (Unit × HP)
  | 0 => fun _ _ => none
  | k + 1 => lb_X3_becomeRow_12 a0 K (lp_X3_becomeRow_12 a0 K k)
def f_X3_becomeRow (t : Nat) (a1 : Int32) (a2 : Int32) (h : HP) : Option (Unit × HP) :=
  (pI 3 0 t a1 h).bind fun h2 =>
  (pI 3 1 t a2 h2).bind fun h7 =>
  lp_X3_becomeRow_12 t (fun h12_ =>
    some ((), h12_))
    1000 0 h7
def f_X3_hasPerson (t : Nat) (h : HP) : Option (Int32 × HP) :=
  (gI 3 0 t h).bind fun x1 =>
  if x1 < 10 then
    rZ 0 h
  else
    rZ 1 h
def f_X3_refusalAsRow (t : Nat) (h : HP) : Option (Int32 × HP) :=
  ob (inv 3 t h (f_X3_hasPerson t h)) fun x1 h1 =>
  if x1 = 0 then
    (gI 3 0 t h1).bind fun x13 =>
    if x13 = (-1) then
      some ((-4), h1)
    else
      some (0, h1)
  else
    some ((-3), h1)
def f_X3_refusalAsTold (t : Nat) (a1 : Int32) (h : HP) : Option (Int32 × HP) :=
  ob (inv 3 t h (f_X3_refusalAsRow t h)) fun x1 h1 =>
  if x1 = 0 then
    (gI 3 1 t h1).bind fun x11 =>
    if a1 ≤ x11 then
      some (x1, h1)
    else
      some ((-2), h1)
  else
    some (x1, h1)
def f_X3_lacks (t : Nat) (a1 : Int32) (a2 : Int32) (h : HP) : Option (Int32 × HP) :=
  if a1 < 0 then
    rZ 1 h
  else
    if a2 < 0 then
      rZ 1 h
    else
      (gI 3 1 t h).bind fun x10 =>
      if x10 < a1 then
        rZ 1 h
      else
        (gI 3 1 t h).bind fun x18 =>
        if a2 ≤ (x18 - a1) then
          rZ 0 h
        else
          rZ 1 h
def f_X3_put (t : Nat) (a1 : Int32) (a2 : Int64) (h : HP) : Option (Unit × HP) :=
  (gI 3 0 t h).bind fun x1 =>
  if x1 = 0 then
    (gR 3 2 t h).bind fun x41 =>
    (sJ x41 a1 a2.toInt32.toInt8.toInt32.toInt64 h).bind fun h49 =>
    some ((), h49)
  else
  if x1 = 1 then
    (gR 3 2 t h).bind fun x54 =>
    (sJ x54 a1 a2.toInt32.toInt16.toInt32.toInt64 h).bind fun h62 =>
    some ((), h62)
  else
  if x1 = 2 then
    (gR 3 2 t h).bind fun x67 =>
    (sJ x67 a1 a2.toInt32.toInt64 h).bind fun h74 =>
    some ((), h74)
  else
  if x1 = 3 then
    (gR 3 2 t h).bind fun x99 =>
    (sJ x99 a1 a2 h).bind fun h104 =>
    some ((), h104)
  else
  if x1 = 4 then
    (gR 3 2 t h).bind fun x79 =>
    if (lg_cmp a2 0) = 0 then
      (sJ x79 a1 0 h).bind fun h94 =>
      some ((), h94)
    else
      (sJ x79 a1 1 h).bind fun h94 =>
      some ((), h94)
  else
  (gR 3 2 t h).bind fun x99 =>
  (sJ x99 a1 a2 h).bind fun h104 =>
  some ((), h104)
def f_X4_init (t : Nat) (h : HP) : Option (Unit × HP) :=
  ob (mkA 7 8 h) fun x7 h7 =>
  (pR 4 0 t x7 h7).bind fun h9 =>
  ob (mkA 7 9 h9) fun x15 h15 =>
  (pR 4 1 t x15 h15).bind fun h17 =>
  some ((), h17)
def f_X4_listenToSong (t : Nat) (a1 : Nat) (a2 : Int32) (h : HP) : Option (Unit × HP) :=
  (pI 4 2 t 8 h).bind fun h3 =>
  (gR 0 14 a1 h3).bind fun x7 =>
  (gR 4 0 t h3).bind fun x15 =>
  (cpI x7 (a2 * 8) x15 0 8 h3).bind fun h21 =>
  some ((), h21)
def lb_X4_listenToRow_7 (a0 : Nat) (a1 : Nat) (a2 : Int32) (K : HP → Option (Int32 × HP)) (F : Int32 → HP → Option (Int32 × HP)) (b3 : Int32) (h : HP) : Option (Int32 × HP) :=
  if a2 ≤ b3 then
    K h
  else
    (gR 3 2 a1 h).bind fun x13 =>
    (lJ x13 b3 h).bind fun x17 =>
    if (lg_cmp x17 0) < 0 then
      rZ 0 h
    else
      if (lg_cmp x17 5) < 0 then
        (gR 4 0 a0 h).bind fun x39 =>
        (sI x39 b3 x17.toInt32 h).bind fun h46 =>
        F (b3 + 1) h46
      else
        rZ 0 h
def lp_X4_listenToRow_7 (a0 : Nat) (a1 : Nat) (a2 : Int32) (K : HP → Option (Int32 × HP)) : Nat → Int32 → HP → Option (Int32 × HP)
  | 0 => fun _ _ => none
  | k + 1 => lb_X4_listenToRow_7 a0 a1 a2 K (lp_X4_listenToRow_7 a0 a1 a2 K k)
def f_X4_listenToRow (t : Nat) (a1 : Nat) (a2 : Int32) (h : HP) : Option (Int32 × HP) :=
  (pI 4 2 t a2 h).bind fun h2 =>
  lp_X4_listenToRow_7 t a1 a2 (fun h7_ =>
    rZ 1 h7_)
    1000 0 h2
def lb_X4_changesTo_2 (a0 : Nat) (a1 : Nat) (a2 : Int32) (K : HP → Option (Int32 × HP)) (F : Int32 → HP → Option (Int32 × HP)) (b3 : Int32) (h : HP) : Option (Int32 × HP) :=
  if 8 < b3 then
    K h
  else
    (gR 4 1 a0 h).bind fun x9 =>
    (sI x9 b3 b3 h).bind fun h14 =>
    F (b3 + 1) h14
def lp_X4_changesTo_2 (a0 : Nat) (a1 : Nat) (a2 : Int32) (K : HP → Option (Int32 × HP)) : Nat → Int32 → HP → Option (Int32 × HP)
  | 0 => fun _ _ => none
  | k + 1 => lb_X4_changesTo_2 a0 a1 a2 K (lp_X4_changesTo_2 a0 a1 a2 K k)
def lb_X4_changesTo_51 (a0 : Nat) (a1 : Nat) (a2 : Int32) (a3 : Int32) (K : HP → Option (Int32 × HP)) (F : Int32 → Int32 → HP → Option (Int32 × HP)) (b4 : Int32) (b5 : Int32) (h : HP) : Option (Int32 × HP) :=
  if 8 < b5 then
    K h
  else
    (gR 4 1 a0 h).bind fun x59 =>
    (lI x59 b5 h).bind fun x64 =>
    (gR 4 0 a0 h).bind fun x70 =>
    (lI x70 a3 h).bind fun x74 =>
    (gR 0 14 a1 h).bind fun x76 =>
    (lI x76 (((a2 * 8) + b5) - 1) h).bind fun x88 =>
    if x74 = x88 then
      (gR 4 1 a0 h).bind fun x101 =>
      (gR 4 1 a0 h).bind fun x111 =>
      (lI x111 (b5 - 1) h).bind fun x118 =>
      ob (f_J9_min_7cf53 x64 x118 h) fun x119 h119 =>
      ob (f_J9_min_7cf53 (b4 + 0) (x119 + 1) h119) fun x124 h124 =>
      (sI x101 b5 x124 h124).bind fun h127 =>
      F x64 (b5 + 1) h127
    else
      (gR 4 1 a0 h).bind fun x101 =>
      (gR 4 1 a0 h).bind fun x111 =>
      (lI x111 (b5 - 1) h).bind fun x118 =>
      ob (f_J9_min_7cf53 x64 x118 h) fun x119 h119 =>
      ob (f_J9_min_7cf53 (b4 + 1) (x119 + 1) h119) fun x124 h124 =>
      (sI x101 b5 x124 h124).bind fun h127 =>
      F x64 (b5 + 1) h127
def lp_X4_changesTo_51 (a0 : Nat) (a1 : Nat) (a2 : Int32) (a3 : Int32) (K : HP → Option (Int32 × HP)) : Nat → Int32 → Int32 → HP → Option (Int32 × HP)
  | 0 => fun _ _ _ => none
  | k + 1 => lb_X4_changesTo_51 a0 a1 a2 a3 K (lp_X4_changesTo_51 a0 a1 a2 a3 K k)
def lb_X4_changesTo_23 (a0 : Nat) (a1 : Nat) (a2 : Int32) (K : HP → Option (Int32 × HP)) (F : Int32 → HP → Option (Int32 × HP)) (b3 : Int32) (h : HP) : Option (Int32 × HP) :=
  (gI 4 2 a0 h).bind fun x25 =>
  if x25 ≤ b3 then
    K h
  else
    (gR 4 1 a0 h).bind fun x32 =>
    (lI x32 0 h).bind fun x36 =>
    (gR 4 1 a0 h).bind fun x40 =>
    (sI x40 0 (b3 + 1) h).bind fun h47 =>
    lp_X4_changesTo_51 a0 a1 a2 b3 (fun h51_ =>
      F (b3 + 1) h51_)
      1000 x36 1 h47
def lp_X4_changesTo_23 (a0 : Nat) (a1 : Nat) (a2 : Int32) (K : HP → Option (Int32 × HP)) : Nat → Int32 → HP → Option (Int32 × HP)
  | 0 => fun _ _ => none
  | k + 1 => lb_X4_changesTo_23 a0 a1 a2 K (lp_X4_changesTo_23 a0 a1 a2 K k)
def f_X4_changesTo (t : Nat) (a1 : Nat) (a2 : Int32) (h : HP) : Option (Int32 × HP) :=
  lp_X4_changesTo_2 t a1 a2 (fun h2_ =>
    lp_X4_changesTo_23 t a1 a2 (fun h23_ =>
      (gR 4 1 t h23_).bind fun x145 =>
      (lI x145 8 h23_).bind fun x150 =>
      some (x150, h23_))
      1000 0 h2_)
    1000 0 h
def lb_X4_nearestSong_8 (a0 : Nat) (a1 : Nat) (K : Int32 → HP → Option (Int32 × HP)) (F : Int32 → Int32 → Int32 → HP → Option (Int32 × HP)) (b2 : Int32) (b3 : Int32) (b4 : Int32) (h : HP) : Option (Int32 × HP) :=
  (gI 0 1 a1 h).bind fun x11 =>
  if x11 ≤ b4 then
    K b2 h
  else
    ob (inv 4 a0 h (f_X4_changesTo a0 a1 b4 h)) fun x21 h21 =>
    if b3 ≤ x21 then
      F b2 b3 (b4 + 1) h21
    else
      F b4 x21 (b4 + 1) h21
def lp_X4_nearestSong_8 (a0 : Nat) (a1 : Nat) (K : Int32 → HP → Option (Int32 × HP)) : Nat → Int32 → Int32 → Int32 → HP → Option (Int32 × HP)
  | 0 => fun _ _ _ _ => none
  | k + 1 => lb_X4_nearestSong_8 a0 a1 K (lp_X4_nearestSong_8 a0 a1 K k)
def f_X4_nearestSong (t : Nat) (a1 : Nat) (h : HP) : Option (Int32 × HP) :=
  lp_X4_nearestSong_8 t a1 (fun b2_8 h8_ =>
    some (b2_8, h8_))
    1000 (-1) 16 0 h
def lb_X4_endBegins_4 (a1 : Nat) (a2 : Int32) (a3 : Int32) (a4 : Int32) (K : HP → Option (Int32 × HP)) (F : Int32 → HP → Option (Int32 × HP)) (b5 : Int32) (h : HP) : Option (Int32 × HP) :=
  if 8 ≤ b5 then
    K h
  else
    (gR 0 14 a1 h).bind fun x12 =>
    (lI x12 ((a2 * 8) + b5) h).bind fun x22 =>
    (gR 0 14 a1 h).bind fun x24 =>
    (lI x24 (((a3 * 8) + b5) - a4) h).bind fun x37 =>
    if x22 = x37 then
      F (b5 + 1) h
    else
      rZ 0 h
def lp_X4_endBegins_4 (a1 : Nat) (a2 : Int32) (a3 : Int32) (a4 : Int32) (K : HP → Option (Int32 × HP)) : Nat → Int32 → HP → Option (Int32 × HP)
  | 0 => fun _ _ => none
  | k + 1 => lb_X4_endBegins_4 a1 a2 a3 a4 K (lp_X4_endBegins_4 a1 a2 a3 a4 K k)
def f_X4_endBegins (t : Nat) (a1 : Nat) (a2 : Int32) (a3 : Int32) (a4 : Int32) (h : HP) : Option (Int32 × HP) :=
  lp_X4_endBegins_4 a1 a2 a3 a4 (fun h4_ =>
    rZ 1 h4_)
    1000 a4 h
def lb_X4_joined_3 (a0 : Nat) (a1 : Nat) (a2 : Int32) (a3 : Int32) (K : HP → Option (Int32 × HP)) (F : Int32 → HP → Option (Int32 × HP)) (b4 : Int32) (h : HP) : Option (Int32 × HP) :=
  if 8 ≤ b4 then
    K h
  else
    ob (inv 4 a0 h (f_X4_endBegins a0 a1 a2 a3 b4 h)) fun x16 h16 =>
    if x16 = 0 then
      F (b4 + 1) h16
    else
      some (b4 + 8, h16)
def lp_X4_joined_3 (a0 : Nat) (a1 : Nat) (a2 : Int32) (a3 : Int32) (K : HP → Option (Int32 × HP)) : Nat → Int32 → HP → Option (Int32 × HP)
  | 0 => fun _ _ => none
  | k + 1 => lb_X4_joined_3 a0 a1 a2 a3 K (lp_X4_joined_3 a0 a1 a2 a3 K k)
def f_X4_joined (t : Nat) (a1 : Nat) (a2 : Int32) (a3 : Int32) (h : HP) : Option (Int32 × HP) :=
  lp_X4_joined_3 t a1 a2 a3 (fun h3_ =>
    some (16, h3_))
    1000 0 h
def lb_X4_alike_6 (a1 : Nat) (a2 : Int32) (a3 : Int32) (K : Int32 → HP → Option (Int32 × HP)) (F : Int32 → Int32 → HP → Option (Int32 × HP)) (b4 : Int32) (b5 : Int32) (h : HP) : Option (Int32 × HP) :=
  if 8 ≤ b5 then
    K b4 h
  else
    (gR 0 14 a1 h).bind fun x14 =>
    (lI x14 ((a2 * 8) + b5) h).bind fun x24 =>
    (gR 0 14 a1 h).bind fun x26 =>
    (lI x26 ((a3 * 8) + b5) h).bind fun x36 =>
    if x24 = x36 then
      F (b4 + 1) (b5 + 1) h
    else
      F b4 (b5 + 1) h
def lp_X4_alike_6 (a1 : Nat) (a2 : Int32) (a3 : Int32) (K : Int32 → HP → Option (Int32 × HP)) : Nat → Int32 → Int32 → HP → Option (Int32 × HP)
  | 0 => fun _ _ _ => none
  | k + 1 => lb_X4_alike_6 a1 a2 a3 K (lp_X4_alike_6 a1 a2 a3 K k)
def f_X4_alike (t : Nat) (a1 : Nat) (a2 : Int32) (a3 : Int32) (h : HP) : Option (Int32 × HP) :=
  lp_X4_alike_6 a1 a2 a3 (fun b4_6 h6_ =>
    some (b4_6, h6_))
    1000 0 0 h
def lb_X4_asDigits_5 (a1 : Nat) (a2 : Int32) (K : Int32 → HP → Option (Int32 × HP)) (F : Int32 → Int32 → HP → Option (Int32 × HP)) (b3 : Int32) (b4 : Int32) (h : HP) : Option (Int32 × HP) :=
  if 8 ≤ b4 then
    K b3 h
  else
    (gR 0 14 a1 h).bind fun x17 =>
    (lI x17 ((a2 * 8) + b4) h).bind fun x27 =>
    F ((b3 * 10) + x27) (b4 + 1) h
def lp_X4_asDigits_5 (a1 : Nat) (a2 : Int32) (K : Int32 → HP → Option (Int32 × HP)) : Nat → Int32 → Int32 → HP → Option (Int32 × HP)
  | 0 => fun _ _ _ => none
  | k + 1 => lb_X4_asDigits_5 a1 a2 K (lp_X4_asDigits_5 a1 a2 K k)
def f_X4_asDigits (t : Nat) (a1 : Nat) (a2 : Int32) (h : HP) : Option (Int32 × HP) :=
  lp_X4_asDigits_5 a1 a2 (fun b3_5 h5_ =>
    some (b3_5, h5_))
    1000 0 0 h
def lb_X5_init_88 (a0 : Nat) (K : HP → Option (Unit × HP)) (F : Int32 → HP → Option (Unit × HP)) (b1 : Int32) (h : HP) : Option (Unit × HP) :=
  if 8 ≤ b1 then
    K h
  else
    (gR 5 6 a0 h).bind fun x95 =>
    ob (mkO 3 h) fun x99 h99 =>
    ob (f_X3_init x99 h99) fun _ h103 =>
    (sR x95 b1 x99 h103).bind fun h106 =>
    F (b1 + 1) h106
def lp_X5_init_88 (a0 : Nat) (K : HP → Option (Unit × HP)) : Nat → Int32 → HP → Option (Unit × HP)
  | 0 => fun _ _ => none
  | k + 1 => lb_X5_init_88 a0 K (lp_X5_init_88 a0 K k)
def f_X5_init (t : Nat) (h : HP) : Option (Unit × HP) :=
  ob (mkO 0 h) fun x5 h5 =>
  ob (f_X0_init x5 h5) fun _ h9 =>
  (pR 5 0 t x5 h9).bind fun h12 =>
  ob (mkO 0 h12) fun x16 h16 =>
  ob (f_X0_init x16 h16) fun _ h20 =>
  (pR 5 1 t x16 h20).bind fun h23 =>
  ob (mkO 0 h23) fun x27 h27 =>
  ob (f_X0_init x27 h27) fun _ h31 =>
  (pR 5 2 t x27 h31).bind fun h34 =>
  ob (mkO 1 h34) fun x38 h38 =>
  ob (f_X1_init x38 h38) fun _ h42 =>
  (pR 5 3 t x38 h42).bind fun h45 =>
  ob (mkO 4 h45) fun x49 h49 =>
  ob (f_X4_init x49 h49) fun _ h53 =>
  (pR 5 4 t x49 h53).bind fun h56 =>
  ob (mkO 2 h56) fun x60 h60 =>
  ob (f_X2_init x60 h60) fun _ h64 =>
  (pR 5 5 t x60 h64).bind fun h67 =>
  ob (mkA 9 8 h67) fun x73 h73 =>
  (pR 5 6 t x73 h73).bind fun h76 =>
  ob (mkA 7 5 h76) fun x81 h81 =>
  (pR 5 7 t x81 h81).bind fun h83 =>
  lp_X5_init_88 t (fun h88_ =>
    some ((), h88_))
    1000 0 h83
def f_X5_outside (a0 : Int32) (a1 : Int32) (h : HP) : Option (Int32 × HP) :=
  if a0 < 0 then
    rZ 1 h
  else
    if a0 < a1 then
      rZ 0 h
    else
      rZ 1 h
def f_X5_refuse (t : Nat) (a1 : Int32) (h : HP) : Option (Int32 × HP) :=
  ob (f_X5_outside ((-2) - a1) 5 h) fun x7 h7 =>
  if x7 = 0 then
    (gR 5 7 t h7).bind fun x14 =>
    (lI x14 ((-2) - a1) h7).bind fun x19 =>
    (sI x14 ((-2) - a1) (x19 + 1) h7).bind fun h22 =>
    some (a1, h22)
  else
    some (a1, h7)
def f_X5_row (t : Nat) (a1 : Int32) (a2 : Int32) (a3 : Int32) (h : HP) : Option (Int32 × HP) :=
  ob (f_X5_outside a1 8 h) fun x3 h3 =>
  if x3 = 0 then
    ob (f_X5_outside a2 5 h3) fun x11 h11 =>
    if x11 = 0 then
      ob (f_X5_outside a3 41 h11) fun x20 h20 =>
      if x20 = 0 then
        (gR 5 6 t h20).bind fun x34 =>
        (lR 9 x34 a1 h20).bind fun x38 =>
        ob (inv 3 x38 h20 (f_X3_becomeRow x38 a2 a3 h20)) fun _ h41 =>
        some (1, h41)
      else
        ob (inv 5 t h20 (f_X5_refuse t (-2) h20)) fun x29 h29 =>
        some (x29, h29)
    else
      ob (inv 5 t h11 (f_X5_refuse t (-2) h11)) fun x29 h29 =>
      some (x29, h29)
  else
    ob (inv 5 t h3 (f_X5_refuse t (-2) h3)) fun x29 h29 =>
    some (x29, h29)
def f_X5_set (t : Nat) (a1 : Int32) (a2 : Int32) (a3 : Int64) (h : HP) : Option (Int32 × HP) :=
  ob (f_X5_outside a1 8 h) fun x3 h3 =>
  if x3 = 0 then
    (gR 5 6 t h3).bind fun x17 =>
    (lR 9 x17 a1 h3).bind fun x21 =>
    ob (inv 3 x21 h3 (f_X3_refusalAsRow x21 h3)) fun x26 h26 =>
    if x26 = 0 then
      (gI 3 1 x21 h26).bind fun x46 =>
      ob (f_X5_outside a2 x46 h26) fun x49 h49 =>
      if x49 = 0 then
        ob (inv 3 x21 h49 (f_X3_put x21 a2 a3 h49)) fun _ h66 =>
        some (1, h66)
      else
        ob (inv 5 t h49 (f_X5_refuse t (-2) h49)) fun x58 h58 =>
        some (x58, h58)
    else
      ob (inv 5 t h26 (f_X5_refuse t x26 h26)) fun x39 h39 =>
      some (x39, h39)
  else
    ob (inv 5 t h3 (f_X5_refuse t (-2) h3)) fun x12 h12 =>
    some (x12, h12)
def f_X5_copy (t : Nat) (a1 : Int32) (a2 : Int32) (a3 : Int32) (a4 : Int32) (a5 : Int32) (h : HP) : Option (Int32 × HP) :=
  ob (f_X5_outside a1 8 h) fun x3 h3 =>
  if x3 = 0 then
    ob (f_X5_outside a2 8 h3) fun x12 h12 =>
    if x12 = 0 then
      (gR 5 6 t h12).bind fun x26 =>
      (lR 9 x26 a1 h12).bind fun x30 =>
      (gR 5 6 t h12).bind fun x34 =>
      (lR 9 x34 a2 h12).bind fun x38 =>
      ob (inv 3 x30 h12 (f_X3_hasPerson x30 h12)) fun x43 h43 =>
      if x43 = 0 then
        ob (inv 3 x38 h43 (f_X3_hasPerson x38 h43)) fun x51 h51 =>
        if x51 = 0 then
          (gI 3 0 x30 h51).bind fun x66 =>
          if x66 = (-1) then
            ob (inv 5 t h51 (f_X5_refuse t (-4) h51)) fun x122 h122 =>
            some (x122, h122)
          else
            (gI 3 0 x38 h51).bind fun x75 =>
            if x75 = (-1) then
              ob (inv 5 t h51 (f_X5_refuse t (-4) h51)) fun x122 h122 =>
              some (x122, h122)
            else
              (gI 3 0 x30 h51).bind fun x96 =>
              (gI 3 0 x38 h51).bind fun x101 =>
              if x96 = x101 then
                ob (inv 3 x30 h51 (f_X3_lacks x30 a3 a5 h51)) fun x131 h131 =>
                if x131 = 0 then
                  ob (inv 3 x38 h131 (f_X3_lacks x38 a4 a5 h131)) fun x143 h143 =>
                  if x143 = 0 then
                    (gR 3 2 x30 h143).bind fun x158 =>
                    (gR 3 2 x38 h143).bind fun x164 =>
                    (cpJ x158 a3 x164 a4 a5 h143).bind fun h171 =>
                    some (a5, h171)
                  else
                    ob (inv 5 t h143 (f_X5_refuse t (-2) h143)) fun x152 h152 =>
                    some (x152, h152)
                else
                  ob (inv 5 t h131 (f_X5_refuse t (-2) h131)) fun x152 h152 =>
                  some (x152, h152)
              else
                ob (inv 5 t h51 (f_X5_refuse t (-3) h51)) fun x110 h110 =>
                some (x110, h110)
        else
          ob (inv 5 t h51 (f_X5_refuse t (-3) h51)) fun x60 h60 =>
          some (x60, h60)
      else
        ob (inv 5 t h43 (f_X5_refuse t (-3) h43)) fun x60 h60 =>
        some (x60, h60)
    else
      ob (inv 5 t h12 (f_X5_refuse t (-2) h12)) fun x21 h21 =>
      some (x21, h21)
  else
    ob (inv 5 t h3 (f_X5_refuse t (-2) h3)) fun x21 h21 =>
    some (x21, h21)
def f_X5_element (t : Nat) (a1 : Int32) (a2 : Int32) (h : HP) : Option (Int64 × HP) :=
  ob (f_X5_outside a1 8 h) fun x3 h3 =>
  if x3 = 0 then
    (gR 5 6 t h3).bind fun x12 =>
    (lR 9 x12 a1 h3).bind fun x16 =>
    ob (inv 3 x16 h3 (f_X3_refusalAsRow x16 h3)) fun x19 h19 =>
    if x19 = 0 then
      (gI 3 1 x16 h19).bind fun x27 =>
      ob (f_X5_outside a2 x27 h19) fun x30 h30 =>
      if x30 = 0 then
        (gR 3 2 x16 h30).bind fun x41 =>
        (lJ x41 a2 h30).bind fun x45 =>
        some (x45, h30)
      else
        some (0, h30)
    else
      some (0, h19)
  else
    some (0, h3)
def f_X5_holds (t : Nat) (a1 : Int32) (h : HP) : Option (Int32 × HP) :=
  ob (f_X5_outside a1 8 h) fun x3 h3 =>
  if x3 = 0 then
    (gR 5 6 t h3).bind fun x14 =>
    (lR 9 x14 a1 h3).bind fun x18 =>
    (gI 3 0 x18 h3).bind fun x19 =>
    some (x19, h3)
  else
    some ((-1), h3)
def f_X5_noPerson (t : Nat) (a1 : Int32) (h : HP) : Option (Int32 × HP) :=
  (gR 5 0 t h).bind fun x2 =>
  (gI 0 0 x2 h).bind fun x5 =>
  ob (f_X5_outside a1 x5 h) fun x8 h8 =>
  rZ x8 h8
def f_X5_show (t : Nat) (a1 : Int32) (a2 : Int32) (h : HP) : Option (Int32 × HP) :=
  ob (f_X5_outside a1 8 h) fun x3 h3 =>
  if x3 = 0 then
    if a2 = (-1) then
      (gR 5 6 t h3).bind fun x30 =>
      (lR 9 x30 a1 h3).bind fun x34 =>
      (pI 3 0 x34 (-1) h3).bind fun h48 =>
      some (1, h48)
    else
      ob (inv 5 t h3 (f_X5_noPerson t a2 h3)) fun x16 h16 =>
      if x16 = 0 then
        (gR 5 6 t h16).bind fun x30 =>
        (lR 9 x30 a1 h16).bind fun x34 =>
        (pI 3 0 x34 (10 + a2) h16).bind fun h48 =>
        some (1, h48)
      else
        ob (inv 5 t h16 (f_X5_refuse t (-2) h16)) fun x25 h25 =>
        some (x25, h25)
  else
    ob (inv 5 t h3 (f_X5_refuse t (-2) h3)) fun x25 h25 =>
    some (x25, h25)
def f_X5_says (t : Nat) (a1 : Int32) (a2 : Int32) (h : HP) : Option (Int32 × HP) :=
  ob (f_X5_outside a1 8 h) fun x3 h3 =>
  if x3 = 0 then
    ob (f_X5_outside a2 6 h3) fun x12 h12 =>
    if x12 = 0 then
      (gR 5 6 t h12).bind fun x26 =>
      (lR 9 x26 a1 h12).bind fun x30 =>
      (gI 3 0 x30 h12).bind fun x33 =>
      if x33 = (-1) then
        ob (inv 5 t h12 (f_X5_refuse t (-4) h12)) fun x43 h43 =>
        some (x43, h43)
      else
        (gI 3 0 x30 h12).bind fun x48 =>
        ob (inv 5 t h12 (f_X5_noPerson t (x48 - 10) h12)) fun x59 h59 =>
        if x59 = 0 then
          (gR 5 0 t h59).bind fun x66 =>
          ob (inv 0 x66 h59 (f_X0_isOfKind x66 (x48 - 10) a2 h59)) fun x72 h72 =>
          if x72 = 0 then
            ob (inv 5 t h72 (f_X5_refuse t (-3) h72)) fun x81 h81 =>
            some (x81, h81)
          else
            if a2 = 0 then
              (gR 5 0 t h72).bind fun x90 =>
              (gR 0 8 x90 h72).bind fun x93 =>
              (lI x93 (x48 - 10) h72).bind fun x98 =>
              some (x98, h72)
            else
              (gR 5 0 t h72).bind fun x103 =>
              ob (inv 0 x103 h72 (f_X0_holdOn x103 (x48 - 10) 0 h72)) fun x109 h109 =>
              some (x109, h109)
        else
          ob (inv 5 t h59 (f_X5_refuse t (-3) h59)) fun x81 h81 =>
          some (x81, h81)
    else
      ob (inv 5 t h12 (f_X5_refuse t (-2) h12)) fun x21 h21 =>
      some (x21, h21)
  else
    ob (inv 5 t h3 (f_X5_refuse t (-2) h3)) fun x21 h21 =>
    some (x21, h21)
def f_X5_person (t : Nat) (a1 : Int32) (a2 : Int32) (a3 : Int32) (a4 : Int32) (h : HP) : Option (Int32 × HP) :=
  ob (f_X5_outside a1 6 h) fun x3 h3 =>
  if x3 = 0 then
    ob (f_X5_outside a2 10 h3) fun x12 h12 =>
    if x12 = 0 then
      ob (f_X5_outside a3 10 h12) fun x21 h21 =>
      if x21 = 0 then
        ob (f_X5_outside a4 10 h21) fun x31 h31 =>
        if x31 = 0 then
          (gR 5 0 t h31).bind fun x45 =>
          (gI 0 0 x45 h31).bind fun x48 =>
          if x48 < 8 then
            (gR 5 0 t h31).bind fun x64 =>
            ob (inv 0 x64 h31 (f_X0_addPerson x64 a1 a2 a3 a4 h31)) fun x72 h72 =>
            some (x72, h72)
          else
            ob (inv 5 t h31 (f_X5_refuse t (-6) h31)) fun x59 h59 =>
            some (x59, h59)
        else
          ob (inv 5 t h31 (f_X5_refuse t (-2) h31)) fun x40 h40 =>
          some (x40, h40)
      else
        ob (inv 5 t h21 (f_X5_refuse t (-2) h21)) fun x40 h40 =>
        some (x40, h40)
    else
      ob (inv 5 t h12 (f_X5_refuse t (-2) h12)) fun x40 h40 =>
      some (x40, h40)
  else
    ob (inv 5 t h3 (f_X5_refuse t (-2) h3)) fun x40 h40 =>
    some (x40, h40)
def f_X5_song (t : Nat) (a1 : Int32) (a2 : Int32) (h : HP) : Option (Int32 × HP) :=
  ob (f_X5_outside a1 10 h) fun x3 h3 =>
  if x3 = 0 then
    ob (f_X5_outside a2 5 h3) fun x11 h11 =>
    if x11 = 0 then
      (gR 5 0 t h11).bind fun x25 =>
      (gI 0 1 x25 h11).bind fun x28 =>
      if x28 < 6 then
        (gR 5 0 t h11).bind fun x44 =>
        ob (inv 0 x44 h11 (f_X0_addSong x44 a1 a2 h11)) fun x49 h49 =>
        some (x49, h49)
      else
        ob (inv 5 t h11 (f_X5_refuse t (-6) h11)) fun x39 h39 =>
        some (x39, h39)
    else
      ob (inv 5 t h11 (f_X5_refuse t (-2) h11)) fun x20 h20 =>
      some (x20, h20)
  else
    ob (inv 5 t h3 (f_X5_refuse t (-2) h3)) fun x20 h20 =>
    some (x20, h20)
def f_X5_give (t : Nat) (a1 : Int32) (a2 : Int32) (a3 : Int32) (h : HP) : Option (Int32 × HP) :=
  ob (inv 5 t h (f_X5_noPerson t a1 h)) fun x2 h2 =>
  if x2 = 0 then
    ob (f_X5_outside a2 3 h2) fun x10 h10 =>
    if x10 = 0 then
      if a2 = 2 then
        ob (f_X5_outside a3 2 h10) fun x28 h28 =>
        if x28 = 0 then
          (gR 5 0 t h28).bind fun x99 =>
          (gI 0 5 x99 h28).bind fun x102 =>
          (gR 5 0 t h28).bind fun x112 =>
          if a3 = 1 then
            ob (inv 0 x112 h28 (f_X0_setHums x112 a1 1 h28)) fun _ h126 =>
            some ((x102 >>> (a1 &&& 31)) &&& 1, h126)
          else
            ob (inv 0 x112 h28 (f_X0_setHums x112 a1 0 h28)) fun _ h126 =>
            some ((x102 >>> (a1 &&& 31)) &&& 1, h126)
        else
          ob (inv 5 t h28 (f_X5_refuse t (-2) h28)) fun x37 h37 =>
          some (x37, h37)
      else
        ob (f_X5_outside a3 10 h10) fun x28 h28 =>
        if x28 = 0 then
          if a2 = 0 then
            (gR 5 0 t h28).bind fun x46 =>
            (gR 0 8 x46 h28).bind fun x49 =>
            (lI x49 a1 h28).bind fun x53 =>
            (gR 5 0 t h28).bind fun x57 =>
            (gR 0 8 x57 h28).bind fun x60 =>
            (sI x60 a1 a3 h28).bind fun h65 =>
            some (x53, h65)
          else
            if a2 = 1 then
              (gR 5 0 t h28).bind fun x75 =>
              (gR 0 9 x75 h28).bind fun x78 =>
              (lI x78 a1 h28).bind fun x82 =>
              (gR 5 0 t h28).bind fun x86 =>
              (gR 0 9 x86 h28).bind fun x89 =>
              (sI x89 a1 a3 h28).bind fun h94 =>
              some (x82, h94)
            else
              (gR 5 0 t h28).bind fun x99 =>
              (gI 0 5 x99 h28).bind fun x102 =>
              (gR 5 0 t h28).bind fun x112 =>
              if a3 = 1 then
                ob (inv 0 x112 h28 (f_X0_setHums x112 a1 1 h28)) fun _ h126 =>
                some ((x102 >>> (a1 &&& 31)) &&& 1, h126)
              else
                ob (inv 0 x112 h28 (f_X0_setHums x112 a1 0 h28)) fun _ h126 =>
                some ((x102 >>> (a1 &&& 31)) &&& 1, h126)
        else
          ob (inv 5 t h28 (f_X5_refuse t (-2) h28)) fun x37 h37 =>
          some (x37, h37)
    else
      ob (inv 5 t h10 (f_X5_refuse t (-2) h10)) fun x37 h37 =>
      some (x37, h37)
  else
    ob (inv 5 t h2 (f_X5_refuse t (-2) h2)) fun x37 h37 =>
    some (x37, h37)
def f_X5_noSong (t : Nat) (a1 : Int32) (h : HP) : Option (Int32 × HP) :=
  (gR 5 0 t h).bind fun x2 =>
  (gI 0 1 x2 h).bind fun x5 =>
  ob (f_X5_outside a1 x5 h) fun x8 h8 =>
  rZ x8 h8
def f_X5_markLimit (a0 : Int32) (h : HP) : Option (Int32 × HP) :=
  if a0 = 0 then
    some (10, h)
  else
    if a0 = 1 then
      some (5, h)
    else
      some (3, h)
def f_X5_mark (t : Nat) (a1 : Int32) (a2 : Int32) (a3 : Int32) (h : HP) : Option (Int32 × HP) :=
  ob (inv 5 t h (f_X5_noSong t a1 h)) fun x2 h2 =>
  if x2 = 0 then
    ob (f_X5_outside a2 3 h2) fun x10 h10 =>
    if x10 = 0 then
      ob (f_X5_markLimit a2 h10) fun x18 h18 =>
      ob (f_X5_outside a3 x18 h18) fun x21 h21 =>
      if x21 = 0 then
        if a2 = 0 then
          (gR 5 0 t h21).bind fun x39 =>
          (gR 0 11 x39 h21).bind fun x42 =>
          (lI x42 a1 h21).bind fun x75 =>
          (sI x42 a1 a3 h21).bind fun h82 =>
          some (x75, h82)
        else
          if a2 = 1 then
            (gR 5 0 t h21).bind fun x54 =>
            (gR 0 12 x54 h21).bind fun x57 =>
            (lI x57 a1 h21).bind fun x75 =>
            (sI x57 a1 a3 h21).bind fun h82 =>
            some (x75, h82)
          else
            (gR 5 0 t h21).bind fun x64 =>
            (gR 0 13 x64 h21).bind fun x67 =>
            (lI x67 a1 h21).bind fun x75 =>
            (sI x67 a1 a3 h21).bind fun h82 =>
            some (x75, h82)
      else
        ob (inv 5 t h21 (f_X5_refuse t (-2) h21)) fun x30 h30 =>
        some (x30, h30)
    else
      ob (inv 5 t h10 (f_X5_refuse t (-2) h10)) fun x30 h30 =>
      some (x30, h30)
  else
    ob (inv 5 t h2 (f_X5_refuse t (-2) h2)) fun x30 h30 =>
    some (x30, h30)
def f_X5_note (t : Nat) (a1 : Int32) (a2 : Int32) (a3 : Int32) (h : HP) : Option (Int32 × HP) :=
  ob (inv 5 t h (f_X5_noSong t a1 h)) fun x2 h2 =>
  if x2 = 0 then
    ob (f_X5_outside a2 8 h2) fun x11 h11 =>
    if x11 = 0 then
      ob (f_X5_outside a3 5 h11) fun x19 h19 =>
      if x19 = 0 then
        (gR 5 0 t h19).bind fun x41 =>
        (gR 0 14 x41 h19).bind fun x44 =>
        (lI x44 ((a1 * 8) + a2) h19).bind fun x49 =>
        (gR 5 0 t h19).bind fun x53 =>
        (gR 0 14 x53 h19).bind fun x56 =>
        (sI x56 ((a1 * 8) + a2) a3 h19).bind fun h62 =>
        some (x49, h62)
      else
        ob (inv 5 t h19 (f_X5_refuse t (-2) h19)) fun x28 h28 =>
        some (x28, h28)
    else
      ob (inv 5 t h11 (f_X5_refuse t (-2) h11)) fun x28 h28 =>
      some (x28, h28)
  else
    ob (inv 5 t h2 (f_X5_refuse t (-2) h2)) fun x28 h28 =>
    some (x28, h28)
def f_X5_knows (t : Nat) (a1 : Int32) (a2 : Int32) (a3 : Int32) (h : HP) : Option (Int32 × HP) :=
  ob (inv 5 t h (f_X5_noPerson t a1 h)) fun x2 h2 =>
  if x2 = 0 then
    ob (inv 5 t h2 (f_X5_noSong t a2 h2)) fun x10 h10 =>
    if x10 = 0 then
      if a3 = (-1) then
        (gR 5 0 t h10).bind fun x38 =>
        ob (inv 0 x38 h10 (f_X0_heldFor x38 a1 a2 h10)) fun x43 h43 =>
        (gR 5 0 t h43).bind fun x49 =>
        ob (inv 0 x49 h43 (f_X0_setHeld x49 a1 a2 a3 h43)) fun _ h55 =>
        some (x43, h55)
      else
        ob (f_X5_outside a3 100 h10) fun x24 h24 =>
        if x24 = 0 then
          (gR 5 0 t h24).bind fun x38 =>
          ob (inv 0 x38 h24 (f_X0_heldFor x38 a1 a2 h24)) fun x43 h43 =>
          (gR 5 0 t h43).bind fun x49 =>
          ob (inv 0 x49 h43 (f_X0_setHeld x49 a1 a2 a3 h43)) fun _ h55 =>
          some (x43, h55)
        else
          ob (inv 5 t h24 (f_X5_refuse t (-2) h24)) fun x33 h33 =>
          some (x33, h33)
    else
      ob (inv 5 t h10 (f_X5_refuse t (-2) h10)) fun x33 h33 =>
      some (x33, h33)
  else
    ob (inv 5 t h2 (f_X5_refuse t (-2) h2)) fun x33 h33 =>
    some (x33, h33)
def f_X5_seat (t : Nat) (a1 : Int32) (a2 : Int32) (a3 : Int32) (h : HP) : Option (Int32 × HP) :=
  ob (inv 5 t h (f_X5_noPerson t a1 h)) fun x2 h2 =>
  if x2 = 0 then
    ob (inv 5 t h2 (f_X5_noPerson t a2 h2)) fun x10 h10 =>
    if x10 = 0 then
      ob (f_X5_outside a3 2 h10) fun x18 h18 =>
      if x18 = 0 then
        if a1 = a2 then
          ob (inv 5 t h18 (f_X5_refuse t (-2) h18)) fun x32 h32 =>
          some (x32, h32)
        else
          (gR 5 0 t h18).bind fun x37 =>
          (gR 0 10 x37 h18).bind fun x40 =>
          (lI x40 a1 h18).bind fun x44 =>
          (gR 5 0 t h18).bind fun x52 =>
          if a3 = 1 then
            ob (inv 0 x52 h18 (f_X0_setBeside x52 a1 a2 1 h18)) fun _ h67 =>
            some ((x44 >>> (a2 &&& 31)) &&& 1, h67)
          else
            ob (inv 0 x52 h18 (f_X0_setBeside x52 a1 a2 0 h18)) fun _ h67 =>
            some ((x44 >>> (a2 &&& 31)) &&& 1, h67)
      else
        ob (inv 5 t h18 (f_X5_refuse t (-2) h18)) fun x32 h32 =>
        some (x32, h32)
    else
      ob (inv 5 t h10 (f_X5_refuse t (-2) h10)) fun x32 h32 =>
      some (x32, h32)
  else
    ob (inv 5 t h2 (f_X5_refuse t (-2) h2)) fun x32 h32 =>
    some (x32, h32)
def f_X5_tell (t : Nat) (a1 : Int32) (a2 : Int32) (h : HP) : Option (Int32 × HP) :=
  ob (f_X5_outside a1 2 h) fun x2 h2 =>
  if x2 = 0 then
    if a1 = 0 then
      ob (f_X5_outside a2 10 h2) fun x21 h21 =>
      if x21 = 0 then
        (gR 5 0 t h21).bind fun x39 =>
        (gI 0 2 x39 h21).bind fun x42 =>
        (gR 5 0 t h21).bind fun x47 =>
        (pI 0 2 x47 a2 h21).bind fun h51 =>
        some (x42, h51)
      else
        ob (inv 5 t h21 (f_X5_refuse t (-2) h21)) fun x30 h30 =>
        some (x30, h30)
    else
      ob (f_X5_outside a2 1000 h2) fun x21 h21 =>
      if x21 = 0 then
        (gR 5 0 t h21).bind fun x58 =>
        (gI 0 3 x58 h21).bind fun x61 =>
        (gR 5 0 t h21).bind fun x66 =>
        (pI 0 3 x66 a2 h21).bind fun h70 =>
        some (x61, h70)
      else
        ob (inv 5 t h21 (f_X5_refuse t (-2) h21)) fun x30 h30 =>
        some (x30, h30)
  else
    ob (inv 5 t h2 (f_X5_refuse t (-2) h2)) fun x30 h30 =>
    some (x30, h30)
def f_X5_feed (t : Nat) (a1 : Int32) (h : HP) : Option (Int32 × HP) :=
  ob (f_X5_outside a1 256 h) fun x4 h4 =>
  if x4 = 0 then
    (gR 5 5 t h4).bind fun x18 =>
    (gI 2 2 x18 h4).bind fun x21 =>
    if x21 < 250 then
      (gR 5 5 t h4).bind fun x38 =>
      ob (inv 2 x38 h4 (f_X2_append x38 a1 h4)) fun x42 h42 =>
      some (x42, h42)
    else
      ob (inv 5 t h4 (f_X5_refuse t (-6) h4)) fun x33 h33 =>
      some (x33, h33)
  else
    ob (inv 5 t h4 (f_X5_refuse t (-2) h4)) fun x13 h13 =>
    some (x13, h13)
def f_X5_wipe (t : Nat) (h : HP) : Option (Int32 × HP) :=
  (gR 5 5 t h).bind fun x1 =>
  (gI 2 2 x1 h).bind fun x4 =>
  (gR 5 5 t h).bind fun x9 =>
  (pI 2 2 x9 0 h).bind fun h13 =>
  some (x4, h13)
def f_X5_isle (t : Nat) (h : HP) : Option (Int32 × HP) :=
  (gR 5 2 t h).bind fun x1 =>
  (gR 5 0 t h).bind fun x5 =>
  ob (inv 0 x1 h (f_X0_become x1 x5 h)) fun _ h8 =>
  (gR 5 5 t h8).bind fun x12 =>
  (gR 5 2 t h8).bind fun x16 =>
  ob (inv 2 x12 h8 (f_X2_read x12 x16 h8)) fun x19 h19 =>
  (gR 5 5 t h19).bind fun x24 =>
  (pI 2 2 x24 0 h19).bind fun h28 =>
  if x19 = (-1) then
    ob (inv 5 t h28 (f_X5_refuse t (-2) h28)) fun x39 h39 =>
    (gR 5 5 t h39).bind fun x46 =>
    (gI 2 5 x46 h39).bind fun x49 =>
    some ((-20) - x49, h39)
  else
    (gR 5 0 t h28).bind fun x55 =>
    (gR 5 2 t h28).bind fun x59 =>
    ob (inv 0 x55 h28 (f_X0_become x55 x59 h28)) fun _ h62 =>
    some (x19, h62)
def f_X5_personOf (t : Nat) (a1 : Int32) (a2 : Int32) (h : HP) : Option (Int32 × HP) :=
  ob (inv 5 t h (f_X5_noPerson t a1 h)) fun x2 h2 =>
  if x2 = 0 then
    if a2 = 0 then
      (gR 5 0 t h2).bind fun x61 =>
      (gR 0 6 x61 h2).bind fun x64 =>
      (lI x64 a1 h2).bind fun x68 =>
      some (x68, h2)
    else
    if a2 = 1 then
      (gR 5 0 t h2).bind fun x71 =>
      (gR 0 7 x71 h2).bind fun x74 =>
      (lI x74 a1 h2).bind fun x78 =>
      some (x78, h2)
    else
    if a2 = 2 then
      (gR 5 0 t h2).bind fun x81 =>
      (gR 0 8 x81 h2).bind fun x84 =>
      (lI x84 a1 h2).bind fun x88 =>
      some (x88, h2)
    else
    if a2 = 3 then
      (gR 5 0 t h2).bind fun x91 =>
      (gR 0 9 x91 h2).bind fun x94 =>
      (lI x94 a1 h2).bind fun x98 =>
      some (x98, h2)
    else
    if a2 = 4 then
      (gR 5 0 t h2).bind fun x101 =>
      (gI 0 5 x101 h2).bind fun x104 =>
      some ((x104 >>> (a1 &&& 31)) &&& 1, h2)
    else
    if a2 = 5 then
      (gR 5 0 t h2).bind fun x113 =>
      (gR 0 10 x113 h2).bind fun x116 =>
      (lI x116 a1 h2).bind fun x120 =>
      some (x120, h2)
    else
    if a2 = 6 then
      (gR 5 0 t h2).bind fun x123 =>
      ob (inv 0 x123 h2 (f_X0_repertoire x123 a1 h2)) fun x127 h127 =>
      some (x127, h127)
    else
    ob (inv 5 t h2 (f_X5_refuse t (-2) h2)) fun x134 h134 =>
    some (x134, h134)
  else
    ob (inv 5 t h2 (f_X5_refuse t (-2) h2)) fun x11 h11 =>
    some (x11, h11)
def f_X5_songOf (t : Nat) (a1 : Int32) (a2 : Int32) (h : HP) : Option (Int32 × HP) :=
  ob (inv 5 t h (f_X5_noSong t a1 h)) fun x2 h2 =>
  if x2 = 0 then
    if a2 = 0 then
      (gR 5 0 t h2).bind fun x53 =>
      (gR 0 11 x53 h2).bind fun x56 =>
      (lI x56 a1 h2).bind fun x60 =>
      some (x60, h2)
    else
    if a2 = 1 then
      (gR 5 0 t h2).bind fun x63 =>
      (gR 0 12 x63 h2).bind fun x66 =>
      (lI x66 a1 h2).bind fun x70 =>
      some (x70, h2)
    else
    if a2 = 2 then
      (gR 5 0 t h2).bind fun x73 =>
      (gR 0 13 x73 h2).bind fun x76 =>
      (lI x76 a1 h2).bind fun x80 =>
      some (x80, h2)
    else
    if a2 = 3 then
      (gR 5 0 t h2).bind fun x83 =>
      ob (inv 0 x83 h2 (f_X0_havers x83 a1 h2)) fun x87 h87 =>
      some (x87, h87)
    else
    if a2 = 4 then
      (gR 5 4 t h2).bind fun x92 =>
      (gR 5 0 t h2).bind fun x96 =>
      ob (inv 4 x92 h2 (f_X4_asDigits x92 x96 a1 h2)) fun x100 h100 =>
      some (x100, h100)
    else
    ob (inv 5 t h2 (f_X5_refuse t (-2) h2)) fun x107 h107 =>
    some (x107, h107)
  else
    ob (inv 5 t h2 (f_X5_refuse t (-2) h2)) fun x11 h11 =>
    some (x11, h11)
def f_X5_years (t : Nat) (a1 : Int32) (a2 : Int32) (h : HP) : Option (Int32 × HP) :=
  ob (inv 5 t h (f_X5_noPerson t a1 h)) fun x2 h2 =>
  if x2 = 0 then
    ob (inv 5 t h2 (f_X5_noSong t a2 h2)) fun x10 h10 =>
    if x10 = 0 then
      (gR 5 0 t h10).bind fun x24 =>
      ob (inv 0 x24 h10 (f_X0_heldFor x24 a1 a2 h10)) fun x29 h29 =>
      if x29 = (-1) then
        some (100, h29)
      else
        some (x29, h29)
    else
      ob (inv 5 t h10 (f_X5_refuse t (-2) h10)) fun x19 h19 =>
      some (x19, h19)
  else
    ob (inv 5 t h2 (f_X5_refuse t (-2) h2)) fun x19 h19 =>
    some (x19, h19)
def f_X5_hold (t : Nat) (a1 : Int32) (a2 : Int32) (h : HP) : Option (Int32 × HP) :=
  ob (inv 5 t h (f_X5_noPerson t a1 h)) fun x2 h2 =>
  if x2 = 0 then
    ob (inv 5 t h2 (f_X5_noSong t a2 h2)) fun x10 h10 =>
    if x10 = 0 then
      (gR 5 0 t h10).bind fun x24 =>
      (gR 5 0 t h10).bind fun x29 =>
      (gR 0 11 x29 h10).bind fun x32 =>
      (lI x32 a2 h10).bind fun x36 =>
      ob (inv 0 x24 h10 (f_X0_holdOn x24 a1 x36 h10)) fun x37 h37 =>
      some (x37, h37)
    else
      ob (inv 5 t h10 (f_X5_refuse t (-2) h10)) fun x19 h19 =>
      some (x19, h19)
  else
    ob (inv 5 t h2 (f_X5_refuse t (-2) h2)) fun x19 h19 =>
    some (x19, h19)
def f_X5_finder (t : Nat) (h : HP) : Option (Int32 × HP) :=
  (gR 5 0 t h).bind fun x1 =>
  ob (inv 0 x1 h (f_X0_bestMemory x1 h)) fun x4 h4 =>
  some (x4, h4)
def f_X5_songs (t : Nat) (a1 : Int32) (h : HP) : Option (Int32 × HP) :=
  ob (f_X5_outside a1 4 h) fun x2 h2 =>
  if x2 = 0 then
    if a1 = 0 then
      (gR 5 0 t h2).bind fun x20 =>
      ob (inv 0 x20 h2 (f_X0_knownSongs x20 h2)) fun x23 h23 =>
      some (x23, h23)
    else
      (gR 5 0 t h2).bind fun x30 =>
      ob (inv 0 x30 h2 (f_X0_songsOfState x30 (a1 - 1) h2)) fun x36 h36 =>
      some (x36, h36)
  else
    ob (inv 5 t h2 (f_X5_refuse t (-2) h2)) fun x11 h11 =>
    some (x11, h11)
def f_X5_people (t : Nat) (a1 : Int32) (h : HP) : Option (Int32 × HP) :=
  ob (f_X5_outside a1 2 h) fun x2 h2 =>
  if x2 = 0 then
    if a1 = 0 then
      (gR 5 0 t h2).bind fun x20 =>
      ob (inv 0 x20 h2 (f_X0_peopleWithNone x20 h2)) fun x23 h23 =>
      some (x23, h23)
    else
      (gR 5 0 t h2).bind fun x30 =>
      (gR 5 0 t h2).bind fun x34 =>
      ob (inv 0 x34 h2 (f_X0_knownSongs x34 h2)) fun x37 h37 =>
      ob (inv 0 x30 h37 (f_X0_peopleWithAll x30 x37 h37)) fun x40 h40 =>
      some (x40, h40)
  else
    ob (inv 5 t h2 (f_X5_refuse t (-2) h2)) fun x11 h11 =>
    some (x11, h11)
def f_X5_both (t : Nat) (a1 : Int32) (a2 : Int32) (h : HP) : Option (Int32 × HP) :=
  ob (inv 5 t h (f_X5_noPerson t a1 h)) fun x2 h2 =>
  if x2 = 0 then
    ob (inv 5 t h2 (f_X5_noPerson t a2 h2)) fun x10 h10 =>
    if x10 = 0 then
      if a1 = a2 then
        ob (inv 5 t h10 (f_X5_refuse t (-2) h10)) fun x24 h24 =>
        some (x24, h24)
      else
        (gR 5 0 t h10).bind fun x29 =>
        ob (inv 0 x29 h10 (f_X0_repertoire x29 a1 h10)) fun x33 h33 =>
        (gR 5 0 t h33).bind fun x37 =>
        ob (inv 0 x37 h33 (f_X0_repertoire x37 a2 h33)) fun x41 h41 =>
        some (x33 &&& x41, h41)
    else
      ob (inv 5 t h10 (f_X5_refuse t (-2) h10)) fun x24 h24 =>
      some (x24, h24)
  else
    ob (inv 5 t h2 (f_X5_refuse t (-2) h2)) fun x24 h24 =>
    some (x24, h24)
def f_X5_most (t : Nat) (a1 : Int32) (h : HP) : Option (Int32 × HP) :=
  ob (f_X5_outside a1 2 h) fun x2 h2 =>
  if x2 = 0 then
    if a1 = 0 then
      (gR 5 0 t h2).bind fun x20 =>
      ob (inv 0 x20 h2 (f_X0_mostHeld x20 h2)) fun x23 h23 =>
      some (x23, h23)
    else
      (gR 5 0 t h2).bind fun x30 =>
      ob (inv 0 x30 h2 (f_X0_leastHeld x30 h2)) fun x33 h33 =>
      some (x33, h33)
  else
    ob (inv 5 t h2 (f_X5_refuse t (-2) h2)) fun x11 h11 =>
    some (x11, h11)
def f_X5_table (t : Nat) (a1 : Int32) (h : HP) : Option (Int32 × HP) :=
  ob (inv 5 t h (f_X5_noPerson t a1 h)) fun x2 h2 =>
  if x2 = 0 then
    (gR 5 0 t h2).bind fun x18 =>
    ob (inv 0 x18 h2 (f_X0_tableOf x18 a1 h2)) fun x22 h22 =>
    some (x22, h22)
  else
    ob (inv 5 t h2 (f_X5_refuse t (-2) h2)) fun x11 h11 =>
    some (x11, h11)
def f_X5_weakest (t : Nat) (a1 : Int32) (h : HP) : Option (Int32 × HP) :=
  ob (inv 5 t h (f_X5_noSong t a1 h)) fun x2 h2 =>
  if x2 = 0 then
    (gR 5 0 t h2).bind fun x18 =>
    ob (inv 0 x18 h2 (f_X0_weakestOn x18 a1 h2)) fun x22 h22 =>
    some (x22, h22)
  else
    ob (inv 5 t h2 (f_X5_refuse t (-2) h2)) fun x11 h11 =>
    some (x11, h11)
def f_X5_ofKind (t : Nat) (a1 : Int32) (h : HP) : Option (Int32 × HP) :=
  ob (f_X5_outside a1 6 h) fun x3 h3 =>
  if x3 = 0 then
    (gR 5 0 t h3).bind fun x19 =>
    ob (inv 0 x19 h3 (f_X0_countKind x19 a1 h3)) fun x23 h23 =>
    some (x23, h23)
  else
    ob (inv 5 t h3 (f_X5_refuse t (-2) h3)) fun x12 h12 =>
    some (x12, h12)
def f_X5_behind (t : Nat) (a1 : Int32) (a2 : Int32) (a3 : Int32) (h : HP) : Option (Int32 × HP) :=
  ob (inv 5 t h (f_X5_noSong t a1 h)) fun x2 h2 =>
  if x2 = 0 then
    ob (f_X5_outside a2 61 h2) fun x11 h11 =>
    if x11 = 0 then
      ob (f_X5_outside a3 3 h11) fun x19 h19 =>
      if x19 = 0 then
        (gR 5 3 t h19).bind fun x33 =>
        (gR 5 0 t h19).bind fun x37 =>
        ob (inv 1 x33 h19 (f_X1_after x33 x37 a2 h19)) fun x41 h41 =>
        if a3 = 0 then
          ob (inv 0 x41 h41 (f_X0_havers x41 a1 h41)) fun x53 h53 =>
          some (x53, h53)
        else
          if a3 = 1 then
            (gR 0 13 x41 h41).bind fun x66 =>
            (lI x66 a1 h41).bind fun x70 =>
            some (x70, h41)
          else
            ob (inv 0 x41 h41 (f_X0_knownSongs x41 h41)) fun x76 h76 =>
            some (x76, h76)
      else
        ob (inv 5 t h19 (f_X5_refuse t (-2) h19)) fun x28 h28 =>
        some (x28, h28)
    else
      ob (inv 5 t h11 (f_X5_refuse t (-2) h11)) fun x28 h28 =>
      some (x28, h28)
  else
    ob (inv 5 t h2 (f_X5_refuse t (-2) h2)) fun x28 h28 =>
    some (x28, h28)
def f_X5_noneIfNever (a0 : Int32) (h : HP) : Option (Int32 × HP) :=
  if a0 = 61 then
    some ((-1), h)
  else
    some (a0, h)
def f_X5_lostIn (t : Nat) (a1 : Int32) (h : HP) : Option (Int32 × HP) :=
  ob (inv 5 t h (f_X5_noSong t a1 h)) fun x2 h2 =>
  if x2 = 0 then
    (gR 5 3 t h2).bind fun x18 =>
    (gR 5 0 t h2).bind fun x22 =>
    ob (inv 1 x18 h2 (f_X1_lossIn x18 x22 a1 h2)) fun x26 h26 =>
    ob (f_X5_noneIfNever x26 h26) fun x29 h29 =>
    some (x29, h29)
  else
    ob (inv 5 t h2 (f_X5_refuse t (-2) h2)) fun x11 h11 =>
    some (x11, h11)
def f_X5_sungIn (t : Nat) (a1 : Int32) (h : HP) : Option (Int32 × HP) :=
  ob (inv 5 t h (f_X5_noSong t a1 h)) fun x2 h2 =>
  if x2 = 0 then
    (gR 5 3 t h2).bind fun x18 =>
    (gR 5 0 t h2).bind fun x22 =>
    ob (inv 1 x18 h2 (f_X1_findIn x18 x22 a1 h2)) fun x26 h26 =>
    ob (f_X5_noneIfNever x26 h26) fun x29 h29 =>
    some (x29, h29)
  else
    ob (inv 5 t h2 (f_X5_refuse t (-2) h2)) fun x11 h11 =>
    some (x11, h11)
def f_X5_last (t : Nat) (a1 : Int32) (h : HP) : Option (Int32 × HP) :=
  ob (inv 5 t h (f_X5_noSong t a1 h)) fun x2 h2 =>
  if x2 = 0 then
    (gR 5 3 t h2).bind fun x18 =>
    (gR 5 0 t h2).bind fun x22 =>
    ob (inv 1 x18 h2 (f_X1_lastHavers x18 x22 a1 h2)) fun x26 h26 =>
    some (x26, h26)
  else
    ob (inv 5 t h2 (f_X5_refuse t (-2) h2)) fun x11 h11 =>
    some (x11, h11)
def f_X5_keep (t : Nat) (a1 : Int32) (h : HP) : Option (Int32 × HP) :=
  ob (inv 5 t h (f_X5_noSong t a1 h)) fun x2 h2 =>
  if x2 = 0 then
    (gR 5 3 t h2).bind fun x18 =>
    (gR 5 0 t h2).bind fun x22 =>
    ob (inv 1 x18 h2 (f_X1_neededAtTable x18 x22 a1 h2)) fun x26 h26 =>
    some (x26, h26)
  else
    ob (inv 5 t h2 (f_X5_refuse t (-2) h2)) fun x11 h11 =>
    some (x11, h11)
def f_X5_workFor (t : Nat) (a1 : Int32) (a2 : Int32) (h : HP) : Option (Int32 × HP) :=
  ob (inv 5 t h (f_X5_noSong t a1 h)) fun x2 h2 =>
  if x2 = 0 then
    ob (f_X5_outside a2 61 h2) fun x11 h11 =>
    if x11 = 0 then
      (gR 5 3 t h11).bind fun x25 =>
      (gR 5 0 t h11).bind fun x29 =>
      ob (inv 1 x25 h11 (f_X1_leastWork x25 x29 a1 a2 h11)) fun x34 h34 =>
      some (x34, h34)
    else
      ob (inv 5 t h11 (f_X5_refuse t (-2) h11)) fun x20 h20 =>
      some (x20, h20)
  else
    ob (inv 5 t h2 (f_X5_refuse t (-2) h2)) fun x20 h20 =>
    some (x20, h20)
def f_X5_teach (t : Nat) (a1 : Int32) (a2 : Int32) (h : HP) : Option (Int32 × HP) :=
  ob (inv 5 t h (f_X5_noSong t a1 h)) fun x2 h2 =>
  if x2 = 0 then
    ob (f_X5_outside a2 9 h2) fun x11 h11 =>
    if x11 = 0 then
      (gR 5 3 t h11).bind fun x25 =>
      (gR 5 0 t h11).bind fun x29 =>
      ob (inv 1 x25 h11 (f_X1_worstPupils x25 x29 a1 a2 h11)) fun x34 h34 =>
      some (x34, h34)
    else
      ob (inv 5 t h11 (f_X5_refuse t (-2) h11)) fun x20 h20 =>
      some (x20, h20)
  else
    ob (inv 5 t h2 (f_X5_refuse t (-2) h2)) fun x20 h20 =>
    some (x20, h20)
def f_X5_hummer (t : Nat) (a1 : Int32) (h : HP) : Option (Int32 × HP) :=
  ob (inv 5 t h (f_X5_noSong t a1 h)) fun x2 h2 =>
  if x2 = 0 then
    (gR 5 3 t h2).bind fun x18 =>
    (gR 5 0 t h2).bind fun x22 =>
    ob (inv 1 x18 h2 (f_X1_bestHummer x18 x22 a1 h2)) fun x26 h26 =>
    some (x26, h26)
  else
    ob (inv 5 t h2 (f_X5_refuse t (-2) h2)) fun x11 h11 =>
    some (x11, h11)
def f_X5_next (t : Nat) (h : HP) : Option (Int32 × HP) :=
  (gR 5 3 t h).bind fun x1 =>
  (gR 5 0 t h).bind fun x5 =>
  ob (inv 1 x1 h (f_X1_nextLost x1 x5 h)) fun x8 h8 =>
  some (x8, h8)
def f_X5_order (t : Nat) (a1 : Int32) (h : HP) : Option (Int32 × HP) :=
  ob (inv 5 t h (f_X5_noSong t a1 h)) fun x2 h2 =>
  if x2 = 0 then
    (gR 5 3 t h2).bind fun x18 =>
    (gR 5 0 t h2).bind fun x22 =>
    ob (inv 1 x18 h2 (f_X1_inOrder x18 x22 a1 h2)) fun x26 h26 =>
    some (x26, h26)
  else
    ob (inv 5 t h2 (f_X5_refuse t (-2) h2)) fun x11 h11 =>
    some (x11, h11)
def f_X5_fits (t : Nat) (a1 : Int32) (a2 : Int32) (a3 : Int32) (a4 : Int32) (h : HP) : Option (Int32 × HP) :=
  ob (f_X5_outside a1 8 h) fun x3 h3 =>
  if x3 = 0 then
    ob (f_X5_outside a2 13 h3) fun x12 h12 =>
    if x12 = 0 then
      ob (inv 5 t h12 (f_X5_noPerson t a3 h12)) fun x20 h20 =>
      if x20 = 0 then
        ob (f_X5_outside a4 2 h20) fun x29 h29 =>
        if x29 = 0 then
          (gR 5 6 t h29).bind fun x43 =>
          (lR 9 x43 a1 h29).bind fun x47 =>
          ob (inv 3 x47 h29 (f_X3_refusalAsTold x47 a2 h29)) fun x53 h53 =>
          if x53 = 0 then
            if a4 = 0 then
              (gR 5 3 t h53).bind fun x76 =>
              (gR 5 0 t h53).bind fun x80 =>
              ob (inv 1 x76 h53 (f_X1_memoriesBy x76 x80 x47 a2 a3 h53)) fun x87 h87 =>
              some (x87, h87)
            else
              (gR 5 3 t h53).bind fun x94 =>
              (gR 5 0 t h53).bind fun x98 =>
              ob (inv 1 x94 h53 (f_X1_kindsBy x94 x98 x47 a2 a3 h53)) fun x105 h105 =>
              some (x105, h105)
          else
            ob (inv 5 t h53 (f_X5_refuse t x53 h53)) fun x66 h66 =>
            some (x66, h66)
        else
          ob (inv 5 t h29 (f_X5_refuse t (-2) h29)) fun x38 h38 =>
          some (x38, h38)
      else
        ob (inv 5 t h20 (f_X5_refuse t (-2) h20)) fun x38 h38 =>
        some (x38, h38)
    else
      ob (inv 5 t h12 (f_X5_refuse t (-2) h12)) fun x38 h38 =>
      some (x38, h38)
  else
    ob (inv 5 t h3 (f_X5_refuse t (-2) h3)) fun x38 h38 =>
    some (x38, h38)
def f_X5_griefs (t : Nat) (a1 : Int32) (a2 : Int32) (a3 : Int32) (h : HP) : Option (Int32 × HP) :=
  ob (inv 5 t h (f_X5_noPerson t a1 h)) fun x2 h2 =>
  if x2 = 0 then
    ob (inv 5 t h2 (f_X5_noSong t a2 h2)) fun x10 h10 =>
    if x10 = 0 then
      ob (f_X5_outside a3 61 h10) fun x19 h19 =>
      if x19 = 0 then
        (gR 5 0 t h19).bind fun x33 =>
        ob (inv 0 x33 h19 (f_X0_heldFor x33 a1 a2 h19)) fun x38 h38 =>
        if x38 = (-1) then
          ob (inv 5 t h38 (f_X5_refuse t (-5) h38)) fun x48 h48 =>
          some (x48, h48)
        else
          (gR 5 3 t h38).bind fun x53 =>
          (gR 5 0 t h38).bind fun x57 =>
          ob (inv 1 x53 h38 (f_X1_leastGrief x53 x57 a1 a2 a3 h38)) fun x63 h63 =>
          some (x63, h63)
      else
        ob (inv 5 t h19 (f_X5_refuse t (-2) h19)) fun x28 h28 =>
        some (x28, h28)
    else
      ob (inv 5 t h10 (f_X5_refuse t (-2) h10)) fun x28 h28 =>
      some (x28, h28)
  else
    ob (inv 5 t h2 (f_X5_refuse t (-2) h2)) fun x28 h28 =>
    some (x28, h28)
def f_X5_forgets (t : Nat) (a1 : Int32) (a2 : Int32) (h : HP) : Option (Int32 × HP) :=
  ob (inv 5 t h (f_X5_noPerson t a1 h)) fun x2 h2 =>
  if x2 = 0 then
    ob (inv 5 t h2 (f_X5_noSong t a2 h2)) fun x10 h10 =>
    if x10 = 0 then
      (gR 5 3 t h10).bind fun x24 =>
      (gR 5 0 t h10).bind fun x28 =>
      ob (inv 1 x24 h10 (f_X1_forgetIn x24 x28 a1 a2 h10)) fun x33 h33 =>
      ob (f_X5_noneIfNever x33 h33) fun x36 h36 =>
      some (x36, h36)
    else
      ob (inv 5 t h10 (f_X5_refuse t (-2) h10)) fun x19 h19 =>
      some (x19, h19)
  else
    ob (inv 5 t h2 (f_X5_refuse t (-2) h2)) fun x19 h19 =>
    some (x19, h19)
def f_X5_judge (t : Nat) (a1 : Int32) (a2 : Int32) (h : HP) : Option (Int32 × HP) :=
  ob (f_X5_outside a1 8 h) fun x3 h3 =>
  if x3 = 0 then
    ob (f_X5_outside a2 41 h3) fun x12 h12 =>
    if x12 = 0 then
      (gR 5 6 t h12).bind fun x26 =>
      (lR 9 x26 a1 h12).bind fun x30 =>
      ob (inv 3 x30 h12 (f_X3_refusalAsTold x30 a2 h12)) fun x34 h34 =>
      if x34 = 0 then
        (gR 5 3 t h34).bind fun x54 =>
        (gR 5 0 t h34).bind fun x58 =>
        ob (inv 1 x54 h34 (f_X1_firstWrong x54 x58 x30 a2 h34)) fun x63 h63 =>
        some (x63, h63)
      else
        ob (inv 5 t h34 (f_X5_refuse t x34 h34)) fun x47 h47 =>
        some (x47, h47)
    else
      ob (inv 5 t h12 (f_X5_refuse t (-2) h12)) fun x21 h21 =>
      some (x21, h21)
  else
    ob (inv 5 t h3 (f_X5_refuse t (-2) h3)) fun x21 h21 =>
    some (x21, h21)
def f_X5_changes (t : Nat) (a1 : Int32) (a2 : Int32) (h : HP) : Option (Int32 × HP) :=
  ob (inv 5 t h (f_X5_noSong t a1 h)) fun x2 h2 =>
  if x2 = 0 then
    ob (inv 5 t h2 (f_X5_noSong t a2 h2)) fun x10 h10 =>
    if x10 = 0 then
      (gR 5 4 t h10).bind fun x24 =>
      (gR 5 0 t h10).bind fun x28 =>
      ob (inv 4 x24 h10 (f_X4_listenToSong x24 x28 a1 h10)) fun _ h32 =>
      (gR 5 4 t h32).bind fun x36 =>
      (gR 5 0 t h32).bind fun x40 =>
      ob (inv 4 x36 h32 (f_X4_changesTo x36 x40 a2 h32)) fun x44 h44 =>
      some (x44, h44)
    else
      ob (inv 5 t h10 (f_X5_refuse t (-2) h10)) fun x19 h19 =>
      some (x19, h19)
  else
    ob (inv 5 t h2 (f_X5_refuse t (-2) h2)) fun x19 h19 =>
    some (x19, h19)
def f_X5_join (t : Nat) (a1 : Int32) (a2 : Int32) (h : HP) : Option (Int32 × HP) :=
  ob (inv 5 t h (f_X5_noSong t a1 h)) fun x2 h2 =>
  if x2 = 0 then
    ob (inv 5 t h2 (f_X5_noSong t a2 h2)) fun x10 h10 =>
    if x10 = 0 then
      (gR 5 4 t h10).bind fun x26 =>
      (gR 5 0 t h10).bind fun x30 =>
      ob (inv 4 x26 h10 (f_X4_joined x26 x30 a1 a2 h10)) fun x35 h35 =>
      some (x35, h35)
    else
      ob (inv 5 t h10 (f_X5_refuse t (-2) h10)) fun x19 h19 =>
      some (x19, h19)
  else
    ob (inv 5 t h2 (f_X5_refuse t (-2) h2)) fun x19 h19 =>
    some (x19, h19)
def f_X5_like (t : Nat) (a1 : Int32) (a2 : Int32) (h : HP) : Option (Int32 × HP) :=
  ob (inv 5 t h (f_X5_noSong t a1 h)) fun x2 h2 =>
  if x2 = 0 then
    ob (inv 5 t h2 (f_X5_noSong t a2 h2)) fun x10 h10 =>
    if x10 = 0 then
      (gR 5 4 t h10).bind fun x26 =>
      (gR 5 0 t h10).bind fun x30 =>
      ob (inv 4 x26 h10 (f_X4_alike x26 x30 a1 a2 h10)) fun x35 h35 =>
      some (x35, h35)
    else
      ob (inv 5 t h10 (f_X5_refuse t (-2) h10)) fun x19 h19 =>
      some (x19, h19)
  else
    ob (inv 5 t h2 (f_X5_refuse t (-2) h2)) fun x19 h19 =>
    some (x19, h19)
def f_X5_nearest (t : Nat) (a1 : Int32) (a2 : Int32) (a3 : Int32) (h : HP) : Option (Int32 × HP) :=
  ob (f_X5_outside a1 8 h) fun x3 h3 =>
  if x3 = 0 then
    ob (f_X5_outside a2 9 h3) fun x12 h12 =>
    if x12 = 0 then
      ob (f_X5_outside a3 2 h12) fun x20 h20 =>
      if x20 = 0 then
        (gR 5 6 t h20).bind fun x34 =>
        (lR 9 x34 a1 h20).bind fun x38 =>
        ob (inv 3 x38 h20 (f_X3_refusalAsTold x38 a2 h20)) fun x44 h44 =>
        if x44 = 0 then
          (gR 5 4 t h44).bind fun x62 =>
          ob (inv 4 x62 h44 (f_X4_listenToRow x62 x38 a2 h44)) fun x68 h68 =>
          if x68 = 0 then
            ob (inv 5 t h68 (f_X5_refuse t (-5) h68)) fun x77 h77 =>
            some (x77, h77)
          else
            (gR 5 4 t h68).bind fun x82 =>
            (gR 5 0 t h68).bind fun x86 =>
            ob (inv 4 x82 h68 (f_X4_nearestSong x82 x86 h68)) fun x89 h89 =>
            if x89 = (-1) then
              some (x89, h89)
            else
              if a3 = 0 then
                some (x89, h89)
              else
                (gR 5 4 t h89).bind fun x110 =>
                (gR 5 0 t h89).bind fun x114 =>
                ob (inv 4 x110 h89 (f_X4_changesTo x110 x114 x89 h89)) fun x119 h119 =>
                some (x119, h119)
        else
          ob (inv 5 t h44 (f_X5_refuse t x44 h44)) fun x57 h57 =>
          some (x57, h57)
      else
        ob (inv 5 t h20 (f_X5_refuse t (-2) h20)) fun x29 h29 =>
        some (x29, h29)
    else
      ob (inv 5 t h12 (f_X5_refuse t (-2) h12)) fun x29 h29 =>
      some (x29, h29)
  else
    ob (inv 5 t h3 (f_X5_refuse t (-2) h3)) fun x29 h29 =>
    some (x29, h29)
def f_X5_pass (t : Nat) (h : HP) : Option (Int32 × HP) :=
  (gR 5 0 t h).bind fun x1 =>
  ob (inv 0 x1 h (f_X0_passYear x1 h)) fun x4 h4 =>
  (gR 5 0 t h4).bind fun x9 =>
  (gI 0 3 x9 h4).bind fun x12 =>
  some (x12, h4)
def f_X5_taught (t : Nat) (a1 : Int32) (a2 : Int32) (h : HP) : Option (Int32 × HP) :=
  ob (inv 5 t h (f_X5_noPerson t a1 h)) fun x2 h2 =>
  if x2 = 0 then
    ob (inv 5 t h2 (f_X5_noSong t a2 h2)) fun x10 h10 =>
    if x10 = 0 then
      (gR 5 0 t h10).bind fun x24 =>
      (gR 0 13 x24 h10).bind fun x27 =>
      (lI x27 a2 h10).bind fun x31 =>
      if x31 = 1 then
        ob (inv 5 t h10 (f_X5_refuse t (-5) h10)) fun x52 h52 =>
        some (x52, h52)
      else
        (gR 5 0 t h10).bind fun x37 =>
        ob (inv 0 x37 h10 (f_X0_heldFor x37 a1 a2 h10)) fun x42 h42 =>
        if x42 = (-1) then
          (gR 5 0 t h42).bind fun x57 =>
          ob (inv 0 x57 h42 (f_X0_setHeld x57 a1 a2 0 h42)) fun _ h63 =>
          (gR 5 0 t h63).bind fun x67 =>
          ob (inv 0 x67 h63 (f_X0_havers x67 a2 h63)) fun x71 h71 =>
          ob (f_J6_bitCount_0f7a4 x71 h71) fun x74 h74 =>
          some (x74, h74)
        else
          ob (inv 5 t h42 (f_X5_refuse t (-5) h42)) fun x52 h52 =>
          some (x52, h52)
    else
      ob (inv 5 t h10 (f_X5_refuse t (-2) h10)) fun x19 h19 =>
      some (x19, h19)
  else
    ob (inv 5 t h2 (f_X5_refuse t (-2) h2)) fun x19 h19 =>
    some (x19, h19)
def lb_X5_drawn_39 (a0 : Nat) (a1 : Int32) (K : Int32 → HP → Option (Int32 × HP)) (F : Int32 → Int32 → HP → Option (Int32 × HP)) (b2 : Int32) (b3 : Int32) (h : HP) : Option (Int32 × HP) :=
  if a1 ≤ b3 then
    K b2 h
  else
    (gR 5 0 a0 h).bind fun x46 =>
    ob (inv 0 x46 h (f_X0_passDrawnYear x46 h)) fun x49 h49 =>
    F (b2 + x49) (b3 + 1) h49
def lp_X5_drawn_39 (a0 : Nat) (a1 : Int32) (K : Int32 → HP → Option (Int32 × HP)) : Nat → Int32 → Int32 → HP → Option (Int32 × HP)
  | 0 => fun _ _ _ => none
  | k + 1 => lb_X5_drawn_39 a0 a1 K (lp_X5_drawn_39 a0 a1 K k)
def f_X5_drawn (t : Nat) (a1 : Int32) (h : HP) : Option (Int32 × HP) :=
  ob (f_X5_outside (a1 - 1) 60 h) fun x5 h5 =>
  if x5 = 0 then
    (gR 5 0 t h5).bind fun x19 =>
    (gI 0 0 x19 h5).bind fun x22 =>
    if x22 = 0 then
      ob (inv 5 t h5 (f_X5_refuse t (-5) h5)) fun x31 h31 =>
      some (x31, h31)
    else
      lp_X5_drawn_39 t a1 (fun b2_39 h39_ =>
        some (b2_39, h39_))
        1000 0 0 h5
  else
    ob (inv 5 t h5 (f_X5_refuse t (-2) h5)) fun x14 h14 =>
    some (x14, h14)
def f_X5_seed (t : Nat) (a1 : Int32) (h : HP) : Option (Int32 × HP) :=
  (gR 5 0 t h).bind fun x1 =>
  (gI 0 4 x1 h).bind fun x4 =>
  (gR 5 0 t h).bind fun x9 =>
  (pI 0 4 x9 a1 h).bind fun h13 =>
  some (x4, h13)
def f_X5_image (t : Nat) (h : HP) : Option (Int32 × HP) :=
  (gR 5 1 t h).bind fun x1 =>
  (gR 5 0 t h).bind fun x5 =>
  ob (inv 0 x1 h (f_X0_become x1 x5 h)) fun _ h8 =>
  (pZ 5 8 t 1 h8).bind fun h13 =>
  some (1, h13)
def lb_X5_back_27 (a0 : Nat) (K : HP → Option (Int32 × HP)) (F : Int32 → HP → Option (Int32 × HP)) (b1 : Int32) (h : HP) : Option (Int32 × HP) :=
  if 8 ≤ b1 then
    K h
  else
    (gR 5 6 a0 h).bind fun x34 =>
    (lR 9 x34 b1 h).bind fun x38 =>
    (gI 3 0 x38 h).bind fun x39 =>
    (gR 5 0 a0 h).bind fun x45 =>
    (gI 0 0 x45 h).bind fun x48 =>
    if x39 < (10 + x48) then
      F (b1 + 1) h
    else
      (gR 5 6 a0 h).bind fun x56 =>
      (lR 9 x56 b1 h).bind fun x60 =>
      (pI 3 0 x60 (-1) h).bind fun h62 =>
      F (b1 + 1) h62
def lp_X5_back_27 (a0 : Nat) (K : HP → Option (Int32 × HP)) : Nat → Int32 → HP → Option (Int32 × HP)
  | 0 => fun _ _ => none
  | k + 1 => lb_X5_back_27 a0 K (lp_X5_back_27 a0 K k)
def f_X5_back (t : Nat) (h : HP) : Option (Int32 × HP) :=
  (gI 5 8 t h).bind fun x1 =>
  if x1 = 0 then
    ob (inv 5 t h (f_X5_refuse t (-5) h)) fun x10 h10 =>
    some (x10, h10)
  else
    (gR 5 0 t h).bind fun x15 =>
    (gR 5 1 t h).bind fun x19 =>
    ob (inv 0 x15 h (f_X0_become x15 x19 h)) fun _ h22 =>
    lp_X5_back_27 t (fun h27_ =>
      some (1, h27_))
      1000 0 h22
def lb_X5_filledShelves_4 (a0 : Nat) (K : Int32 → HP → Option (Int32 × HP)) (F : Int32 → Int32 → HP → Option (Int32 × HP)) (b1 : Int32) (b2 : Int32) (h : HP) : Option (Int32 × HP) :=
  if 8 ≤ b2 then
    K b1 h
  else
    (gR 5 6 a0 h).bind fun x11 =>
    (lR 9 x11 b2 h).bind fun x15 =>
    (gI 3 0 x15 h).bind fun x16 =>
    if x16 = (-1) then
      F b1 (b2 + 1) h
    else
      F (b1 + 1) (b2 + 1) h
def lp_X5_filledShelves_4 (a0 : Nat) (K : Int32 → HP → Option (Int32 × HP)) : Nat → Int32 → Int32 → HP → Option (Int32 × HP)
  | 0 => fun _ _ _ => none
  | k + 1 => lb_X5_filledShelves_4 a0 K (lp_X5_filledShelves_4 a0 K k)
def f_X5_filledShelves (t : Nat) (h : HP) : Option (Int32 × HP) :=
  lp_X5_filledShelves_4 t (fun b1_4 h4_ =>
    some (b1_4, h4_))
    1000 0 0 h
def f_X5_status (t : Nat) (a1 : Int32) (h : HP) : Option (Int32 × HP) :=
  if a1 = 0 then
    (gR 5 0 t h).bind fun x49 =>
    (gI 0 0 x49 h).bind fun x52 =>
    some (x52, h)
  else
  if a1 = 1 then
    (gR 5 0 t h).bind fun x57 =>
    (gI 0 1 x57 h).bind fun x60 =>
    some (x60, h)
  else
  if a1 = 2 then
    (gR 5 0 t h).bind fun x65 =>
    (gI 0 2 x65 h).bind fun x68 =>
    some (x68, h)
  else
  if a1 = 3 then
    (gR 5 0 t h).bind fun x73 =>
    (gI 0 3 x73 h).bind fun x76 =>
    some (x76, h)
  else
  if a1 = 4 then
    (gR 5 0 t h).bind fun x81 =>
    ob (inv 0 x81 h (f_X0_knownSongs x81 h)) fun x84 h84 =>
    ob (f_J6_bitCount_0f7a4 x84 h84) fun x87 h87 =>
    some (x87, h87)
  else
  if a1 = 5 then
    (gR 5 5 t h).bind fun x92 =>
    (gI 2 2 x92 h).bind fun x95 =>
    some (x95, h)
  else
  if a1 = 6 then
    (gR 5 0 t h).bind fun x100 =>
    (gI 0 4 x100 h).bind fun x103 =>
    some (x103, h)
  else
  if a1 = 7 then
    ob (inv 5 t h (f_X5_filledShelves t h)) fun x108 h108 =>
    some (x108, h108)
  else
  ob (f_X5_outside (a1 - 12) 5 h) fun x117 h117 =>
  if x117 = 0 then
    (gR 5 7 t h117).bind fun x128 =>
    (lI x128 (a1 - 12) h117).bind fun x135 =>
    some (x135, h117)
  else
    some ((-1), h117)
def lb_X6_init_212 (a0 : Nat) (K : HP → Option (Unit × HP)) (F : Int32 → HP → Option (Unit × HP)) (b1 : Int32) (h : HP) : Option (Unit × HP) :=
  if 48 ≤ b1 then
    K h
  else
    (gR 6 23 a0 h).bind fun x219 =>
    (sI x219 b1 (-1) h).bind fun h224 =>
    F (b1 + 1) h224
def lp_X6_init_212 (a0 : Nat) (K : HP → Option (Unit × HP)) : Nat → Int32 → HP → Option (Unit × HP)
  | 0 => fun _ _ => none
  | k + 1 => lb_X6_init_212 a0 K (lp_X6_init_212 a0 K k)
def f_X6_init (t : Nat) (h : HP) : Option (Unit × HP) :=
  ob (mkA 7 8 h) fun x7 h7 =>
  (pR 6 0 t x7 h7).bind fun h9 =>
  ob (mkA 7 8 h9) fun x15 h15 =>
  (pR 6 1 t x15 h15).bind fun h17 =>
  ob (mkA 7 8 h17) fun x23 h23 =>
  (pR 6 2 t x23 h23).bind fun h25 =>
  ob (mkM 8 40 h25) fun x33 h33 =>
  (pR 6 3 t x33 h33).bind fun h37 =>
  ob (mkA 8 40 h37) fun x43 h43 =>
  (pR 6 4 t x43 h43).bind fun h45 =>
  ob (mkA 7 8 h45) fun x51 h51 =>
  (pR 6 5 t x51 h51).bind fun h53 =>
  ob (mkA 7 250 h53) fun x60 h60 =>
  (pR 6 6 t x60 h60).bind fun h62 =>
  ob (mkA 7 8 h62) fun x68 h68 =>
  (pR 6 8 t x68 h68).bind fun h70 =>
  (pI 6 9 t 3 h70).bind fun h75 =>
  ob (mkA 7 8 h75) fun x81 h81 =>
  (pR 6 14 t x81 h81).bind fun h83 =>
  ob (mkA 7 8 h83) fun x89 h89 =>
  (pR 6 15 t x89 h89).bind fun h91 =>
  ob (mkA 7 8 h91) fun x97 h97 =>
  (pR 6 16 t x97 h97).bind fun h99 =>
  ob (mkA 7 8 h99) fun x105 h105 =>
  (pR 6 17 t x105 h105).bind fun h107 =>
  ob (mkA 7 8 h107) fun x113 h113 =>
  (pR 6 18 t x113 h113).bind fun h115 =>
  ob (mkA 7 6 h115) fun x121 h121 =>
  (pR 6 19 t x121 h121).bind fun h123 =>
  ob (mkA 7 6 h123) fun x129 h129 =>
  (pR 6 20 t x129 h129).bind fun h131 =>
  ob (mkA 7 6 h131) fun x137 h137 =>
  (pR 6 21 t x137 h137).bind fun h139 =>
  ob (mkA 7 48 h139) fun x145 h145 =>
  (pR 6 22 t x145 h145).bind fun h147 =>
  ob (mkA 7 48 h147) fun x153 h153 =>
  (pR 6 23 t x153 h153).bind fun h155 =>
  (pI 6 24 t 1 h155).bind fun h160 =>
  ob (mkA 7 4 h160) fun x165 h165 =>
  (pR 6 33 t x165 h165).bind fun h167 =>
  ob (mkA 7 8 h167) fun x173 h173 =>
  (pR 6 35 t x173 h173).bind fun h175 =>
  ob (mkA 7 6 h175) fun x181 h181 =>
  (pR 6 37 t x181 h181).bind fun h183 =>
  ob (mkA 7 8 h183) fun x189 h189 =>
  (pR 6 38 t x189 h189).bind fun h191 =>
  ob (mkA 7 9 h191) fun x197 h197 =>
  (pR 6 39 t x197 h197).bind fun h199 =>
  ob (mkA 7 9 h199) fun x205 h205 =>
  (pR 6 40 t x205 h205).bind fun h207 =>
  lp_X6_init_212 t (fun h212_ =>
    some ((), h212_))
    1000 0 h207
def f_X6_refuse (t : Nat) (a1 : Int32) (h : HP) : Option (Int32 × HP) :=
  (gR 6 8 t h).bind fun x1 =>
  (lI x1 (-a1) h).bind fun x7 =>
  (sI x1 (-a1) (x7 + 1) h).bind fun h10 =>
  some (a1, h10)
def f_X6_in (a0 : Int64) (a2 : Int64) (a4 : Int64) (h : HP) : Option (Int32 × HP) :=
  if (lg_cmp a0 a2) < 0 then
    rZ 0 h
  else
    if 0 < (lg_cmp a0 a4) then
      rZ 0 h
    else
      rZ 1 h
def f_X6_isPerson (t : Nat) (a1 : Int32) (h : HP) : Option (Int32 × HP) :=
  (gI 6 11 t h).bind fun x4 =>
  ob (f_X6_in a1.toInt64 0 ((x4 - 1).toInt64) h) fun x10 h10 =>
  rZ x10 h10
def f_X6_isSong (t : Nat) (a1 : Int32) (h : HP) : Option (Int32 × HP) :=
  (gI 6 12 t h).bind fun x4 =>
  ob (f_X6_in a1.toInt64 0 ((x4 - 1).toInt64) h) fun x10 h10 =>
  rZ x10 h10
def f_X6_knowsIt (t : Nat) (a1 : Int32) (a2 : Int32) (h : HP) : Option (Int32 × HP) :=
  (gR 6 23 t h).bind fun x1 =>
  (lI x1 ((a1 * 6) + a2) h).bind fun x10 =>
  if x10 < 0 then
    rZ 0 h
  else
    rZ 1 h
def lb_X6_bits_4 (K : Int32 → HP → Option (Int32 × HP)) (F : Int32 → Int32 → HP → Option (Int32 × HP)) (b1 : Int32) (b2 : Int32) (h : HP) : Option (Int32 × HP) :=
  if b2 = 0 then
    K b1 h
  else
    F (b1 + 1) (b2 &&& (b2 - 1)) h
def lp_X6_bits_4 (K : Int32 → HP → Option (Int32 × HP)) : Nat → Int32 → Int32 → HP → Option (Int32 × HP)
  | 0 => fun _ _ _ => none
  | k + 1 => lb_X6_bits_4 K (lp_X6_bits_4 K k)
def f_X6_bits (a0 : Int32) (h : HP) : Option (Int32 × HP) :=
  lp_X6_bits_4 (fun b1_4 h4_ =>
    some (b1_4, h4_))
    1000 0 a0 h
def lb_X6_row_67 (a0 : Nat) (a1 : Int32) (K : HP → Option (Int32 × HP)) (F : Int32 → HP → Option (Int32 × HP)) (b4 : Int32) (h : HP) : Option (Int32 × HP) :=
  if 40 ≤ b4 then
    K h
  else
    (gR 6 3 a0 h).bind fun x75 =>
    (lR 10 x75 a1 h).bind fun x79 =>
    (sJ x79 b4 0 h).bind fun h83 =>
    F (b4 + 1) h83
def lp_X6_row_67 (a0 : Nat) (a1 : Int32) (K : HP → Option (Int32 × HP)) : Nat → Int32 → HP → Option (Int32 × HP)
  | 0 => fun _ _ => none
  | k + 1 => lb_X6_row_67 a0 a1 K (lp_X6_row_67 a0 a1 K k)
def f_X6_row (t : Nat) (a1 : Int32) (a2 : Int32) (a3 : Int32) (h : HP) : Option (Int32 × HP) :=
  ob (f_X6_in a1.toInt64 0 7 h) fun x6 h6 =>
  if x6 = 0 then
    ob (inv 6 t h6 (f_X6_refuse t (-2) h6)) fun x39 h39 =>
    some (x39, h39)
  else
    ob (f_X6_in a2.toInt64 0 4 h6) fun x18 h18 =>
    if x18 = 0 then
      ob (inv 6 t h18 (f_X6_refuse t (-2) h18)) fun x39 h39 =>
      some (x39, h39)
    else
      ob (f_X6_in a3.toInt64 0 40 h18) fun x30 h30 =>
      if x30 = 0 then
        ob (inv 6 t h30 (f_X6_refuse t (-2) h30)) fun x39 h39 =>
        some (x39, h39)
      else
        (gR 6 0 t h30).bind fun x44 =>
        (sI x44 a1 1 h30).bind fun h49 =>
        (gR 6 1 t h49).bind fun x51 =>
        (sI x51 a1 a2 h49).bind fun h56 =>
        (gR 6 2 t h56).bind fun x58 =>
        (sI x58 a1 a3 h56).bind fun h63 =>
        lp_X6_row_67 t a1 (fun h67_ =>
          some (1, h67_))
          1000 0 h63
def f_X6_fit (a0 : Int32) (a1 : Int64) (h : HP) : Option (Int64 × HP) :=
  if a0 = 0 then
    some (a1.toInt32.toInt8.toInt32.toInt64, h)
  else
  if a0 = 1 then
    some (a1.toInt32.toInt16.toInt32.toInt64, h)
  else
  if a0 = 2 then
    some (a1.toInt32.toInt64, h)
  else
  if a0 = 3 then
    some (a1, h)
  else
  if (lg_cmp a1 0) = 0 then
    some (0, h)
  else
    some (1, h)
def f_X6_noRow (t : Nat) (a1 : Int32) (h : HP) : Option (Int32 × HP) :=
  ob (f_X6_in a1.toInt64 0 7 h) fun x6 h6 =>
  if x6 = 0 then
    ob (inv 6 t h6 (f_X6_refuse t (-2) h6)) fun x15 h15 =>
    some (x15, h15)
  else
    (gR 6 0 t h6).bind fun x20 =>
    (lI x20 a1 h6).bind fun x24 =>
    if x24 = 2 then
      ob (inv 6 t h6 (f_X6_refuse t (-3) h6)) fun x32 h32 =>
      some (x32, h32)
    else
      (gR 6 0 t h6).bind fun x37 =>
      (lI x37 a1 h6).bind fun x41 =>
      if x41 = 0 then
        ob (inv 6 t h6 (f_X6_refuse t (-4) h6)) fun x48 h48 =>
        some (x48, h48)
      else
        some (0, h6)
def f_X6_set (t : Nat) (a1 : Int32) (a2 : Int32) (a3 : Int64) (h : HP) : Option (Int32 × HP) :=
  ob (inv 6 t h (f_X6_noRow t a1 h)) fun x2 h2 =>
  if x2 = 0 then
    (gR 6 2 t h2).bind fun x19 =>
    (lI x19 a1 h2).bind fun x23 =>
    ob (f_X6_in a2.toInt64 0 ((x23 - 1).toInt64) h2) fun x27 h27 =>
    if x27 = 0 then
      ob (inv 6 t h27 (f_X6_refuse t (-2) h27)) fun x36 h36 =>
      some (x36, h36)
    else
      (gR 6 3 t h27).bind fun x41 =>
      (lR 10 x41 a1 h27).bind fun x45 =>
      (gR 6 1 t h27).bind fun x48 =>
      (lI x48 a1 h27).bind fun x52 =>
      ob (f_X6_fit x52 a3 h27) fun x54 h54 =>
      (sJ x45 a2 x54 h54).bind fun h57 =>
      some (1, h57)
  else
    some (x2, h2)
def lb_X6_copy_191 (a0 : Nat) (a1 : Int32) (a2 : Int32) (a3 : Int32) (a4 : Int32) (a5 : Int32) (K : HP → Option (Int32 × HP)) (F : Int32 → HP → Option (Int32 × HP)) (b6 : Int32) (h : HP) : Option (Int32 × HP) :=
  if a5 ≤ b6 then
    K h
  else
    (gR 6 4 a0 h).bind fun x199 =>
    (gR 6 3 a0 h).bind fun x205 =>
    (lR 10 x205 a1 h).bind fun x209 =>
    (lJ x209 (a3 + b6) h).bind fun x214 =>
    (sJ x199 b6 x214 h).bind fun h215 =>
    F (b6 + 1) h215
def lp_X6_copy_191 (a0 : Nat) (a1 : Int32) (a2 : Int32) (a3 : Int32) (a4 : Int32) (a5 : Int32) (K : HP → Option (Int32 × HP)) : Nat → Int32 → HP → Option (Int32 × HP)
  | 0 => fun _ _ => none
  | k + 1 => lb_X6_copy_191 a0 a1 a2 a3 a4 a5 K (lp_X6_copy_191 a0 a1 a2 a3 a4 a5 K k)
def lb_X6_copy_225 (a0 : Nat) (a2 : Int32) (a4 : Int32) (a5 : Int32) (K : HP → Option (Int32 × HP)) (F : Int32 → HP → Option (Int32 × HP)) (b6 : Int32) (h : HP) : Option (Int32 × HP) :=
  if a5 ≤ b6 then
    K h
  else
    (gR 6 3 a0 h).bind fun x233 =>
    (lR 10 x233 a2 h).bind fun x237 =>
    (gR 6 4 a0 h).bind fun x244 =>
    (lJ x244 b6 h).bind fun x249 =>
    (sJ x237 (a4 + b6) x249 h).bind fun h250 =>
    F (b6 + 1) h250
def lp_X6_copy_225 (a0 : Nat) (a2 : Int32) (a4 : Int32) (a5 : Int32) (K : HP → Option (Int32 × HP)) : Nat → Int32 → HP → Option (Int32 × HP)
  | 0 => fun _ _ => none
  | k + 1 => lb_X6_copy_225 a0 a2 a4 a5 K (lp_X6_copy_225 a0 a2 a4 a5 K k)
def f_X6_copy (t : Nat) (a1 : Int32) (a2 : Int32) (a3 : Int32) (a4 : Int32) (a5 : Int32) (h : HP) : Option (Int32 × HP) :=
  ob (f_X6_in a1.toInt64 0 7 h) fun x6 h6 =>
  if x6 = 0 then
    ob (inv 6 t h6 (f_X6_refuse t (-2) h6)) fun x27 h27 =>
    some (x27, h27)
  else
    ob (f_X6_in a2.toInt64 0 7 h6) fun x18 h18 =>
    if x18 = 0 then
      ob (inv 6 t h18 (f_X6_refuse t (-2) h18)) fun x27 h27 =>
      some (x27, h27)
    else
      (gR 6 0 t h18).bind fun x32 =>
      (lI x32 a1 h18).bind fun x36 =>
      if x36 = 2 then
        ob (inv 6 t h18 (f_X6_refuse t (-3) h18)) fun x89 h89 =>
        some (x89, h89)
      else
        (gR 6 0 t h18).bind fun x42 =>
        (lI x42 a2 h18).bind fun x46 =>
        if x46 = 2 then
          ob (inv 6 t h18 (f_X6_refuse t (-3) h18)) fun x89 h89 =>
          some (x89, h89)
        else
          (gR 6 0 t h18).bind fun x52 =>
          (lI x52 a1 h18).bind fun x56 =>
          if x56 = 1 then
            (gR 6 0 t h18).bind fun x62 =>
            (lI x62 a2 h18).bind fun x66 =>
            if x66 = 1 then
              (gR 6 1 t h18).bind fun x72 =>
              (lI x72 a1 h18).bind fun x76 =>
              (gR 6 1 t h18).bind fun x78 =>
              (lI x78 a2 h18).bind fun x82 =>
              if x76 = x82 then
                (gR 6 0 t h18).bind fun x94 =>
                (lI x94 a1 h18).bind fun x98 =>
                if x98 = 0 then
                  ob (inv 6 t h18 (f_X6_refuse t (-4) h18)) fun x114 h114 =>
                  some (x114, h114)
                else
                  (gR 6 0 t h18).bind fun x103 =>
                  (lI x103 a2 h18).bind fun x107 =>
                  if x107 = 0 then
                    ob (inv 6 t h18 (f_X6_refuse t (-4) h18)) fun x114 h114 =>
                    some (x114, h114)
                  else
                    if a5 < 0 then
                      ob (inv 6 t h18 (f_X6_refuse t (-2) h18)) fun x184 h184 =>
                      some (x184, h184)
                    else
                      if a3 < 0 then
                        ob (inv 6 t h18 (f_X6_refuse t (-2) h18)) fun x184 h184 =>
                        some (x184, h184)
                      else
                        if a4 < 0 then
                          ob (inv 6 t h18 (f_X6_refuse t (-2) h18)) fun x184 h184 =>
                          some (x184, h184)
                        else
                          (gR 6 2 t h18).bind fun x135 =>
                          (lI x135 a1 h18).bind fun x139 =>
                          if x139 < a5 then
                            ob (inv 6 t h18 (f_X6_refuse t (-2) h18)) fun x184 h184 =>
                            some (x184, h184)
                          else
                            (gR 6 2 t h18).bind fun x146 =>
                            (lI x146 a2 h18).bind fun x150 =>
                            if x150 < a5 then
                              ob (inv 6 t h18 (f_X6_refuse t (-2) h18)) fun x184 h184 =>
                              some (x184, h184)
                            else
                              (gR 6 2 t h18).bind fun x156 =>
                              (lI x156 a1 h18).bind fun x160 =>
                              if (x160 - a5) < a3 then
                                ob (inv 6 t h18 (f_X6_refuse t (-2) h18)) fun x184 h184 =>
                                some (x184, h184)
                              else
                                (gR 6 2 t h18).bind fun x170 =>
                                (lI x170 a2 h18).bind fun x174 =>
                                if a4 ≤ (x174 - a5) then
                                  lp_X6_copy_191 t a1 a2 a3 a4 a5 (fun h191_ =>
                                    lp_X6_copy_225 t a2 a4 a5 (fun h225_ =>
                                      some (a5, h225_))
                                      1000 0 h191_)
                                    1000 0 h18
                                else
                                  ob (inv 6 t h18 (f_X6_refuse t (-2) h18)) fun x184 h184 =>
                                  some (x184, h184)
              else
                ob (inv 6 t h18 (f_X6_refuse t (-3) h18)) fun x89 h89 =>
                some (x89, h89)
            else
              (gR 6 0 t h18).bind fun x94 =>
              (lI x94 a1 h18).bind fun x98 =>
              if x98 = 0 then
                ob (inv 6 t h18 (f_X6_refuse t (-4) h18)) fun x114 h114 =>
                some (x114, h114)
              else
                (gR 6 0 t h18).bind fun x103 =>
                (lI x103 a2 h18).bind fun x107 =>
                if x107 = 0 then
                  ob (inv 6 t h18 (f_X6_refuse t (-4) h18)) fun x114 h114 =>
                  some (x114, h114)
                else
                  if a5 < 0 then
                    ob (inv 6 t h18 (f_X6_refuse t (-2) h18)) fun x184 h184 =>
                    some (x184, h184)
                  else
                    if a3 < 0 then
                      ob (inv 6 t h18 (f_X6_refuse t (-2) h18)) fun x184 h184 =>
                      some (x184, h184)
                    else
                      if a4 < 0 then
                        ob (inv 6 t h18 (f_X6_refuse t (-2) h18)) fun x184 h184 =>
                        some (x184, h184)
                      else
                        (gR 6 2 t h18).bind fun x135 =>
                        (lI x135 a1 h18).bind fun x139 =>
                        if x139 < a5 then
                          ob (inv 6 t h18 (f_X6_refuse t (-2) h18)) fun x184 h184 =>
                          some (x184, h184)
                        else
                          (gR 6 2 t h18).bind fun x146 =>
                          (lI x146 a2 h18).bind fun x150 =>
                          if x150 < a5 then
                            ob (inv 6 t h18 (f_X6_refuse t (-2) h18)) fun x184 h184 =>
                            some (x184, h184)
                          else
                            (gR 6 2 t h18).bind fun x156 =>
                            (lI x156 a1 h18).bind fun x160 =>
                            if (x160 - a5) < a3 then
                              ob (inv 6 t h18 (f_X6_refuse t (-2) h18)) fun x184 h184 =>
                              some (x184, h184)
                            else
                              (gR 6 2 t h18).bind fun x170 =>
                              (lI x170 a2 h18).bind fun x174 =>
                              if a4 ≤ (x174 - a5) then
                                lp_X6_copy_191 t a1 a2 a3 a4 a5 (fun h191_ =>
                                  lp_X6_copy_225 t a2 a4 a5 (fun h225_ =>
                                    some (a5, h225_))
                                    1000 0 h191_)
                                  1000 0 h18
                              else
                                ob (inv 6 t h18 (f_X6_refuse t (-2) h18)) fun x184 h184 =>
                                some (x184, h184)
          else
            (gR 6 0 t h18).bind fun x94 =>
            (lI x94 a1 h18).bind fun x98 =>
            if x98 = 0 then
              ob (inv 6 t h18 (f_X6_refuse t (-4) h18)) fun x114 h114 =>
              some (x114, h114)
            else
              (gR 6 0 t h18).bind fun x103 =>
              (lI x103 a2 h18).bind fun x107 =>
              if x107 = 0 then
                ob (inv 6 t h18 (f_X6_refuse t (-4) h18)) fun x114 h114 =>
                some (x114, h114)
              else
                if a5 < 0 then
                  ob (inv 6 t h18 (f_X6_refuse t (-2) h18)) fun x184 h184 =>
                  some (x184, h184)
                else
                  if a3 < 0 then
                    ob (inv 6 t h18 (f_X6_refuse t (-2) h18)) fun x184 h184 =>
                    some (x184, h184)
                  else
                    if a4 < 0 then
                      ob (inv 6 t h18 (f_X6_refuse t (-2) h18)) fun x184 h184 =>
                      some (x184, h184)
                    else
                      (gR 6 2 t h18).bind fun x135 =>
                      (lI x135 a1 h18).bind fun x139 =>
                      if x139 < a5 then
                        ob (inv 6 t h18 (f_X6_refuse t (-2) h18)) fun x184 h184 =>
                        some (x184, h184)
                      else
                        (gR 6 2 t h18).bind fun x146 =>
                        (lI x146 a2 h18).bind fun x150 =>
                        if x150 < a5 then
                          ob (inv 6 t h18 (f_X6_refuse t (-2) h18)) fun x184 h184 =>
                          some (x184, h184)
                        else
                          (gR 6 2 t h18).bind fun x156 =>
                          (lI x156 a1 h18).bind fun x160 =>
                          if (x160 - a5) < a3 then
                            ob (inv 6 t h18 (f_X6_refuse t (-2) h18)) fun x184 h184 =>
                            some (x184, h184)
                          else
                            (gR 6 2 t h18).bind fun x170 =>
                            (lI x170 a2 h18).bind fun x174 =>
                            if a4 ≤ (x174 - a5) then
                              lp_X6_copy_191 t a1 a2 a3 a4 a5 (fun h191_ =>
                                lp_X6_copy_225 t a2 a4 a5 (fun h225_ =>
                                  some (a5, h225_))
                                  1000 0 h191_)
                                1000 0 h18
                            else
                              ob (inv 6 t h18 (f_X6_refuse t (-2) h18)) fun x184 h184 =>
                              some (x184, h184)
def f_X6_element (t : Nat) (a1 : Int32) (a2 : Int32) (h : HP) : Option (Int64 × HP) :=
  ob (f_X6_in a1.toInt64 0 7 h) fun x6 h6 =>
  if x6 = 0 then
    some (0, h6)
  else
    (gR 6 0 t h6).bind fun x13 =>
    (lI x13 a1 h6).bind fun x17 =>
    if x17 = 1 then
      (gR 6 2 t h6).bind fun x26 =>
      (lI x26 a1 h6).bind fun x30 =>
      ob (f_X6_in a2.toInt64 0 ((x30 - 1).toInt64) h6) fun x34 h34 =>
      if x34 = 0 then
        some (0, h34)
      else
        (gR 6 3 t h34).bind fun x41 =>
        (lR 10 x41 a1 h34).bind fun x45 =>
        (lJ x45 a2 h34).bind fun x47 =>
        some (x47, h34)
    else
      some (0, h6)
def f_X6_holds (t : Nat) (a1 : Int32) (h : HP) : Option (Int32 × HP) :=
  ob (f_X6_in a1.toInt64 0 7 h) fun x6 h6 =>
  if x6 = 0 then
    some ((-1), h6)
  else
    (gR 6 0 t h6).bind fun x13 =>
    (lI x13 a1 h6).bind fun x17 =>
    if x17 = 0 then
      some ((-1), h6)
    else
      (gR 6 0 t h6).bind fun x24 =>
      (lI x24 a1 h6).bind fun x28 =>
      if x28 = 1 then
        (gR 6 1 t h6).bind fun x34 =>
        (lI x34 a1 h6).bind fun x38 =>
        some (x38, h6)
      else
        (gR 6 5 t h6).bind fun x45 =>
        (lI x45 a1 h6).bind fun x49 =>
        some (10 + x49, h6)
def f_X6_show (t : Nat) (a1 : Int32) (a2 : Int32) (h : HP) : Option (Int32 × HP) :=
  ob (f_X6_in a1.toInt64 0 7 h) fun x6 h6 =>
  if x6 = 0 then
    ob (inv 6 t h6 (f_X6_refuse t (-2) h6)) fun x28 h28 =>
    some (x28, h28)
  else
    if a2 = (-1) then
      (gR 6 0 t h6).bind fun x33 =>
      (sI x33 a1 0 h6).bind fun h47 =>
      (gR 6 5 t h47).bind fun x49 =>
      (sI x49 a1 a2 h47).bind fun h54 =>
      some (1, h54)
    else
      ob (inv 6 t h6 (f_X6_isPerson t a2 h6)) fun x19 h19 =>
      if x19 = 0 then
        ob (inv 6 t h19 (f_X6_refuse t (-2) h19)) fun x28 h28 =>
        some (x28, h28)
      else
        (gR 6 0 t h19).bind fun x33 =>
        (sI x33 a1 2 h19).bind fun h47 =>
        (gR 6 5 t h47).bind fun x49 =>
        (sI x49 a1 a2 h47).bind fun h54 =>
        some (1, h54)
def f_X6_isUnder (a0 : Int32) (a1 : Int32) (h : HP) : Option (Int32 × HP) :=
  if a1 = 0 then
    rZ 1 h
  else
    if a0 = a1 then
      rZ 1 h
    else
      if a1 = 1 then
        if a0 = 3 then
          rZ 1 h
        else
          rZ 0 h
      else
        if a1 = 2 then
          if a0 = 4 then
            rZ 1 h
          else
            rZ 0 h
        else
          rZ 0 h
def f_X6_held (a0 : Int32) (h : HP) : Option (Int32 × HP) :=
  if 0 ≤ a0 then
    some (a0, h)
  else
    some (0, h)
def f_X6_holdBy (t : Nat) (a1 : Int32) (a2 : Int32) (h : HP) : Option (Int32 × HP) :=
  (gR 6 16 t h).bind fun x1 =>
  (lI x1 a1 h).bind fun x5 =>
  (gR 6 17 t h).bind fun x9 =>
  (lI x9 a1 h).bind fun x13 =>
  ob (f_X6_held ((x5 + a2) - x13) h) fun x15 h15 =>
  (gR 6 14 t h15).bind fun x20 =>
  (lI x20 a1 h15).bind fun x24 =>
  if x24 = 1 then
    (gR 6 15 t h15).bind fun x62 =>
    (lI x62 a1 h15).bind fun x66 =>
    ob (f_X6_held (x15 - x66) h15) fun x68 h68 =>
    some (x68, h68)
  else
  if x24 = 2 then
    (gI 6 9 t h15).bind fun x90 =>
    ob (f_X6_held (x15 - x90) h15) fun x94 h94 =>
    some (x94, h94)
  else
  if x24 = 3 then
    (gR 6 15 t h15).bind fun x74 =>
    (lI x74 a1 h15).bind fun x78 =>
    ob (f_X6_held (x15 - x78) h15) fun x80 h80 =>
    (dz 2).bind fun _ =>
    some ((x80 + 1) / 2, h80)
  else
  if x24 = 4 then
    (gI 6 9 t h15).bind fun x100 =>
    ob (f_X6_held (x15 - x100) h15) fun x104 h104 =>
    some (x104 + 5, h104)
  else
  if x24 = 5 then
    some (2 * x15, h15)
  else
  some (x15, h15)
def f_X6_says (t : Nat) (a1 : Int32) (a2 : Int32) (h : HP) : Option (Int32 × HP) :=
  ob (f_X6_in a1.toInt64 0 7 h) fun x6 h6 =>
  if x6 = 0 then
    ob (inv 6 t h6 (f_X6_refuse t (-2) h6)) fun x27 h27 =>
    some (x27, h27)
  else
    ob (f_X6_in a2.toInt64 0 5 h6) fun x18 h18 =>
    if x18 = 0 then
      ob (inv 6 t h18 (f_X6_refuse t (-2) h18)) fun x27 h27 =>
      some (x27, h27)
    else
      (gR 6 0 t h18).bind fun x32 =>
      (lI x32 a1 h18).bind fun x36 =>
      if x36 = 1 then
        ob (inv 6 t h18 (f_X6_refuse t (-3) h18)) fun x72 h72 =>
        some (x72, h72)
      else
        (gR 6 0 t h18).bind fun x42 =>
        (lI x42 a1 h18).bind fun x46 =>
        if x46 = 2 then
          (gR 6 14 t h18).bind fun x52 =>
          (gR 6 5 t h18).bind fun x56 =>
          (lI x56 a1 h18).bind fun x60 =>
          (lI x52 x60 h18).bind fun x61 =>
          ob (f_X6_isUnder x61 a2 h18) fun x63 h63 =>
          if x63 = 0 then
            ob (inv 6 t h63 (f_X6_refuse t (-3) h63)) fun x72 h72 =>
            some (x72, h72)
          else
            (gR 6 0 t h63).bind fun x77 =>
            (lI x77 a1 h63).bind fun x81 =>
            if x81 = 0 then
              ob (inv 6 t h63 (f_X6_refuse t (-4) h63)) fun x88 h88 =>
              some (x88, h88)
            else
              if a2 = 0 then
                (gR 6 16 t h63).bind fun x97 =>
                (gR 6 5 t h63).bind fun x101 =>
                (lI x101 a1 h63).bind fun x105 =>
                (lI x97 x105 h63).bind fun x106 =>
                some (x106, h63)
              else
                (gR 6 5 t h63).bind fun x112 =>
                (lI x112 a1 h63).bind fun x116 =>
                ob (inv 6 t h63 (f_X6_holdBy t x116 0 h63)) fun x118 h118 =>
                some (x118, h118)
        else
          (gR 6 0 t h18).bind fun x77 =>
          (lI x77 a1 h18).bind fun x81 =>
          if x81 = 0 then
            ob (inv 6 t h18 (f_X6_refuse t (-4) h18)) fun x88 h88 =>
            some (x88, h88)
          else
            if a2 = 0 then
              (gR 6 16 t h18).bind fun x97 =>
              (gR 6 5 t h18).bind fun x101 =>
              (lI x101 a1 h18).bind fun x105 =>
              (lI x97 x105 h18).bind fun x106 =>
              some (x106, h18)
            else
              (gR 6 5 t h18).bind fun x112 =>
              (lI x112 a1 h18).bind fun x116 =>
              ob (inv 6 t h18 (f_X6_holdBy t x116 0 h18)) fun x118 h118 =>
              some (x118, h118)
def lb_X6_addPerson_71 (a0 : Nat) (K : HP → Option (Unit × HP)) (F : Int32 → HP → Option (Unit × HP)) (b5 : Int32) (h : HP) : Option (Unit × HP) :=
  if 6 ≤ b5 then
    K h
  else
    (gR 6 23 a0 h).bind fun x79 =>
    (gI 6 11 a0 h).bind fun x83 =>
    (sI x79 ((x83 * 6) + b5) (-1) h).bind fun h93 =>
    F (b5 + 1) h93
def lp_X6_addPerson_71 (a0 : Nat) (K : HP → Option (Unit × HP)) : Nat → Int32 → HP → Option (Unit × HP)
  | 0 => fun _ _ => none
  | k + 1 => lb_X6_addPerson_71 a0 K (lp_X6_addPerson_71 a0 K k)
def f_X6_addPerson (t : Nat) (a1 : Int32) (a2 : Int32) (a3 : Int32) (a4 : Int32) (h : HP) : Option (Unit × HP) :=
  (gR 6 14 t h).bind fun x1 =>
  (gI 6 11 t h).bind fun x5 =>
  (sI x1 x5 a1 h).bind fun h9 =>
  (gR 6 15 t h9).bind fun x11 =>
  (gI 6 11 t h9).bind fun x15 =>
  (sI x11 x15 a2 h9).bind fun h19 =>
  (gR 6 16 t h19).bind fun x21 =>
  (gI 6 11 t h19).bind fun x25 =>
  (sI x21 x25 a3 h19).bind fun h29 =>
  (gR 6 17 t h29).bind fun x31 =>
  (gI 6 11 t h29).bind fun x35 =>
  (sI x31 x35 a4 h29).bind fun h40 =>
  (gR 6 18 t h40).bind fun x42 =>
  (gI 6 11 t h40).bind fun x46 =>
  (sI x42 x46 0 h40).bind fun h50 =>
  (gI 6 13 t h50).bind fun x53 =>
  (gI 6 11 t h50).bind fun x58 =>
  (pI 6 13 t (x53 &&& ((1 <<< (x58 &&& 31)) ^^^ (-1))) h50).bind fun h65 =>
  lp_X6_addPerson_71 t (fun h71_ =>
    (gI 6 11 t h71_).bind fun x102 =>
    (pI 6 11 t (x102 + 1) h71_).bind fun h107 =>
    some ((), h107))
    1000 0 h65
def f_X6_person (t : Nat) (a1 : Int32) (a2 : Int32) (a3 : Int32) (a4 : Int32) (h : HP) : Option (Int32 × HP) :=
  ob (f_X6_in a1.toInt64 0 5 h) fun x6 h6 =>
  if x6 = 0 then
    ob (inv 6 t h6 (f_X6_refuse t (-2) h6)) fun x52 h52 =>
    some (x52, h52)
  else
    ob (f_X6_in a2.toInt64 0 9 h6) fun x18 h18 =>
    if x18 = 0 then
      ob (inv 6 t h18 (f_X6_refuse t (-2) h18)) fun x52 h52 =>
      some (x52, h52)
    else
      ob (f_X6_in a3.toInt64 0 9 h18) fun x30 h30 =>
      if x30 = 0 then
        ob (inv 6 t h30 (f_X6_refuse t (-2) h30)) fun x52 h52 =>
        some (x52, h52)
      else
        ob (f_X6_in a4.toInt64 0 9 h30) fun x43 h43 =>
        if x43 = 0 then
          ob (inv 6 t h43 (f_X6_refuse t (-2) h43)) fun x52 h52 =>
          some (x52, h52)
        else
          (gI 6 11 t h43).bind fun x57 =>
          if x57 = 8 then
            ob (inv 6 t h43 (f_X6_refuse t (-6) h43)) fun x68 h68 =>
            some (x68, h68)
          else
            ob (inv 6 t h43 (f_X6_addPerson t a1 a2 a3 a4 h43)) fun _ h78 =>
            (gI 6 11 t h78).bind fun x82 =>
            some (x82 - 1, h78)
def lb_X6_addSong_32 (a0 : Nat) (K : HP → Option (Unit × HP)) (F : Int32 → HP → Option (Unit × HP)) (b3 : Int32) (h : HP) : Option (Unit × HP) :=
  if 8 ≤ b3 then
    K h
  else
    (gR 6 22 a0 h).bind fun x39 =>
    (gI 6 12 a0 h).bind fun x43 =>
    (sI x39 ((x43 * 8) + b3) 0 h).bind fun h52 =>
    F (b3 + 1) h52
def lp_X6_addSong_32 (a0 : Nat) (K : HP → Option (Unit × HP)) : Nat → Int32 → HP → Option (Unit × HP)
  | 0 => fun _ _ => none
  | k + 1 => lb_X6_addSong_32 a0 K (lp_X6_addSong_32 a0 K k)
def lb_X6_addSong_61 (a0 : Nat) (K : HP → Option (Unit × HP)) (F : Int32 → HP → Option (Unit × HP)) (b3 : Int32) (h : HP) : Option (Unit × HP) :=
  if 8 ≤ b3 then
    K h
  else
    (gR 6 23 a0 h).bind fun x68 =>
    (gI 6 12 a0 h).bind fun x76 =>
    (sI x68 ((b3 * 6) + x76) (-1) h).bind fun h81 =>
    F (b3 + 1) h81
def lp_X6_addSong_61 (a0 : Nat) (K : HP → Option (Unit × HP)) : Nat → Int32 → HP → Option (Unit × HP)
  | 0 => fun _ _ => none
  | k + 1 => lb_X6_addSong_61 a0 K (lp_X6_addSong_61 a0 K k)
def f_X6_addSong (t : Nat) (a1 : Int32) (a2 : Int32) (h : HP) : Option (Unit × HP) :=
  (gR 6 19 t h).bind fun x1 =>
  (gI 6 12 t h).bind fun x5 =>
  (sI x1 x5 a1 h).bind fun h9 =>
  (gR 6 20 t h9).bind fun x11 =>
  (gI 6 12 t h9).bind fun x15 =>
  (sI x11 x15 a2 h9).bind fun h19 =>
  (gR 6 21 t h19).bind fun x21 =>
  (gI 6 12 t h19).bind fun x25 =>
  (sI x21 x25 0 h19).bind fun h29 =>
  lp_X6_addSong_32 t (fun h32_ =>
    lp_X6_addSong_61 t (fun h61_ =>
      (gI 6 12 t h61_).bind fun x90 =>
      (pI 6 12 t (x90 + 1) h61_).bind fun h95 =>
      some ((), h95))
      1000 0 h32_)
    1000 0 h29
def f_X6_song (t : Nat) (a1 : Int32) (a2 : Int32) (h : HP) : Option (Int32 × HP) :=
  ob (f_X6_in a1.toInt64 0 9 h) fun x6 h6 =>
  if x6 = 0 then
    ob (inv 6 t h6 (f_X6_refuse t (-2) h6)) fun x27 h27 =>
    some (x27, h27)
  else
    ob (f_X6_in a2.toInt64 0 4 h6) fun x18 h18 =>
    if x18 = 0 then
      ob (inv 6 t h18 (f_X6_refuse t (-2) h18)) fun x27 h27 =>
      some (x27, h27)
    else
      (gI 6 12 t h18).bind fun x32 =>
      if x32 = 6 then
        ob (inv 6 t h18 (f_X6_refuse t (-6) h18)) fun x43 h43 =>
        some (x43, h43)
      else
        ob (inv 6 t h18 (f_X6_addSong t a1 a2 h18)) fun _ h50 =>
        (gI 6 12 t h50).bind fun x54 =>
        some (x54 - 1, h50)
def f_X6_give (t : Nat) (a1 : Int32) (a2 : Int32) (a3 : Int32) (h : HP) : Option (Int32 × HP) :=
  ob (inv 6 t h (f_X6_isPerson t a1 h)) fun x2 h2 =>
  if x2 = 0 then
    ob (inv 6 t h2 (f_X6_refuse t (-2) h2)) fun x44 h44 =>
    some (x44, h44)
  else
    ob (f_X6_in a2.toInt64 0 2 h2) fun x14 h14 =>
    if x14 = 0 then
      ob (inv 6 t h14 (f_X6_refuse t (-2) h14)) fun x44 h44 =>
      some (x44, h44)
    else
      if a2 = 2 then
        ob (f_X6_in a3.toInt64 0 1 h14) fun x35 h35 =>
        if x35 = 0 then
          ob (inv 6 t h35 (f_X6_refuse t (-2) h35)) fun x44 h44 =>
          some (x44, h44)
        else
          (gI 6 13 t h35).bind fun x76 =>
          (gR 6 16 t h35).bind fun x86 =>
          (gR 6 16 t h35).bind fun x99 =>
          (lI x99 a1 h35).bind fun x103 =>
          (sI x86 a1 x103 h35).bind fun h104 =>
          (gR 6 17 t h104).bind fun x106 =>
          (gR 6 17 t h104).bind fun x120 =>
          (lI x120 a1 h104).bind fun x124 =>
          (sI x106 a1 x124 h104).bind fun h125 =>
          (gI 6 13 t h125).bind fun x133 =>
          (pI 6 13 t ((x133 &&& ((1 <<< (a1 &&& 31)) ^^^ (-1))) ||| (a3 <<< (a1 &&& 31))) h125).bind fun h153 =>
          some ((x76 >>> (a1 &&& 31)) &&& 1, h153)
      else
        ob (f_X6_in a3.toInt64 0 9 h14) fun x35 h35 =>
        if x35 = 0 then
          ob (inv 6 t h35 (f_X6_refuse t (-2) h35)) fun x44 h44 =>
          some (x44, h44)
        else
          if a2 = 0 then
            (gR 6 16 t h35).bind fun x53 =>
            (lI x53 a1 h35).bind fun x57 =>
            (gR 6 16 t h35).bind fun x86 =>
            (sI x86 a1 a3 h35).bind fun h104 =>
            (gR 6 17 t h104).bind fun x106 =>
            (gR 6 17 t h104).bind fun x120 =>
            (lI x120 a1 h104).bind fun x124 =>
            (sI x106 a1 x124 h104).bind fun h125 =>
            (gI 6 13 t h125).bind fun x150 =>
            (pI 6 13 t x150 h125).bind fun h153 =>
            some (x57, h153)
          else
            if a2 = 1 then
              (gR 6 17 t h35).bind fun x67 =>
              (lI x67 a1 h35).bind fun x71 =>
              (gR 6 16 t h35).bind fun x86 =>
              (gR 6 16 t h35).bind fun x99 =>
              (lI x99 a1 h35).bind fun x103 =>
              (sI x86 a1 x103 h35).bind fun h104 =>
              (gR 6 17 t h104).bind fun x106 =>
              (sI x106 a1 a3 h104).bind fun h125 =>
              (gI 6 13 t h125).bind fun x150 =>
              (pI 6 13 t x150 h125).bind fun h153 =>
              some (x71, h153)
            else
              (gI 6 13 t h35).bind fun x76 =>
              (gR 6 16 t h35).bind fun x86 =>
              (gR 6 16 t h35).bind fun x99 =>
              (lI x99 a1 h35).bind fun x103 =>
              (sI x86 a1 x103 h35).bind fun h104 =>
              (gR 6 17 t h104).bind fun x106 =>
              (gR 6 17 t h104).bind fun x120 =>
              (lI x120 a1 h104).bind fun x124 =>
              (sI x106 a1 x124 h104).bind fun h125 =>
              (gI 6 13 t h125).bind fun x150 =>
              (pI 6 13 t x150 h125).bind fun h153 =>
              some ((x76 >>> (a1 &&& 31)) &&& 1, h153)
def f_X6_mark (t : Nat) (a1 : Int32) (a2 : Int32) (a3 : Int32) (h : HP) : Option (Int32 × HP) :=
  ob (inv 6 t h (f_X6_isSong t a1 h)) fun x2 h2 =>
  if x2 = 0 then
    ob (inv 6 t h2 (f_X6_refuse t (-2) h2)) fun x56 h56 =>
    some (x56, h56)
  else
    ob (f_X6_in a2.toInt64 0 2 h2) fun x14 h14 =>
    if x14 = 0 then
      ob (inv 6 t h14 (f_X6_refuse t (-2) h14)) fun x56 h56 =>
      some (x56, h56)
    else
      if a2 = 0 then
        ob (f_X6_in a3.toInt64 0 9 h14) fun x47 h47 =>
        if x47 = 0 then
          ob (inv 6 t h47 (f_X6_refuse t (-2) h47)) fun x56 h56 =>
          some (x56, h56)
        else
          (gR 6 19 t h47).bind fun x65 =>
          (lI x65 a1 h47).bind fun x69 =>
          (gR 6 19 t h47).bind fun x96 =>
          (sI x96 a1 a3 h47).bind fun h114 =>
          (gR 6 20 t h114).bind fun x116 =>
          (gR 6 20 t h114).bind fun x130 =>
          (lI x130 a1 h114).bind fun x134 =>
          (sI x116 a1 x134 h114).bind fun h135 =>
          (gR 6 21 t h135).bind fun x137 =>
          (gR 6 21 t h135).bind fun x151 =>
          (lI x151 a1 h135).bind fun x155 =>
          (sI x137 a1 x155 h135).bind fun h156 =>
          some (x69, h156)
      else
        if a2 = 1 then
          ob (f_X6_in a3.toInt64 0 4 h14) fun x47 h47 =>
          if x47 = 0 then
            ob (inv 6 t h47 (f_X6_refuse t (-2) h47)) fun x56 h56 =>
            some (x56, h56)
          else
            (gR 6 20 t h47).bind fun x79 =>
            (lI x79 a1 h47).bind fun x83 =>
            (gR 6 19 t h47).bind fun x96 =>
            (gR 6 19 t h47).bind fun x109 =>
            (lI x109 a1 h47).bind fun x113 =>
            (sI x96 a1 x113 h47).bind fun h114 =>
            (gR 6 20 t h114).bind fun x116 =>
            (sI x116 a1 a3 h114).bind fun h135 =>
            (gR 6 21 t h135).bind fun x137 =>
            (gR 6 21 t h135).bind fun x151 =>
            (lI x151 a1 h135).bind fun x155 =>
            (sI x137 a1 x155 h135).bind fun h156 =>
            some (x83, h156)
        else
          ob (f_X6_in a3.toInt64 0 2 h14) fun x47 h47 =>
          if x47 = 0 then
            ob (inv 6 t h47 (f_X6_refuse t (-2) h47)) fun x56 h56 =>
            some (x56, h56)
          else
            (gR 6 21 t h47).bind fun x88 =>
            (lI x88 a1 h47).bind fun x92 =>
            (gR 6 19 t h47).bind fun x96 =>
            (gR 6 19 t h47).bind fun x109 =>
            (lI x109 a1 h47).bind fun x113 =>
            (sI x96 a1 x113 h47).bind fun h114 =>
            (gR 6 20 t h114).bind fun x116 =>
            (gR 6 20 t h114).bind fun x130 =>
            (lI x130 a1 h114).bind fun x134 =>
            (sI x116 a1 x134 h114).bind fun h135 =>
            (gR 6 21 t h135).bind fun x137 =>
            if a2 = 2 then
              (sI x137 a1 a3 h135).bind fun h156 =>
              some (x92, h156)
            else
              (gR 6 21 t h135).bind fun x151 =>
              (lI x151 a1 h135).bind fun x155 =>
              (sI x137 a1 x155 h135).bind fun h156 =>
              some (x92, h156)
def f_X6_note (t : Nat) (a1 : Int32) (a2 : Int32) (a3 : Int32) (h : HP) : Option (Int32 × HP) :=
  ob (inv 6 t h (f_X6_isSong t a1 h)) fun x2 h2 =>
  if x2 = 0 then
    ob (inv 6 t h2 (f_X6_refuse t (-2) h2)) fun x35 h35 =>
    some (x35, h35)
  else
    ob (f_X6_in a2.toInt64 0 7 h2) fun x14 h14 =>
    if x14 = 0 then
      ob (inv 6 t h14 (f_X6_refuse t (-2) h14)) fun x35 h35 =>
      some (x35, h35)
    else
      ob (f_X6_in a3.toInt64 0 4 h14) fun x26 h26 =>
      if x26 = 0 then
        ob (inv 6 t h26 (f_X6_refuse t (-2) h26)) fun x35 h35 =>
        some (x35, h35)
      else
        (gR 6 22 t h26).bind fun x40 =>
        (lI x40 ((a1 * 8) + a2) h26).bind fun x49 =>
        (gR 6 22 t h26).bind fun x53 =>
        (sI x53 ((a1 * 8) + a2) a3 h26).bind fun h63 =>
        some (x49, h63)
def f_X6_knows (t : Nat) (a1 : Int32) (a2 : Int32) (a3 : Int32) (h : HP) : Option (Int32 × HP) :=
  ob (inv 6 t h (f_X6_isPerson t a1 h)) fun x2 h2 =>
  if x2 = 0 then
    ob (inv 6 t h2 (f_X6_refuse t (-2) h2)) fun x33 h33 =>
    some (x33, h33)
  else
    ob (inv 6 t h2 (f_X6_isSong t a2 h2)) fun x10 h10 =>
    if x10 = 0 then
      ob (inv 6 t h10 (f_X6_refuse t (-2) h10)) fun x33 h33 =>
      some (x33, h33)
    else
      ob (f_X6_in a3.toInt64 (-1) 99 h10) fun x24 h24 =>
      if x24 = 0 then
        ob (inv 6 t h24 (f_X6_refuse t (-2) h24)) fun x33 h33 =>
        some (x33, h33)
      else
        (gR 6 23 t h24).bind fun x38 =>
        (lI x38 ((a1 * 6) + a2) h24).bind fun x47 =>
        (gR 6 23 t h24).bind fun x51 =>
        (sI x51 ((a1 * 6) + a2) a3 h24).bind fun h61 =>
        some (x47, h61)
def f_X6_seats (t : Nat) (a1 : Int32) (a2 : Int32) (a3 : Int32) (h : HP) : Option (Unit × HP) :=
  (gR 6 18 t h).bind fun x1 =>
  if a3 = 0 then
    (gR 6 18 t h).bind fun x23 =>
    (lI x23 a1 h).bind fun x27 =>
    (sI x1 a1 (x27 &&& ((1 <<< (a2 &&& 31)) ^^^ (-1))) h).bind fun h34 =>
    (gR 6 18 t h34).bind fun x36 =>
    (gR 6 18 t h34).bind fun x58 =>
    (lI x58 a2 h34).bind fun x62 =>
    (sI x36 a2 (x62 &&& ((1 <<< (a1 &&& 31)) ^^^ (-1))) h34).bind fun h69 =>
    some ((), h69)
  else
    (gR 6 18 t h).bind fun x10 =>
    (lI x10 a1 h).bind fun x14 =>
    (sI x1 a1 (x14 ||| (1 <<< (a2 &&& 31))) h).bind fun h34 =>
    (gR 6 18 t h34).bind fun x36 =>
    (gR 6 18 t h34).bind fun x45 =>
    (lI x45 a2 h34).bind fun x49 =>
    (sI x36 a2 (x49 ||| (1 <<< (a1 &&& 31))) h34).bind fun h69 =>
    some ((), h69)
def f_X6_seat (t : Nat) (a1 : Int32) (a2 : Int32) (a3 : Int32) (h : HP) : Option (Int32 × HP) :=
  ob (inv 6 t h (f_X6_isPerson t a1 h)) fun x2 h2 =>
  if x2 = 0 then
    ob (inv 6 t h2 (f_X6_refuse t (-2) h2)) fun x34 h34 =>
    some (x34, h34)
  else
    ob (inv 6 t h2 (f_X6_isPerson t a2 h2)) fun x10 h10 =>
    if x10 = 0 then
      ob (inv 6 t h10 (f_X6_refuse t (-2) h10)) fun x34 h34 =>
      some (x34, h34)
    else
      if a1 = a2 then
        ob (inv 6 t h10 (f_X6_refuse t (-2) h10)) fun x34 h34 =>
        some (x34, h34)
      else
        ob (f_X6_in a3.toInt64 0 1 h10) fun x25 h25 =>
        if x25 = 0 then
          ob (inv 6 t h25 (f_X6_refuse t (-2) h25)) fun x34 h34 =>
          some (x34, h34)
        else
          (gR 6 18 t h25).bind fun x39 =>
          (lI x39 a1 h25).bind fun x43 =>
          if a3 = 1 then
            ob (inv 6 t h25 (f_X6_seats t a1 a2 1 h25)) fun _ h63 =>
            some ((x43 >>> (a2 &&& 31)) &&& 1, h63)
          else
            ob (inv 6 t h25 (f_X6_seats t a1 a2 0 h25)) fun _ h63 =>
            some ((x43 >>> (a2 &&& 31)) &&& 1, h63)
def f_X6_tell (t : Nat) (a1 : Int32) (a2 : Int32) (h : HP) : Option (Int32 × HP) :=
  ob (f_X6_in a1.toInt64 0 1 h) fun x4 h4 =>
  if x4 = 0 then
    ob (inv 6 t h4 (f_X6_refuse t (-2) h4)) fun x35 h35 =>
    some (x35, h35)
  else
    if a1 = 0 then
      ob (f_X6_in a2.toInt64 0 9 h4) fun x26 h26 =>
      if x26 = 0 then
        ob (inv 6 t h26 (f_X6_refuse t (-2) h26)) fun x35 h35 =>
        some (x35, h35)
      else
        (gI 6 9 t h26).bind fun x44 =>
        (pI 6 9 t a2 h26).bind fun h68 =>
        (gI 6 10 t h68).bind fun x82 =>
        (pI 6 10 t x82 h68).bind fun h85 =>
        some (x44, h85)
    else
      ob (f_X6_in a2.toInt64 0 999 h4) fun x26 h26 =>
      if x26 = 0 then
        ob (inv 6 t h26 (f_X6_refuse t (-2) h26)) fun x35 h35 =>
        some (x35, h35)
      else
        (gI 6 10 t h26).bind fun x51 =>
        (gI 6 9 t h26).bind fun x65 =>
        (pI 6 9 t x65 h26).bind fun h68 =>
        if a1 = 1 then
          (pI 6 10 t a2 h68).bind fun h85 =>
          some (x51, h85)
        else
          (gI 6 10 t h68).bind fun x82 =>
          (pI 6 10 t x82 h68).bind fun h85 =>
          some (x51, h85)
def f_X6_feed (t : Nat) (a1 : Int32) (h : HP) : Option (Int32 × HP) :=
  ob (f_X6_in a1.toInt64 0 255 h) fun x6 h6 =>
  if x6 = 0 then
    ob (inv 6 t h6 (f_X6_refuse t (-2) h6)) fun x15 h15 =>
    some (x15, h15)
  else
    (gI 6 7 t h6).bind fun x20 =>
    if x20 = 250 then
      ob (inv 6 t h6 (f_X6_refuse t (-6) h6)) fun x32 h32 =>
      some (x32, h32)
    else
      (gR 6 6 t h6).bind fun x37 =>
      (gI 6 7 t h6).bind fun x42 =>
      (pI 6 7 t (x42 + 1) h6).bind fun h48 =>
      (sI x37 x42 a1 h48).bind fun h52 =>
      (gI 6 7 t h52).bind fun x54 =>
      some (x54, h52)
def f_X6_wipe (t : Nat) (h : HP) : Option (Int32 × HP) :=
  (gI 6 7 t h).bind fun x1 =>
  (pI 6 7 t 0 h).bind fun h7 =>
  some (x1, h7)
def f_X6_isLetter (a0 : Int32) (h : HP) : Option (Int32 × HP) :=
  if a0 < 97 then
    rZ 0 h
  else
    if 122 < a0 then
      rZ 0 h
    else
      rZ 1 h
def f_X6_isDigit (a0 : Int32) (h : HP) : Option (Int32 × HP) :=
  if a0 < 48 then
    rZ 0 h
  else
    if 57 < a0 then
      rZ 0 h
    else
      rZ 1 h
def lb_X6_look_0 (a0 : Nat) (K : HP → Option (Unit × HP)) (F : HP → Option (Unit × HP)) (h : HP) : Option (Unit × HP) :=
  (gI 6 28 a0 h).bind fun x1 =>
  (gI 6 7 a0 h).bind fun x5 =>
  if x5 ≤ x1 then
    K h
  else
    (gR 6 6 a0 h).bind fun x12 =>
    (gI 6 28 a0 h).bind fun x16 =>
    (lI x12 x16 h).bind fun x19 =>
    if x19 = 32 then
      (gI 6 28 a0 h).bind fun x27 =>
      (pI 6 28 a0 (x27 + 1) h).bind fun h32 =>
      F h32
    else
      K h
def lp_X6_look_0 (a0 : Nat) (K : HP → Option (Unit × HP)) : Nat → HP → Option (Unit × HP)
  | 0 => fun _ => none
  | k + 1 => lb_X6_look_0 a0 K (lp_X6_look_0 a0 K k)
def lb_X6_look_149 (a0 : Nat) (K : HP → Option (Unit × HP)) (F : HP → Option (Unit × HP)) (h : HP) : Option (Unit × HP) :=
  (gI 6 28 a0 h).bind fun x150 =>
  (gI 6 7 a0 h).bind fun x154 =>
  if x154 ≤ x150 then
    K h
  else
    (gR 6 6 a0 h).bind fun x161 =>
    (gI 6 28 a0 h).bind fun x165 =>
    (lI x161 x165 h).bind fun x168 =>
    ob (f_X6_isDigit x168 h) fun x169 h169 =>
    if x169 = 0 then
      K h169
    else
      (gI 6 28 a0 h169).bind fun x177 =>
      (gI 6 30 a0 h169).bind fun x181 =>
      if 3 ≤ (x177 - x181) then
        (pI 6 31 a0 1000 h169).bind fun h215 =>
        (gI 6 28 a0 h215).bind fun x220 =>
        (pI 6 28 a0 (x220 + 1) h215).bind fun h225 =>
        F h225
      else
        (gI 6 31 a0 h169).bind fun x190 =>
        (gR 6 6 a0 h169).bind fun x197 =>
        (gI 6 28 a0 h169).bind fun x201 =>
        (lI x197 x201 h169).bind fun x204 =>
        (pI 6 31 a0 (((x190 * 10) + x204) - 48) h169).bind fun h215 =>
        (gI 6 28 a0 h215).bind fun x220 =>
        (pI 6 28 a0 (x220 + 1) h215).bind fun h225 =>
        F h225
def lp_X6_look_149 (a0 : Nat) (K : HP → Option (Unit × HP)) : Nat → HP → Option (Unit × HP)
  | 0 => fun _ => none
  | k + 1 => lb_X6_look_149 a0 K (lp_X6_look_149 a0 K k)
def lb_X6_look_90 (a0 : Nat) (K : HP → Option (Unit × HP)) (F : HP → Option (Unit × HP)) (h : HP) : Option (Unit × HP) :=
  (gI 6 28 a0 h).bind fun x91 =>
  (gI 6 7 a0 h).bind fun x95 =>
  if x95 ≤ x91 then
    K h
  else
    (gR 6 6 a0 h).bind fun x102 =>
    (gI 6 28 a0 h).bind fun x106 =>
    (lI x102 x106 h).bind fun x109 =>
    ob (f_X6_isLetter x109 h) fun x110 h110 =>
    if x110 = 0 then
      K h110
    else
      (gI 6 28 a0 h110).bind fun x118 =>
      (pI 6 28 a0 (x118 + 1) h110).bind fun h123 =>
      F h123
def lp_X6_look_90 (a0 : Nat) (K : HP → Option (Unit × HP)) : Nat → HP → Option (Unit × HP)
  | 0 => fun _ => none
  | k + 1 => lb_X6_look_90 a0 K (lp_X6_look_90 a0 K k)
def f_X6_look (t : Nat) (h : HP) : Option (Unit × HP) :=
  lp_X6_look_0 t (fun h0_ =>
    (gI 6 28 t h0_).bind fun x40 =>
    (pI 6 30 t x40 h0_).bind fun h43 =>
    (pI 6 31 t 0 h43).bind fun h48 =>
    (gI 6 28 t h48).bind fun x52 =>
    (gI 6 7 t h48).bind fun x56 =>
    if x52 = x56 then
      (pI 6 29 t 0 h48).bind fun h64 =>
      some ((), h64)
    else
      (gR 6 6 t h48).bind fun x71 =>
      (gI 6 28 t h48).bind fun x75 =>
      (lI x71 x75 h48).bind fun x78 =>
      ob (f_X6_isLetter x78 h48) fun x79 h79 =>
      if x79 = 0 then
        (gR 6 6 t h79).bind fun x130 =>
        (gI 6 28 t h79).bind fun x134 =>
        (lI x130 x134 h79).bind fun x137 =>
        ob (f_X6_isDigit x137 h79) fun x138 h138 =>
        if x138 = 0 then
          (gR 6 6 t h138).bind fun x233 =>
          (gI 6 28 t h138).bind fun x237 =>
          (lI x233 x237 h138).bind fun x240 =>
          if x240 = 59 then
            (pI 6 29 t 3 h138).bind fun h251 =>
            (gI 6 28 t h251).bind fun x256 =>
            (pI 6 28 t (x256 + 1) h251).bind fun h261 =>
            some ((), h261)
          else
            (pI 6 29 t 4 h138).bind fun h251 =>
            (gI 6 28 t h251).bind fun x256 =>
            (pI 6 28 t (x256 + 1) h251).bind fun h261 =>
            some ((), h261)
        else
          (pI 6 29 t 2 h138).bind fun h146 =>
          lp_X6_look_149 t (fun h149_ =>
            some ((), h149_))
            1000 h146
      else
        (pI 6 29 t 1 h79).bind fun h87 =>
        lp_X6_look_90 t (fun h90_ =>
          some ((), h90_))
          1000 h87)
    1000 h
def f_X6_wrong (t : Nat) (h : HP) : Option (Int32 × HP) :=
  (gI 6 30 t h).bind fun x2 =>
  (pI 6 32 t x2 h).bind fun h5 =>
  rZ 0 h5
def lb_X6_isWord_28 (a0 : Nat) (a1 : Nat) (K : HP → Option (Int32 × HP)) (F : Int32 → HP → Option (Int32 × HP)) (b2 : Int32) (h : HP) : Option (Int32 × HP) :=
  (sLen a1).bind fun x30 =>
  if x30 ≤ b2 then
    K h
  else
    (gR 6 6 a0 h).bind fun x37 =>
    (gI 6 30 a0 h).bind fun x41 =>
    (lI x37 (x41 + b2) h).bind fun x46 =>
    (sAt a1 b2).bind fun x49 =>
    if x46 = x49 then
      F (b2 + 1) h
    else
      rZ 0 h
def lp_X6_isWord_28 (a0 : Nat) (a1 : Nat) (K : HP → Option (Int32 × HP)) : Nat → Int32 → HP → Option (Int32 × HP)
  | 0 => fun _ _ => none
  | k + 1 => lb_X6_isWord_28 a0 a1 K (lp_X6_isWord_28 a0 a1 K k)
def f_X6_isWord (t : Nat) (a1 : Nat) (h : HP) : Option (Int32 × HP) :=
  (gI 6 29 t h).bind fun x1 =>
  if x1 = 1 then
    (gI 6 28 t h).bind fun x9 =>
    (gI 6 30 t h).bind fun x13 =>
    (sLen a1).bind fun x18 =>
    if (x9 - x13) = x18 then
      lp_X6_isWord_28 t a1 (fun h28_ =>
        rZ 1 h28_)
        1000 0 h
    else
      rZ 0 h
  else
    rZ 0 h
def f_X6_number (t : Nat) (a1 : Int32) (a2 : Int32) (a3 : Int32) (h : HP) : Option (Int32 × HP) :=
  (gI 6 29 t h).bind fun x1 =>
  if x1 = 2 then
    (gI 6 31 t h).bind fun x9 =>
    ob (f_X6_in x9.toInt64 a2.toInt64 a3.toInt64 h) fun x17 h17 =>
    if x17 = 0 then
      ob (inv 6 t h17 (f_X6_wrong t h17)) fun x24 h24 =>
      rZ x24 h24
    else
      (gR 6 33 t h17).bind fun x29 =>
      (gI 6 31 t h17).bind fun x34 =>
      (sI x29 a1 x34 h17).bind fun h37 =>
      ob (inv 6 t h37 (f_X6_look t h37)) fun _ h39 =>
      rZ 1 h39
  else
    ob (inv 6 t h (f_X6_wrong t h)) fun x24 h24 =>
    rZ x24 h24
def f_X6_tells (t : Nat) (a1 : Int32) (a2 : Int32) (h : HP) : Option (Int32 × HP) :=
  ob (inv 6 t h (f_X6_look t h)) fun _ h1 =>
  ob (inv 6 t h1 (f_X6_number t 0 a1 a2 h1)) fun x8 h8 =>
  rZ x8 h8
def f_X6_tellsNew (t : Nat) (a1 : Int32) (h : HP) : Option (Int32 × HP) :=
  if a1 = 0 then
    ob (inv 6 t h (f_X6_tells t 0 9 h)) fun x12 h12 =>
    if x12 = 0 then
      rZ 0 h12
    else
      ob (inv 6 t h12 (f_X6_number t 1 0 4 h12)) fun x31 h31 =>
      if x31 = 0 then
        rZ 0 h31
      else
        (gR 6 33 t h31).bind fun x124 =>
        (lI x124 0 h31).bind fun x128 =>
        (gR 6 33 t h31).bind fun x130 =>
        (lI x130 1 h31).bind fun x134 =>
        ob (inv 6 t h31 (f_X6_addSong t x128 x134 h31)) fun _ h135 =>
        rZ 1 h135
  else
    ob (inv 6 t h (f_X6_tells t 0 5 h)) fun x12 h12 =>
    if x12 = 0 then
      rZ 0 h12
    else
      ob (inv 6 t h12 (f_X6_number t 1 0 9 h12)) fun x31 h31 =>
      if x31 = 0 then
        rZ 0 h31
      else
        ob (inv 6 t h31 (f_X6_number t 2 0 9 h31)) fun x56 h56 =>
        if x56 = 0 then
          rZ 0 h56
        else
          ob (inv 6 t h56 (f_X6_number t 3 0 9 h56)) fun x67 h67 =>
          if x67 = 0 then
            rZ 0 h67
          else
            (gR 6 33 t h67).bind fun x89 =>
            (lI x89 0 h67).bind fun x93 =>
            (gR 6 33 t h67).bind fun x95 =>
            (lI x95 1 h67).bind fun x99 =>
            (gR 6 33 t h67).bind fun x101 =>
            (lI x101 2 h67).bind fun x105 =>
            (gR 6 33 t h67).bind fun x107 =>
            (lI x107 3 h67).bind fun x111 =>
            ob (inv 6 t h67 (f_X6_addPerson t x93 x99 x105 x111 h67)) fun _ h112 =>
            rZ 1 h112
def f_X6_tellsHas (t : Nat) (a1 : Int32) (h : HP) : Option (Int32 × HP) :=
  (gI 6 11 t h).bind fun x3 =>
  ob (inv 6 t h (f_X6_tells t 0 (x3 - 1) h)) fun x8 h8 =>
  if x8 = 0 then
    rZ 0 h8
  else
    (gI 6 12 t h8).bind fun x18 =>
    ob (inv 6 t h8 (f_X6_number t 1 0 (x18 - 1) h8)) fun x23 h23 =>
    if x23 = 0 then
      rZ 0 h23
    else
      (gR 6 23 t h23).bind fun x40 =>
      (gR 6 33 t h23).bind fun x44 =>
      (lI x44 0 h23).bind fun x48 =>
      (gR 6 33 t h23).bind fun x53 =>
      (lI x53 1 h23).bind fun x57 =>
      (sI x40 ((x48 * 6) + x57) a1 h23).bind fun h60 =>
      rZ 1 h60
def f_X6_tellsSeat (t : Nat) (a1 : Int32) (h : HP) : Option (Int32 × HP) :=
  (gI 6 11 t h).bind fun x3 =>
  ob (inv 6 t h (f_X6_tells t 0 (x3 - 1) h)) fun x8 h8 =>
  if x8 = 0 then
    rZ 0 h8
  else
    (gI 6 29 t h8).bind fun x17 =>
    if x17 = 2 then
      (gI 6 31 t h8).bind fun x25 =>
      (gR 6 33 t h8).bind fun x29 =>
      (lI x29 0 h8).bind fun x33 =>
      if x25 = x33 then
        ob (inv 6 t h8 (f_X6_wrong t h8)) fun x38 h38 =>
        rZ x38 h38
      else
        (gI 6 11 t h8).bind fun x46 =>
        ob (inv 6 t h8 (f_X6_number t 1 0 (x46 - 1) h8)) fun x51 h51 =>
        if x51 = 0 then
          rZ x51 h51
        else
          (gR 6 33 t h51).bind fun x61 =>
          (lI x61 0 h51).bind fun x65 =>
          (gR 6 33 t h51).bind fun x67 =>
          (lI x67 1 h51).bind fun x71 =>
          ob (inv 6 t h51 (f_X6_seats t x65 x71 a1 h51)) fun _ h73 =>
          rZ x51 h73
    else
      (gI 6 11 t h8).bind fun x46 =>
      ob (inv 6 t h8 (f_X6_number t 1 0 (x46 - 1) h8)) fun x51 h51 =>
      if x51 = 0 then
        rZ x51 h51
      else
        (gR 6 33 t h51).bind fun x61 =>
        (lI x61 0 h51).bind fun x65 =>
        (gR 6 33 t h51).bind fun x67 =>
        (lI x67 1 h51).bind fun x71 =>
        ob (inv 6 t h51 (f_X6_seats t x65 x71 a1 h51)) fun _ h73 =>
        rZ x51 h73
def f_X6_tellsHum (t : Nat) (a1 : Int32) (h : HP) : Option (Int32 × HP) :=
  (gI 6 11 t h).bind fun x3 =>
  ob (inv 6 t h (f_X6_tells t 0 (x3 - 1) h)) fun x8 h8 =>
  if x8 = 0 then
    (gI 6 13 t h8).bind fun x45 =>
    (pI 6 13 t x45 h8).bind fun h48 =>
    rZ x8 h48
  else
    (gI 6 13 t h8).bind fun x18 =>
    (gR 6 33 t h8).bind fun x23 =>
    (lI x23 0 h8).bind fun x27 =>
    (gR 6 33 t h8).bind fun x34 =>
    (lI x34 0 h8).bind fun x38 =>
    (pI 6 13 t ((x18 &&& ((1 <<< (x27 &&& 31)) ^^^ (-1))) ||| (a1 <<< (x38 &&& 31))) h8).bind fun h48 =>
    rZ x8 h48
def f_X6_statement (t : Nat) (h : HP) : Option (Int32 × HP) :=
  ob (inv 6 t h (f_X6_isWord t 0 h)) fun x3 h3 =>
  if x3 = 0 then
    ob (inv 6 t h3 (f_X6_isWord t 1 h3)) fun x27 h27 =>
    if x27 = 0 then
      ob (inv 6 t h27 (f_X6_isWord t 2 h27)) fun x51 h51 =>
      if x51 = 0 then
        ob (inv 6 t h51 (f_X6_isWord t 3 h51)) fun x66 h66 =>
        if x66 = 0 then
          ob (inv 6 t h66 (f_X6_isWord t 4 h66)) fun x81 h81 =>
          if x81 = 0 then
            ob (inv 6 t h81 (f_X6_isWord t 5 h81)) fun x96 h96 =>
            if x96 = 0 then
              ob (inv 6 t h96 (f_X6_isWord t 6 h96)) fun x111 h111 =>
              if x111 = 0 then
                ob (inv 6 t h111 (f_X6_isWord t 7 h111)) fun x126 h126 =>
                if x126 = 0 then
                  ob (inv 6 t h126 (f_X6_isWord t 8 h126)) fun x141 h141 =>
                  if x141 = 0 then
                    ob (inv 6 t h141 (f_X6_isWord t 9 h141)) fun x181 h181 =>
                    if x181 = 0 then
                      ob (inv 6 t h181 (f_X6_wrong t h181)) fun x220 h220 =>
                      rZ x220 h220
                    else
                      ob (inv 6 t h181 (f_X6_tells t 0 999 h181)) fun x192 h192 =>
                      if x192 = 0 then
                        (gI 6 10 t h192).bind fun x211 =>
                        (pI 6 10 t x211 h192).bind fun h214 =>
                        rZ x192 h214
                      else
                        (gR 6 33 t h192).bind fun x202 =>
                        (lI x202 0 h192).bind fun x206 =>
                        (pI 6 10 t x206 h192).bind fun h214 =>
                        rZ x192 h214
                  else
                    ob (inv 6 t h141 (f_X6_tells t 0 9 h141)) fun x151 h151 =>
                    if x151 = 0 then
                      (gI 6 9 t h151).bind fun x170 =>
                      (pI 6 9 t x170 h151).bind fun h173 =>
                      rZ x151 h173
                    else
                      (gR 6 33 t h151).bind fun x161 =>
                      (lI x161 0 h151).bind fun x165 =>
                      (pI 6 9 t x165 h151).bind fun h173 =>
                      rZ x151 h173
                else
                  ob (inv 6 t h126 (f_X6_tellsHum t 0 h126)) fun x134 h134 =>
                  rZ x134 h134
              else
                ob (inv 6 t h111 (f_X6_tellsHum t 1 h111)) fun x119 h119 =>
                rZ x119 h119
            else
              ob (inv 6 t h96 (f_X6_tellsSeat t 0 h96)) fun x104 h104 =>
              rZ x104 h104
          else
            ob (inv 6 t h81 (f_X6_tellsSeat t 1 h81)) fun x89 h89 =>
            rZ x89 h89
        else
          ob (inv 6 t h66 (f_X6_tellsHas t (-1) h66)) fun x74 h74 =>
          rZ x74 h74
      else
        ob (inv 6 t h51 (f_X6_tellsHas t 0 h51)) fun x59 h59 =>
        rZ x59 h59
    else
      (gI 6 12 t h27).bind fun x34 =>
      if 6 ≤ x34 then
        ob (inv 6 t h27 (f_X6_isWord t 2 h27)) fun x51 h51 =>
        if x51 = 0 then
          ob (inv 6 t h51 (f_X6_isWord t 3 h51)) fun x66 h66 =>
          if x66 = 0 then
            ob (inv 6 t h66 (f_X6_isWord t 4 h66)) fun x81 h81 =>
            if x81 = 0 then
              ob (inv 6 t h81 (f_X6_isWord t 5 h81)) fun x96 h96 =>
              if x96 = 0 then
                ob (inv 6 t h96 (f_X6_isWord t 6 h96)) fun x111 h111 =>
                if x111 = 0 then
                  ob (inv 6 t h111 (f_X6_isWord t 7 h111)) fun x126 h126 =>
                  if x126 = 0 then
                    ob (inv 6 t h126 (f_X6_isWord t 8 h126)) fun x141 h141 =>
                    if x141 = 0 then
                      ob (inv 6 t h141 (f_X6_isWord t 9 h141)) fun x181 h181 =>
                      if x181 = 0 then
                        ob (inv 6 t h181 (f_X6_wrong t h181)) fun x220 h220 =>
                        rZ x220 h220
                      else
                        ob (inv 6 t h181 (f_X6_tells t 0 999 h181)) fun x192 h192 =>
                        if x192 = 0 then
                          (gI 6 10 t h192).bind fun x211 =>
                          (pI 6 10 t x211 h192).bind fun h214 =>
                          rZ x192 h214
                        else
                          (gR 6 33 t h192).bind fun x202 =>
                          (lI x202 0 h192).bind fun x206 =>
                          (pI 6 10 t x206 h192).bind fun h214 =>
                          rZ x192 h214
                    else
                      ob (inv 6 t h141 (f_X6_tells t 0 9 h141)) fun x151 h151 =>
                      if x151 = 0 then
                        (gI 6 9 t h151).bind fun x170 =>
                        (pI 6 9 t x170 h151).bind fun h173 =>
                        rZ x151 h173
                      else
                        (gR 6 33 t h151).bind fun x161 =>
                        (lI x161 0 h151).bind fun x165 =>
                        (pI 6 9 t x165 h151).bind fun h173 =>
                        rZ x151 h173
                  else
                    ob (inv 6 t h126 (f_X6_tellsHum t 0 h126)) fun x134 h134 =>
                    rZ x134 h134
                else
                  ob (inv 6 t h111 (f_X6_tellsHum t 1 h111)) fun x119 h119 =>
                  rZ x119 h119
              else
                ob (inv 6 t h96 (f_X6_tellsSeat t 0 h96)) fun x104 h104 =>
                rZ x104 h104
            else
              ob (inv 6 t h81 (f_X6_tellsSeat t 1 h81)) fun x89 h89 =>
              rZ x89 h89
          else
            ob (inv 6 t h66 (f_X6_tellsHas t (-1) h66)) fun x74 h74 =>
            rZ x74 h74
        else
          ob (inv 6 t h51 (f_X6_tellsHas t 0 h51)) fun x59 h59 =>
          rZ x59 h59
      else
        ob (inv 6 t h27 (f_X6_tellsNew t 0 h27)) fun x44 h44 =>
        rZ x44 h44
  else
    (gI 6 11 t h3).bind fun x10 =>
    if 8 ≤ x10 then
      ob (inv 6 t h3 (f_X6_isWord t 1 h3)) fun x27 h27 =>
      if x27 = 0 then
        ob (inv 6 t h27 (f_X6_isWord t 2 h27)) fun x51 h51 =>
        if x51 = 0 then
          ob (inv 6 t h51 (f_X6_isWord t 3 h51)) fun x66 h66 =>
          if x66 = 0 then
            ob (inv 6 t h66 (f_X6_isWord t 4 h66)) fun x81 h81 =>
            if x81 = 0 then
              ob (inv 6 t h81 (f_X6_isWord t 5 h81)) fun x96 h96 =>
              if x96 = 0 then
                ob (inv 6 t h96 (f_X6_isWord t 6 h96)) fun x111 h111 =>
                if x111 = 0 then
                  ob (inv 6 t h111 (f_X6_isWord t 7 h111)) fun x126 h126 =>
                  if x126 = 0 then
                    ob (inv 6 t h126 (f_X6_isWord t 8 h126)) fun x141 h141 =>
                    if x141 = 0 then
                      ob (inv 6 t h141 (f_X6_isWord t 9 h141)) fun x181 h181 =>
                      if x181 = 0 then
                        ob (inv 6 t h181 (f_X6_wrong t h181)) fun x220 h220 =>
                        rZ x220 h220
                      else
                        ob (inv 6 t h181 (f_X6_tells t 0 999 h181)) fun x192 h192 =>
                        if x192 = 0 then
                          (gI 6 10 t h192).bind fun x211 =>
                          (pI 6 10 t x211 h192).bind fun h214 =>
                          rZ x192 h214
                        else
                          (gR 6 33 t h192).bind fun x202 =>
                          (lI x202 0 h192).bind fun x206 =>
                          (pI 6 10 t x206 h192).bind fun h214 =>
                          rZ x192 h214
                    else
                      ob (inv 6 t h141 (f_X6_tells t 0 9 h141)) fun x151 h151 =>
                      if x151 = 0 then
                        (gI 6 9 t h151).bind fun x170 =>
                        (pI 6 9 t x170 h151).bind fun h173 =>
                        rZ x151 h173
                      else
                        (gR 6 33 t h151).bind fun x161 =>
                        (lI x161 0 h151).bind fun x165 =>
                        (pI 6 9 t x165 h151).bind fun h173 =>
                        rZ x151 h173
                  else
                    ob (inv 6 t h126 (f_X6_tellsHum t 0 h126)) fun x134 h134 =>
                    rZ x134 h134
                else
                  ob (inv 6 t h111 (f_X6_tellsHum t 1 h111)) fun x119 h119 =>
                  rZ x119 h119
              else
                ob (inv 6 t h96 (f_X6_tellsSeat t 0 h96)) fun x104 h104 =>
                rZ x104 h104
            else
              ob (inv 6 t h81 (f_X6_tellsSeat t 1 h81)) fun x89 h89 =>
              rZ x89 h89
          else
            ob (inv 6 t h66 (f_X6_tellsHas t (-1) h66)) fun x74 h74 =>
            rZ x74 h74
        else
          ob (inv 6 t h51 (f_X6_tellsHas t 0 h51)) fun x59 h59 =>
          rZ x59 h59
      else
        (gI 6 12 t h27).bind fun x34 =>
        if 6 ≤ x34 then
          ob (inv 6 t h27 (f_X6_isWord t 2 h27)) fun x51 h51 =>
          if x51 = 0 then
            ob (inv 6 t h51 (f_X6_isWord t 3 h51)) fun x66 h66 =>
            if x66 = 0 then
              ob (inv 6 t h66 (f_X6_isWord t 4 h66)) fun x81 h81 =>
              if x81 = 0 then
                ob (inv 6 t h81 (f_X6_isWord t 5 h81)) fun x96 h96 =>
                if x96 = 0 then
                  ob (inv 6 t h96 (f_X6_isWord t 6 h96)) fun x111 h111 =>
                  if x111 = 0 then
                    ob (inv 6 t h111 (f_X6_isWord t 7 h111)) fun x126 h126 =>
                    if x126 = 0 then
                      ob (inv 6 t h126 (f_X6_isWord t 8 h126)) fun x141 h141 =>
                      if x141 = 0 then
                        ob (inv 6 t h141 (f_X6_isWord t 9 h141)) fun x181 h181 =>
                        if x181 = 0 then
                          ob (inv 6 t h181 (f_X6_wrong t h181)) fun x220 h220 =>
                          rZ x220 h220
                        else
                          ob (inv 6 t h181 (f_X6_tells t 0 999 h181)) fun x192 h192 =>
                          if x192 = 0 then
                            (gI 6 10 t h192).bind fun x211 =>
                            (pI 6 10 t x211 h192).bind fun h214 =>
                            rZ x192 h214
                          else
                            (gR 6 33 t h192).bind fun x202 =>
                            (lI x202 0 h192).bind fun x206 =>
                            (pI 6 10 t x206 h192).bind fun h214 =>
                            rZ x192 h214
                      else
                        ob (inv 6 t h141 (f_X6_tells t 0 9 h141)) fun x151 h151 =>
                        if x151 = 0 then
                          (gI 6 9 t h151).bind fun x170 =>
                          (pI 6 9 t x170 h151).bind fun h173 =>
                          rZ x151 h173
                        else
                          (gR 6 33 t h151).bind fun x161 =>
                          (lI x161 0 h151).bind fun x165 =>
                          (pI 6 9 t x165 h151).bind fun h173 =>
                          rZ x151 h173
                    else
                      ob (inv 6 t h126 (f_X6_tellsHum t 0 h126)) fun x134 h134 =>
                      rZ x134 h134
                  else
                    ob (inv 6 t h111 (f_X6_tellsHum t 1 h111)) fun x119 h119 =>
                    rZ x119 h119
                else
                  ob (inv 6 t h96 (f_X6_tellsSeat t 0 h96)) fun x104 h104 =>
                  rZ x104 h104
              else
                ob (inv 6 t h81 (f_X6_tellsSeat t 1 h81)) fun x89 h89 =>
                rZ x89 h89
            else
              ob (inv 6 t h66 (f_X6_tellsHas t (-1) h66)) fun x74 h74 =>
              rZ x74 h74
          else
            ob (inv 6 t h51 (f_X6_tellsHas t 0 h51)) fun x59 h59 =>
            rZ x59 h59
        else
          ob (inv 6 t h27 (f_X6_tellsNew t 0 h27)) fun x44 h44 =>
          rZ x44 h44
    else
      ob (inv 6 t h3 (f_X6_tellsNew t 1 h3)) fun x20 h20 =>
      rZ x20 h20
def lb_X6_readAll_23 (a0 : Nat) (K : HP → Option (Int32 × HP)) (F : HP → Option (Int32 × HP)) (h : HP) : Option (Int32 × HP) :=
  (gI 6 29 a0 h).bind fun x24 =>
  if x24 = 0 then
    K h
  else
    (gI 6 29 a0 h).bind fun x31 =>
    if x31 = 3 then
      ob (inv 6 a0 h (f_X6_look a0 h)) fun _ h44 =>
      ob (inv 6 a0 h44 (f_X6_statement a0 h44)) fun x48 h48 =>
      if x48 = 0 then
        rZ 0 h48
      else
        (gI 6 34 a0 h48).bind fun x58 =>
        (pI 6 34 a0 (x58 + 1) h48).bind fun h63 =>
        F h63
    else
      ob (inv 6 a0 h (f_X6_wrong a0 h)) fun x39 h39 =>
      rZ x39 h39
def lp_X6_readAll_23 (a0 : Nat) (K : HP → Option (Int32 × HP)) : Nat → HP → Option (Int32 × HP)
  | 0 => fun _ => none
  | k + 1 => lb_X6_readAll_23 a0 K (lp_X6_readAll_23 a0 K k)
def f_X6_readAll (t : Nat) (h : HP) : Option (Int32 × HP) :=
  (pI 6 34 t 1 h).bind fun h2 =>
  (pI 6 28 t 0 h2).bind fun h7 =>
  ob (inv 6 t h7 (f_X6_look t h7)) fun _ h11 =>
  ob (inv 6 t h11 (f_X6_statement t h11)) fun x15 h15 =>
  if x15 = 0 then
    rZ 0 h15
  else
    lp_X6_readAll_23 t (fun h23_ =>
      rZ 1 h23_)
      1000 h15
def lb_X6_copied_2 (a0 : Nat) (a1 : Nat) (K : HP → Option (Unit × HP)) (F : Int32 → HP → Option (Unit × HP)) (b2 : Int32) (h : HP) : Option (Unit × HP) :=
  (aL a0 h).bind fun x4 =>
  if x4 ≤ b2 then
    K h
  else
    (lI a0 b2 h).bind fun x12 =>
    (sI a1 b2 x12 h).bind fun h13 =>
    F (b2 + 1) h13
def lp_X6_copied_2 (a0 : Nat) (a1 : Nat) (K : HP → Option (Unit × HP)) : Nat → Int32 → HP → Option (Unit × HP)
  | 0 => fun _ _ => none
  | k + 1 => lb_X6_copied_2 a0 a1 K (lp_X6_copied_2 a0 a1 K k)
def f_X6_copied (a0 : Nat) (a1 : Nat) (h : HP) : Option (Unit × HP) :=
  lp_X6_copied_2 a0 a1 (fun h2_ =>
    some ((), h2_))
    1000 0 h
def f_X6_takeFrom (t : Nat) (a1 : Nat) (h : HP) : Option (Unit × HP) :=
  (gI 6 9 a1 h).bind fun x2 =>
  (pI 6 9 t x2 h).bind fun h5 =>
  (gI 6 10 a1 h5).bind fun x10 =>
  (pI 6 10 t x10 h5).bind fun h13 =>
  (gI 6 11 a1 h13).bind fun x18 =>
  (pI 6 11 t x18 h13).bind fun h21 =>
  (gI 6 12 a1 h21).bind fun x26 =>
  (pI 6 12 t x26 h21).bind fun h29 =>
  (gI 6 13 a1 h29).bind fun x34 =>
  (pI 6 13 t x34 h29).bind fun h37 =>
  (gR 6 14 a1 h37).bind fun x41 =>
  (gR 6 14 t h37).bind fun x45 =>
  ob (f_X6_copied x41 x45 h37) fun _ h48 =>
  (gR 6 15 a1 h48).bind fun x52 =>
  (gR 6 15 t h48).bind fun x56 =>
  ob (f_X6_copied x52 x56 h48) fun _ h59 =>
  (gR 6 16 a1 h59).bind fun x63 =>
  (gR 6 16 t h59).bind fun x67 =>
  ob (f_X6_copied x63 x67 h59) fun _ h70 =>
  (gR 6 17 a1 h70).bind fun x74 =>
  (gR 6 17 t h70).bind fun x78 =>
  ob (f_X6_copied x74 x78 h70) fun _ h81 =>
  (gR 6 18 a1 h81).bind fun x85 =>
  (gR 6 18 t h81).bind fun x89 =>
  ob (f_X6_copied x85 x89 h81) fun _ h92 =>
  (gR 6 19 a1 h92).bind fun x96 =>
  (gR 6 19 t h92).bind fun x100 =>
  ob (f_X6_copied x96 x100 h92) fun _ h103 =>
  (gR 6 20 a1 h103).bind fun x107 =>
  (gR 6 20 t h103).bind fun x111 =>
  ob (f_X6_copied x107 x111 h103) fun _ h114 =>
  (gR 6 21 a1 h114).bind fun x118 =>
  (gR 6 21 t h114).bind fun x122 =>
  ob (f_X6_copied x118 x122 h114) fun _ h125 =>
  (gR 6 22 a1 h125).bind fun x129 =>
  (gR 6 22 t h125).bind fun x133 =>
  ob (f_X6_copied x129 x133 h125) fun _ h136 =>
  (gR 6 23 a1 h136).bind fun x140 =>
  (gR 6 23 t h136).bind fun x144 =>
  ob (f_X6_copied x140 x144 h136) fun _ h147 =>
  (gI 6 24 a1 h147).bind fun x152 =>
  (pI 6 24 t x152 h147).bind fun h155 =>
  some ((), h155)
def f_X6_isle (t : Nat) (h : HP) : Option (Int32 × HP) :=
  (gN 6 26 t h).bind fun x1 => if x1.isNone = true then
    ob (mkO 6 h) fun x8 h8 =>
    ob (f_X6_init x8 h8) fun _ h12 =>
    (pR 6 26 t x8 h12).bind fun h15 =>
    (gR 6 26 t h15).bind fun x19 =>
    ob (inv 6 x19 h15 (f_X6_takeFrom x19 t h15)) fun _ h23 =>
    ob (inv 6 t h23 (f_X6_readAll t h23)) fun x27 h27 =>
    (pI 6 7 t 0 h27).bind fun h33 =>
    if x27 = 0 then
      (gR 6 26 t h33).bind fun x42 =>
      ob (inv 6 t h33 (f_X6_takeFrom t x42 h33)) fun _ h45 =>
      ob (inv 6 t h45 (f_X6_refuse t (-2) h45)) fun x51 h51 =>
      (gI 6 32 t h51).bind fun x58 =>
      some ((-20) - x58, h51)
    else
      (gI 6 34 t h33).bind fun x64 =>
      some (x64, h33)
  else
    (gR 6 26 t h).bind fun x19 =>
    ob (inv 6 x19 h (f_X6_takeFrom x19 t h)) fun _ h23 =>
    ob (inv 6 t h23 (f_X6_readAll t h23)) fun x27 h27 =>
    (pI 6 7 t 0 h27).bind fun h33 =>
    if x27 = 0 then
      (gR 6 26 t h33).bind fun x42 =>
      ob (inv 6 t h33 (f_X6_takeFrom t x42 h33)) fun _ h45 =>
      ob (inv 6 t h45 (f_X6_refuse t (-2) h45)) fun x51 h51 =>
      (gI 6 32 t h51).bind fun x58 =>
      some ((-20) - x58, h51)
    else
      (gI 6 34 t h33).bind fun x64 =>
      some (x64, h33)
def f_X6_holdOf (t : Nat) (a1 : Int32) (a2 : Int32) (h : HP) : Option (Int32 × HP) :=
  (gR 6 19 t h).bind fun x3 =>
  (lI x3 a2 h).bind fun x7 =>
  ob (inv 6 t h (f_X6_holdBy t a1 x7 h)) fun x8 h8 =>
  some (x8, h8)
def lb_X6_songsOf_4 (a0 : Nat) (a1 : Int32) (K : Int32 → HP → Option (Int32 × HP)) (F : Int32 → Int32 → HP → Option (Int32 × HP)) (b2 : Int32) (b3 : Int32) (h : HP) : Option (Int32 × HP) :=
  (gI 6 12 a0 h).bind fun x6 =>
  if x6 ≤ b3 then
    K b2 h
  else
    ob (inv 6 a0 h (f_X6_knowsIt a0 a1 b3 h)) fun x16 h16 =>
    if x16 = 0 then
      F (b2 ||| 0) (b3 + 1) h16
    else
      F (b2 ||| (1 <<< (b3 &&& 31))) (b3 + 1) h16
def lp_X6_songsOf_4 (a0 : Nat) (a1 : Int32) (K : Int32 → HP → Option (Int32 × HP)) : Nat → Int32 → Int32 → HP → Option (Int32 × HP)
  | 0 => fun _ _ _ => none
  | k + 1 => lb_X6_songsOf_4 a0 a1 K (lp_X6_songsOf_4 a0 a1 K k)
def f_X6_songsOf (t : Nat) (a1 : Int32) (h : HP) : Option (Int32 × HP) :=
  lp_X6_songsOf_4 t a1 (fun b2_4 h4_ =>
    some (b2_4, h4_))
    1000 0 0 h
def lb_X6_holdersOf_4 (a0 : Nat) (a1 : Int32) (K : Int32 → HP → Option (Int32 × HP)) (F : Int32 → Int32 → HP → Option (Int32 × HP)) (b2 : Int32) (b3 : Int32) (h : HP) : Option (Int32 × HP) :=
  (gI 6 11 a0 h).bind fun x6 =>
  if x6 ≤ b3 then
    K b2 h
  else
    ob (inv 6 a0 h (f_X6_knowsIt a0 b3 a1 h)) fun x16 h16 =>
    if x16 = 0 then
      F (b2 ||| 0) (b3 + 1) h16
    else
      F (b2 ||| (1 <<< (b3 &&& 31))) (b3 + 1) h16
def lp_X6_holdersOf_4 (a0 : Nat) (a1 : Int32) (K : Int32 → HP → Option (Int32 × HP)) : Nat → Int32 → Int32 → HP → Option (Int32 × HP)
  | 0 => fun _ _ _ => none
  | k + 1 => lb_X6_holdersOf_4 a0 a1 K (lp_X6_holdersOf_4 a0 a1 K k)
def f_X6_holdersOf (t : Nat) (a1 : Int32) (h : HP) : Option (Int32 × HP) :=
  lp_X6_holdersOf_4 t a1 (fun b2_4 h4_ =>
    some (b2_4, h4_))
    1000 0 0 h
def lb_X6_known_4 (a0 : Nat) (K : Int32 → HP → Option (Int32 × HP)) (F : Int32 → Int32 → HP → Option (Int32 × HP)) (b1 : Int32) (b2 : Int32) (h : HP) : Option (Int32 × HP) :=
  (gI 6 11 a0 h).bind fun x6 =>
  if x6 ≤ b2 then
    K b1 h
  else
    ob (inv 6 a0 h (f_X6_songsOf a0 b2 h)) fun x15 h15 =>
    F (b1 ||| x15) (b2 + 1) h15
def lp_X6_known_4 (a0 : Nat) (K : Int32 → HP → Option (Int32 × HP)) : Nat → Int32 → Int32 → HP → Option (Int32 × HP)
  | 0 => fun _ _ _ => none
  | k + 1 => lb_X6_known_4 a0 K (lp_X6_known_4 a0 K k)
def f_X6_known (t : Nat) (h : HP) : Option (Int32 × HP) :=
  lp_X6_known_4 t (fun b1_4 h4_ =>
    some (b1_4, h4_))
    1000 0 0 h
def lb_X6_findsAll_4 (a0 : Nat) (K : Int32 → HP → Option (Int32 × HP)) (F : Int32 → Int32 → HP → Option (Int32 × HP)) (b1 : Int32) (b2 : Int32) (h : HP) : Option (Int32 × HP) :=
  (gI 6 11 a0 h).bind fun x6 =>
  if x6 ≤ b2 then
    K b1 h
  else
    if b1 = (-1) then
      F b2 (b2 + 1) h
    else
      (gR 6 16 a0 h).bind fun x18 =>
      (lI x18 b2 h).bind fun x22 =>
      (gR 6 16 a0 h).bind fun x24 =>
      (lI x24 b1 h).bind fun x28 =>
      if x22 ≤ x28 then
        F b1 (b2 + 1) h
      else
        F b2 (b2 + 1) h
def lp_X6_findsAll_4 (a0 : Nat) (K : Int32 → HP → Option (Int32 × HP)) : Nat → Int32 → Int32 → HP → Option (Int32 × HP)
  | 0 => fun _ _ _ => none
  | k + 1 => lb_X6_findsAll_4 a0 K (lp_X6_findsAll_4 a0 K k)
def f_X6_findsAll (t : Nat) (h : HP) : Option (Int32 × HP) :=
  lp_X6_findsAll_4 t (fun b1_4 h4_ =>
    some (b1_4, h4_))
    1000 (-1) 0 h
def lb_X6_forgetsAll_12 (a0 : Nat) (a1 : Int32) (K : HP → Option (Unit × HP)) (F : Int32 → HP → Option (Unit × HP)) (b2 : Int32) (h : HP) : Option (Unit × HP) :=
  (gI 6 12 a0 h).bind fun x14 =>
  if x14 ≤ b2 then
    K h
  else
    (gR 6 23 a0 h).bind fun x28 =>
    (lI x28 ((a1 * 6) + b2) h).bind fun x32 =>
    if x32 < 0 then
      F (b2 + 1) h
    else
      (gR 6 23 a0 h).bind fun x37 =>
      (gR 6 23 a0 h).bind fun x42 =>
      (lI x42 ((a1 * 6) + b2) h).bind fun x46 =>
      if 99 ≤ x46 then
        (sI x37 ((a1 * 6) + b2) 99 h).bind fun h65 =>
        (gR 6 23 a0 h65).bind fun x67 =>
        (gR 6 23 a0 h65).bind fun x72 =>
        (lI x72 ((a1 * 6) + b2) h65).bind fun x76 =>
        ob (inv 6 a0 h65 (f_X6_holdOf a0 a1 b2 h65)) fun x80 h80 =>
        if x76 ≤ x80 then
          (gR 6 23 a0 h80).bind fun x102 =>
          (lI x102 ((a1 * 6) + b2) h80).bind fun x106 =>
          (sI x67 ((a1 * 6) + b2) x106 h80).bind fun h107 =>
          F (b2 + 1) h107
        else
          (gI 6 13 a0 h80).bind fun x87 =>
          if ((x87 >>> (a1 &&& 31)) &&& 1) = 0 then
            (sI x67 ((a1 * 6) + b2) (-1) h80).bind fun h107 =>
            F (b2 + 1) h107
          else
            (gR 6 23 a0 h80).bind fun x102 =>
            (lI x102 ((a1 * 6) + b2) h80).bind fun x106 =>
            (sI x67 ((a1 * 6) + b2) x106 h80).bind fun h107 =>
            F (b2 + 1) h107
      else
        (gR 6 23 a0 h).bind fun x53 =>
        (lI x53 ((a1 * 6) + b2) h).bind fun x57 =>
        (sI x37 ((a1 * 6) + b2) (x57 + 1) h).bind fun h65 =>
        (gR 6 23 a0 h65).bind fun x67 =>
        (gR 6 23 a0 h65).bind fun x72 =>
        (lI x72 ((a1 * 6) + b2) h65).bind fun x76 =>
        ob (inv 6 a0 h65 (f_X6_holdOf a0 a1 b2 h65)) fun x80 h80 =>
        if x76 ≤ x80 then
          (gR 6 23 a0 h80).bind fun x102 =>
          (lI x102 ((a1 * 6) + b2) h80).bind fun x106 =>
          (sI x67 ((a1 * 6) + b2) x106 h80).bind fun h107 =>
          F (b2 + 1) h107
        else
          (gI 6 13 a0 h80).bind fun x87 =>
          if ((x87 >>> (a1 &&& 31)) &&& 1) = 0 then
            (sI x67 ((a1 * 6) + b2) (-1) h80).bind fun h107 =>
            F (b2 + 1) h107
          else
            (gR 6 23 a0 h80).bind fun x102 =>
            (lI x102 ((a1 * 6) + b2) h80).bind fun x106 =>
            (sI x67 ((a1 * 6) + b2) x106 h80).bind fun h107 =>
            F (b2 + 1) h107
def lp_X6_forgetsAll_12 (a0 : Nat) (a1 : Int32) (K : HP → Option (Unit × HP)) : Nat → Int32 → HP → Option (Unit × HP)
  | 0 => fun _ _ => none
  | k + 1 => lb_X6_forgetsAll_12 a0 a1 K (lp_X6_forgetsAll_12 a0 a1 K k)
def lb_X6_forgetsAll_2 (a0 : Nat) (K : HP → Option (Unit × HP)) (F : Int32 → HP → Option (Unit × HP)) (b1 : Int32) (h : HP) : Option (Unit × HP) :=
  (gI 6 11 a0 h).bind fun x4 =>
  if x4 ≤ b1 then
    K h
  else
    lp_X6_forgetsAll_12 a0 b1 (fun h12_ =>
      F (b1 + 1) h12_)
      1000 0 h
def lp_X6_forgetsAll_2 (a0 : Nat) (K : HP → Option (Unit × HP)) : Nat → Int32 → HP → Option (Unit × HP)
  | 0 => fun _ _ => none
  | k + 1 => lb_X6_forgetsAll_2 a0 K (lp_X6_forgetsAll_2 a0 K k)
def f_X6_forgetsAll (t : Nat) (h : HP) : Option (Unit × HP) :=
  lp_X6_forgetsAll_2 t (fun h2_ =>
    some ((), h2_))
    1000 0 h
def lb_X6_picksUp_2 (a0 : Nat) (K : HP → Option (Unit × HP)) (F : Int32 → HP → Option (Unit × HP)) (b1 : Int32) (h : HP) : Option (Unit × HP) :=
  (gI 6 11 a0 h).bind fun x4 =>
  if x4 ≤ b1 then
    K h
  else
    (gR 6 35 a0 h).bind fun x11 =>
    ob (inv 6 a0 h (f_X6_songsOf a0 b1 h)) fun x17 h17 =>
    (sI x11 b1 x17 h17).bind fun h20 =>
    F (b1 + 1) h20
def lp_X6_picksUp_2 (a0 : Nat) (K : HP → Option (Unit × HP)) : Nat → Int32 → HP → Option (Unit × HP)
  | 0 => fun _ _ => none
  | k + 1 => lb_X6_picksUp_2 a0 K (lp_X6_picksUp_2 a0 K k)
def lb_X6_picksUp_41 (a0 : Nat) (a1 : Int32) (K : Int32 → HP → Option (Unit × HP)) (F : Int32 → Int32 → HP → Option (Unit × HP)) (b2 : Int32) (b3 : Int32) (h : HP) : Option (Unit × HP) :=
  (gI 6 11 a0 h).bind fun x43 =>
  if x43 ≤ b3 then
    K b2 h
  else
    (gR 6 18 a0 h).bind fun x51 =>
    (lI x51 a1 h).bind fun x55 =>
    if ((x55 >>> (b3 &&& 31)) &&& 1) = 1 then
      (gR 6 35 a0 h).bind fun x65 =>
      (lI x65 b3 h).bind fun x69 =>
      F (b2 ||| x69) (b3 + 1) h
    else
      F (b2 ||| 0) (b3 + 1) h
def lp_X6_picksUp_41 (a0 : Nat) (a1 : Int32) (K : Int32 → HP → Option (Unit × HP)) : Nat → Int32 → Int32 → HP → Option (Unit × HP)
  | 0 => fun _ _ _ => none
  | k + 1 => lb_X6_picksUp_41 a0 a1 K (lp_X6_picksUp_41 a0 a1 K k)
def lb_X6_picksUp_84 (a0 : Nat) (a1 : Int32) (a2 : Int32) (K : HP → Option (Unit × HP)) (F : Int32 → HP → Option (Unit × HP)) (b3 : Int32) (h : HP) : Option (Unit × HP) :=
  (gI 6 12 a0 h).bind fun x86 =>
  if x86 ≤ b3 then
    K h
  else
    (gR 6 14 a0 h).bind fun x93 =>
    (lI x93 a1 h).bind fun x97 =>
    if x97 = 5 then
      (gR 6 35 a0 h).bind fun x104 =>
      (lI x104 a1 h).bind fun x108 =>
      if (((a2 &&& (x108 ^^^ (-1))) >>> (b3 &&& 31)) &&& 1) = 1 then
        (gR 6 23 a0 h).bind fun x121 =>
        (sI x121 ((a1 * 6) + b3) 0 h).bind fun h131 =>
        F (b3 + 1) h131
      else
        F (b3 + 1) h
    else
      K h
def lp_X6_picksUp_84 (a0 : Nat) (a1 : Int32) (a2 : Int32) (K : HP → Option (Unit × HP)) : Nat → Int32 → HP → Option (Unit × HP)
  | 0 => fun _ _ => none
  | k + 1 => lb_X6_picksUp_84 a0 a1 a2 K (lp_X6_picksUp_84 a0 a1 a2 K k)
def lb_X6_picksUp_29 (a0 : Nat) (K : HP → Option (Unit × HP)) (F : Int32 → HP → Option (Unit × HP)) (b1 : Int32) (h : HP) : Option (Unit × HP) :=
  (gI 6 11 a0 h).bind fun x31 =>
  if x31 ≤ b1 then
    K h
  else
    lp_X6_picksUp_41 a0 b1 (fun b2_41 h41_ =>
      lp_X6_picksUp_84 a0 b1 b2_41 (fun h84_ =>
        F (b1 + 1) h84_)
        1000 0 h41_)
      1000 0 0 h
def lp_X6_picksUp_29 (a0 : Nat) (K : HP → Option (Unit × HP)) : Nat → Int32 → HP → Option (Unit × HP)
  | 0 => fun _ _ => none
  | k + 1 => lb_X6_picksUp_29 a0 K (lp_X6_picksUp_29 a0 K k)
def f_X6_picksUp (t : Nat) (h : HP) : Option (Unit × HP) :=
  lp_X6_picksUp_2 t (fun h2_ =>
    lp_X6_picksUp_29 t (fun h29_ =>
      some ((), h29_))
      1000 0 h2_)
    1000 0 h
def lb_X6_passes_43 (a0 : Nat) (a2 : Int32) (K : Int32 → HP → Option (Int32 × HP)) (F : Int32 → Int32 → HP → Option (Int32 × HP)) (b1 : Int32) (b3 : Int32) (h : HP) : Option (Int32 × HP) :=
  (gI 6 12 a0 h).bind fun x45 =>
  if x45 ≤ b3 then
    K b1 h
  else
    (gR 6 21 a0 h).bind fun x52 =>
    (lI x52 b3 h).bind fun x56 =>
    if x56 = 1 then
      (gR 6 20 a0 h).bind fun x62 =>
      (lI x62 b3 h).bind fun x66 =>
      (gI 6 10 a0 h).bind fun x68 =>
      (dz 5).bind fun _ =>
      if x66 = (x68 - x68 / 5 * 5) then
        if a2 = (-1) then
          (gR 6 21 a0 h).bind fun x107 =>
          (lI x107 b3 h).bind fun x111 =>
          if x111 = 0 then
            ob (inv 6 a0 h (f_X6_holdersOf a0 b3 h)) fun x117 h117 =>
            if x117 = 0 then
              (gR 6 21 a0 h117).bind fun x124 =>
              (sI x124 b3 1 h117).bind fun h129 =>
              F b1 (b3 + 1) h129
            else
              F b1 (b3 + 1) h117
          else
            F b1 (b3 + 1) h
        else
          (gR 6 23 a0 h).bind fun x82 =>
          (sI x82 ((a2 * 6) + b3) 0 h).bind fun h92 =>
          (gR 6 21 a0 h92).bind fun x94 =>
          (sI x94 b3 2 h92).bind fun h99 =>
          F (b1 + 1) (b3 + 1) h99
      else
        (gR 6 21 a0 h).bind fun x107 =>
        (lI x107 b3 h).bind fun x111 =>
        if x111 = 0 then
          ob (inv 6 a0 h (f_X6_holdersOf a0 b3 h)) fun x117 h117 =>
          if x117 = 0 then
            (gR 6 21 a0 h117).bind fun x124 =>
            (sI x124 b3 1 h117).bind fun h129 =>
            F b1 (b3 + 1) h129
          else
            F b1 (b3 + 1) h117
        else
          F b1 (b3 + 1) h
    else
      (gR 6 21 a0 h).bind fun x107 =>
      (lI x107 b3 h).bind fun x111 =>
      if x111 = 0 then
        ob (inv 6 a0 h (f_X6_holdersOf a0 b3 h)) fun x117 h117 =>
        if x117 = 0 then
          (gR 6 21 a0 h117).bind fun x124 =>
          (sI x124 b3 1 h117).bind fun h129 =>
          F b1 (b3 + 1) h129
        else
          F b1 (b3 + 1) h117
      else
        F b1 (b3 + 1) h
def lp_X6_passes_43 (a0 : Nat) (a2 : Int32) (K : Int32 → HP → Option (Int32 × HP)) : Nat → Int32 → Int32 → HP → Option (Int32 × HP)
  | 0 => fun _ _ _ => none
  | k + 1 => lb_X6_passes_43 a0 a2 K (lp_X6_passes_43 a0 a2 K k)
def f_X6_passes (t : Nat) (h : HP) : Option (Int32 × HP) :=
  (gI 6 10 t h).bind fun x2 =>
  if 999 ≤ x2 then
    (pI 6 10 t 999 h).bind fun h23 =>
    ob (inv 6 t h23 (f_X6_forgetsAll t h23)) fun _ h27 =>
    ob (inv 6 t h27 (f_X6_picksUp t h27)) fun _ h31 =>
    ob (inv 6 t h31 (f_X6_findsAll t h31)) fun x37 h37 =>
    lp_X6_passes_43 t x37 (fun b1_43 h43_ =>
      some (b1_43, h43_))
      1000 0 0 h37
  else
    (gI 6 10 t h).bind fun x12 =>
    (pI 6 10 t (x12 + 1) h).bind fun h23 =>
    ob (inv 6 t h23 (f_X6_forgetsAll t h23)) fun _ h27 =>
    ob (inv 6 t h27 (f_X6_picksUp t h27)) fun _ h31 =>
    ob (inv 6 t h31 (f_X6_findsAll t h31)) fun x37 h37 =>
    lp_X6_passes_43 t x37 (fun b1_43 h43_ =>
      some (b1_43, h43_))
      1000 0 0 h37
def f_X6_thought (t : Nat) (h : HP) : Option (Nat × HP) :=
  (gN 6 27 t h).bind fun x1 => if x1.isNone = true then
    ob (mkO 6 h) fun x8 h8 =>
    ob (f_X6_init x8 h8) fun _ h12 =>
    (pR 6 27 t x8 h12).bind fun h15 =>
    (gR 6 27 t h15).bind fun x19 =>
    ob (inv 6 x19 h15 (f_X6_takeFrom x19 t h15)) fun _ h23 =>
    (gR 6 27 t h23).bind fun x27 =>
    some (x27, h23)
  else
    (gR 6 27 t h).bind fun x19 =>
    ob (inv 6 x19 h (f_X6_takeFrom x19 t h)) fun _ h23 =>
    (gR 6 27 t h23).bind fun x27 =>
    some (x27, h23)
def lb_X6_tuneOf_4 (a0 : Nat) (a1 : Int32) (K : Int32 → HP → Option (Int32 × HP)) (F : Int32 → Int32 → HP → Option (Int32 × HP)) (b2 : Int32) (b3 : Int32) (h : HP) : Option (Int32 × HP) :=
  if 8 ≤ b3 then
    K b2 h
  else
    (gR 6 22 a0 h).bind fun x15 =>
    (lI x15 ((a1 * 8) + b3) h).bind fun x24 =>
    F ((10 * b2) + x24) (b3 + 1) h
def lp_X6_tuneOf_4 (a0 : Nat) (a1 : Int32) (K : Int32 → HP → Option (Int32 × HP)) : Nat → Int32 → Int32 → HP → Option (Int32 × HP)
  | 0 => fun _ _ _ => none
  | k + 1 => lb_X6_tuneOf_4 a0 a1 K (lp_X6_tuneOf_4 a0 a1 K k)
def f_X6_tuneOf (t : Nat) (a1 : Int32) (h : HP) : Option (Int32 × HP) :=
  lp_X6_tuneOf_4 t a1 (fun b2_4 h4_ =>
    some (b2_4, h4_))
    1000 0 0 h
def f_X6_personOf (t : Nat) (a1 : Int32) (a2 : Int32) (h : HP) : Option (Int32 × HP) :=
  ob (inv 6 t h (f_X6_isPerson t a1 h)) fun x2 h2 =>
  if x2 = 0 then
    ob (inv 6 t h2 (f_X6_refuse t (-2) h2)) fun x23 h23 =>
    some (x23, h23)
  else
    ob (f_X6_in a2.toInt64 0 6 h2) fun x14 h14 =>
    if x14 = 0 then
      ob (inv 6 t h14 (f_X6_refuse t (-2) h14)) fun x23 h23 =>
      some (x23, h23)
    else
      if a2 = 0 then
        (gR 6 14 t h14).bind fun x69 =>
        (lI x69 a1 h14).bind fun x73 =>
        some (x73, h14)
      else
      if a2 = 1 then
        (gR 6 15 t h14).bind fun x76 =>
        (lI x76 a1 h14).bind fun x80 =>
        some (x80, h14)
      else
      if a2 = 2 then
        (gR 6 16 t h14).bind fun x83 =>
        (lI x83 a1 h14).bind fun x87 =>
        some (x87, h14)
      else
      if a2 = 3 then
        (gR 6 17 t h14).bind fun x90 =>
        (lI x90 a1 h14).bind fun x94 =>
        some (x94, h14)
      else
      if a2 = 4 then
        (gI 6 13 t h14).bind fun x97 =>
        some ((x97 >>> (a1 &&& 31)) &&& 1, h14)
      else
      if a2 = 5 then
        (gR 6 18 t h14).bind fun x106 =>
        (lI x106 a1 h14).bind fun x110 =>
        some (x110, h14)
      else
      ob (inv 6 t h14 (f_X6_songsOf t a1 h14)) fun x114 h114 =>
      some (x114, h114)
def f_X6_songOf (t : Nat) (a1 : Int32) (a2 : Int32) (h : HP) : Option (Int32 × HP) :=
  ob (inv 6 t h (f_X6_isSong t a1 h)) fun x2 h2 =>
  if x2 = 0 then
    ob (inv 6 t h2 (f_X6_refuse t (-2) h2)) fun x23 h23 =>
    some (x23, h23)
  else
    ob (f_X6_in a2.toInt64 0 4 h2) fun x14 h14 =>
    if x14 = 0 then
      ob (inv 6 t h14 (f_X6_refuse t (-2) h14)) fun x23 h23 =>
      some (x23, h23)
    else
      if a2 = 0 then
        (gR 6 19 t h14).bind fun x61 =>
        (lI x61 a1 h14).bind fun x65 =>
        some (x65, h14)
      else
      if a2 = 1 then
        (gR 6 20 t h14).bind fun x68 =>
        (lI x68 a1 h14).bind fun x72 =>
        some (x72, h14)
      else
      if a2 = 2 then
        (gR 6 21 t h14).bind fun x75 =>
        (lI x75 a1 h14).bind fun x79 =>
        some (x79, h14)
      else
      if a2 = 3 then
        ob (inv 6 t h14 (f_X6_holdersOf t a1 h14)) fun x83 h83 =>
        some (x83, h83)
      else
      ob (inv 6 t h14 (f_X6_tuneOf t a1 h14)) fun x89 h89 =>
      some (x89, h89)
def f_X6_years (t : Nat) (a1 : Int32) (a2 : Int32) (h : HP) : Option (Int32 × HP) :=
  ob (inv 6 t h (f_X6_isPerson t a1 h)) fun x2 h2 =>
  if x2 = 0 then
    ob (inv 6 t h2 (f_X6_refuse t (-2) h2)) fun x19 h19 =>
    some (x19, h19)
  else
    ob (inv 6 t h2 (f_X6_isSong t a2 h2)) fun x10 h10 =>
    if x10 = 0 then
      ob (inv 6 t h10 (f_X6_refuse t (-2) h10)) fun x19 h19 =>
      some (x19, h19)
    else
      ob (inv 6 t h10 (f_X6_knowsIt t a1 a2 h10)) fun x26 h26 =>
      if x26 = 0 then
        some (100, h26)
      else
        (gR 6 23 t h26).bind fun x33 =>
        (lI x33 ((a1 * 6) + a2) h26).bind fun x42 =>
        some (x42, h26)
def f_X6_hold (t : Nat) (a1 : Int32) (a2 : Int32) (h : HP) : Option (Int32 × HP) :=
  ob (inv 6 t h (f_X6_isPerson t a1 h)) fun x2 h2 =>
  if x2 = 0 then
    ob (inv 6 t h2 (f_X6_refuse t (-2) h2)) fun x28 h28 =>
    some (x28, h28)
  else
    ob (inv 6 t h2 (f_X6_isSong t a2 h2)) fun x10 h10 =>
    if x10 = 0 then
      ob (inv 6 t h10 (f_X6_refuse t (-2) h10)) fun x28 h28 =>
      some (x28, h28)
    else
      ob (inv 6 t h10 (f_X6_holdOf t a1 a2 h10)) fun x19 h19 =>
      some (x19, h19)
def f_X6_finder (t : Nat) (h : HP) : Option (Int32 × HP) :=
  ob (inv 6 t h (f_X6_findsAll t h)) fun x1 h1 =>
  some (x1, h1)
def lb_X6_songs_23 (a0 : Nat) (a1 : Int32) (K : Int32 → HP → Option (Int32 × HP)) (F : Int32 → Int32 → HP → Option (Int32 × HP)) (b2 : Int32) (b3 : Int32) (h : HP) : Option (Int32 × HP) :=
  (gI 6 12 a0 h).bind fun x25 =>
  if x25 ≤ b3 then
    K b2 h
  else
    (gR 6 21 a0 h).bind fun x33 =>
    (lI x33 b3 h).bind fun x37 =>
    if x37 = (a1 - 1) then
      F (b2 ||| (1 <<< (b3 &&& 31))) (b3 + 1) h
    else
      F (b2 ||| 0) (b3 + 1) h
def lp_X6_songs_23 (a0 : Nat) (a1 : Int32) (K : Int32 → HP → Option (Int32 × HP)) : Nat → Int32 → Int32 → HP → Option (Int32 × HP)
  | 0 => fun _ _ _ => none
  | k + 1 => lb_X6_songs_23 a0 a1 K (lp_X6_songs_23 a0 a1 K k)
def f_X6_songs (t : Nat) (a1 : Int32) (h : HP) : Option (Int32 × HP) :=
  ob (f_X6_in a1.toInt64 0 3 h) fun x6 h6 =>
  if x6 = 0 then
    ob (inv 6 t h6 (f_X6_refuse t (-2) h6)) fun x15 h15 =>
    some (x15, h15)
  else
    lp_X6_songs_23 t a1 (fun b2_23 h23_ =>
      if a1 = 0 then
        ob (inv 6 t h23_ (f_X6_known t h23_)) fun x64 h64 =>
        some (x64, h64)
      else
        some (b2_23, h23_))
      1000 0 0 h6
def lb_X6_people_27 (a0 : Nat) (a1 : Int32) (a2 : Int32) (K : Int32 → HP → Option (Int32 × HP)) (F : Int32 → Int32 → HP → Option (Int32 × HP)) (b3 : Int32) (b4 : Int32) (h : HP) : Option (Int32 × HP) :=
  (gI 6 11 a0 h).bind fun x30 =>
  if x30 ≤ b4 then
    K b3 h
  else
    ob (inv 6 a0 h (f_X6_songsOf a0 b4 h)) fun x39 h39 =>
    if a1 = 0 then
      if x39 = 0 then
        F (b3 ||| (1 <<< (b4 &&& 31))) (b4 + 1) h39
      else
        F (b3 ||| 0) (b4 + 1) h39
    else
      if x39 = a2 then
        F (b3 ||| (1 <<< (b4 &&& 31))) (b4 + 1) h39
      else
        F (b3 ||| 0) (b4 + 1) h39
def lp_X6_people_27 (a0 : Nat) (a1 : Int32) (a2 : Int32) (K : Int32 → HP → Option (Int32 × HP)) : Nat → Int32 → Int32 → HP → Option (Int32 × HP)
  | 0 => fun _ _ _ => none
  | k + 1 => lb_X6_people_27 a0 a1 a2 K (lp_X6_people_27 a0 a1 a2 K k)
def f_X6_people (t : Nat) (a1 : Int32) (h : HP) : Option (Int32 × HP) :=
  ob (f_X6_in a1.toInt64 0 1 h) fun x4 h4 =>
  if x4 = 0 then
    ob (inv 6 t h4 (f_X6_refuse t (-2) h4)) fun x13 h13 =>
    some (x13, h13)
  else
    ob (inv 6 t h4 (f_X6_known t h4)) fun x18 h18 =>
    lp_X6_people_27 t a1 x18 (fun b3_27 h27_ =>
      some (b3_27, h27_))
      1000 0 0 h18
def f_X6_both (t : Nat) (a1 : Int32) (a2 : Int32) (h : HP) : Option (Int32 × HP) :=
  ob (inv 6 t h (f_X6_isPerson t a1 h)) fun x2 h2 =>
  if x2 = 0 then
    ob (inv 6 t h2 (f_X6_refuse t (-2) h2)) fun x38 h38 =>
    some (x38, h38)
  else
    ob (inv 6 t h2 (f_X6_isPerson t a2 h2)) fun x10 h10 =>
    if x10 = 0 then
      ob (inv 6 t h10 (f_X6_refuse t (-2) h10)) fun x38 h38 =>
      some (x38, h38)
    else
      if a1 = a2 then
        ob (inv 6 t h10 (f_X6_refuse t (-2) h10)) fun x38 h38 =>
        some (x38, h38)
      else
        ob (inv 6 t h10 (f_X6_songsOf t a1 h10)) fun x23 h23 =>
        ob (inv 6 t h23 (f_X6_songsOf t a2 h23)) fun x28 h28 =>
        some (x23 &&& x28, h28)
def lb_X6_most_32 (a0 : Nat) (a1 : Int32) (K : Int32 → HP → Option (Int32 × HP)) (F : Int32 → Int32 → HP → Option (Int32 × HP)) (b2 : Int32) (b3 : Int32) (h : HP) : Option (Int32 × HP) :=
  (gI 6 12 a0 h).bind fun x34 =>
  if x34 ≤ b3 then
    K b2 h
  else
    ob (inv 6 a0 h (f_X6_holdersOf a0 b3 h)) fun x42 h42 =>
    ob (f_X6_bits x42 h42) fun x45 h45 =>
    ob (inv 6 a0 h45 (f_X6_holdersOf a0 b2 h45)) fun x50 h50 =>
    ob (f_X6_bits x50 h50) fun x53 h53 =>
    if a1 = 0 then
      if 0 < (x45 - x53) then
        F b3 (b3 + 1) h53
      else
        F b2 (b3 + 1) h53
    else
      if a1 = 1 then
        if 0 ≤ (x45 - x53) then
          F b2 (b3 + 1) h53
        else
          F b3 (b3 + 1) h53
      else
        F b2 (b3 + 1) h53
def lp_X6_most_32 (a0 : Nat) (a1 : Int32) (K : Int32 → HP → Option (Int32 × HP)) : Nat → Int32 → Int32 → HP → Option (Int32 × HP)
  | 0 => fun _ _ _ => none
  | k + 1 => lb_X6_most_32 a0 a1 K (lp_X6_most_32 a0 a1 K k)
def f_X6_most (t : Nat) (a1 : Int32) (h : HP) : Option (Int32 × HP) :=
  ob (f_X6_in a1.toInt64 0 1 h) fun x4 h4 =>
  if x4 = 0 then
    ob (inv 6 t h4 (f_X6_refuse t (-2) h4)) fun x13 h13 =>
    some (x13, h13)
  else
    (gI 6 12 t h4).bind fun x18 =>
    if x18 = 0 then
      lp_X6_most_32 t a1 (fun b2_32 h32_ =>
        some (b2_32, h32_))
        1000 (-1) 1 h4
    else
      lp_X6_most_32 t a1 (fun b2_32 h32_ =>
        some (b2_32, h32_))
        1000 0 1 h4
def lb_X6_table_32 (a0 : Nat) (a3 : Int32) (K : Int32 → HP → Option (Int32 × HP)) (F : Int32 → Int32 → HP → Option (Int32 × HP)) (b2 : Int32) (b4 : Int32) (h : HP) : Option (Int32 × HP) :=
  (gI 6 11 a0 h).bind fun x35 =>
  if x35 ≤ b4 then
    K b2 h
  else
    if ((b2 >>> (b4 &&& 31)) &&& 1) = 1 then
      (gR 6 18 a0 h).bind fun x53 =>
      (lI x53 b4 h).bind fun x58 =>
      F (b2 ||| x58) (b4 + 1) h
    else
      F (b2 ||| 0) (b4 + 1) h
def lp_X6_table_32 (a0 : Nat) (a3 : Int32) (K : Int32 → HP → Option (Int32 × HP)) : Nat → Int32 → Int32 → HP → Option (Int32 × HP)
  | 0 => fun _ _ _ => none
  | k + 1 => lb_X6_table_32 a0 a3 K (lp_X6_table_32 a0 a3 K k)
def lb_X6_table_21 (a0 : Nat) (K : Int32 → HP → Option (Int32 × HP)) (F : Int32 → Int32 → HP → Option (Int32 × HP)) (b2 : Int32) (b3 : Int32) (h : HP) : Option (Int32 × HP) :=
  (gI 6 11 a0 h).bind fun x23 =>
  if x23 ≤ b3 then
    K b2 h
  else
    lp_X6_table_32 a0 b3 (fun b2_32 h32_ =>
      F b2_32 (b3 + 1) h32_)
      1000 b2 0 h
def lp_X6_table_21 (a0 : Nat) (K : Int32 → HP → Option (Int32 × HP)) : Nat → Int32 → Int32 → HP → Option (Int32 × HP)
  | 0 => fun _ _ _ => none
  | k + 1 => lb_X6_table_21 a0 K (lp_X6_table_21 a0 K k)
def f_X6_table (t : Nat) (a1 : Int32) (h : HP) : Option (Int32 × HP) :=
  ob (inv 6 t h (f_X6_isPerson t a1 h)) fun x2 h2 =>
  if x2 = 0 then
    ob (inv 6 t h2 (f_X6_refuse t (-2) h2)) fun x11 h11 =>
    some (x11, h11)
  else
    lp_X6_table_21 t (fun b2_21 h21_ =>
      some (b2_21, h21_))
      1000 (1 <<< (a1 &&& 31)) 0 h2
def lb_X6_weakest_22 (a0 : Nat) (a1 : Int32) (K : Int32 → HP → Option (Int32 × HP)) (F : Int32 → Int32 → Int32 → HP → Option (Int32 × HP)) (b2 : Int32) (b3 : Int32) (b4 : Int32) (h : HP) : Option (Int32 × HP) :=
  (gI 6 11 a0 h).bind fun x25 =>
  if x25 ≤ b4 then
    K b2 h
  else
    ob (inv 6 a0 h (f_X6_holdOf a0 b4 a1 h)) fun x35 h35 =>
    (gR 6 23 a0 h35).bind fun x39 =>
    (lI x39 ((b4 * 6) + a1) h35).bind fun x49 =>
    ob (inv 6 a0 h35 (f_X6_knowsIt a0 b4 a1 h35)) fun x57 h57 =>
    if x57 = 0 then
      F b2 b3 (b4 + 1) h57
    else
      if b2 = (-1) then
        F b4 (x35 - x49) (b4 + 1) h57
      else
        if b3 ≤ (x35 - x49) then
          F b2 b3 (b4 + 1) h57
        else
          F b4 (x35 - x49) (b4 + 1) h57
def lp_X6_weakest_22 (a0 : Nat) (a1 : Int32) (K : Int32 → HP → Option (Int32 × HP)) : Nat → Int32 → Int32 → Int32 → HP → Option (Int32 × HP)
  | 0 => fun _ _ _ _ => none
  | k + 1 => lb_X6_weakest_22 a0 a1 K (lp_X6_weakest_22 a0 a1 K k)
def f_X6_weakest (t : Nat) (a1 : Int32) (h : HP) : Option (Int32 × HP) :=
  ob (inv 6 t h (f_X6_isSong t a1 h)) fun x2 h2 =>
  if x2 = 0 then
    ob (inv 6 t h2 (f_X6_refuse t (-2) h2)) fun x11 h11 =>
    some (x11, h11)
  else
    lp_X6_weakest_22 t a1 (fun b2_22 h22_ =>
      some (b2_22, h22_))
      1000 (-1) 0 0 h2
def lb_X6_ofKind_23 (a0 : Nat) (a1 : Int32) (K : Int32 → HP → Option (Int32 × HP)) (F : Int32 → Int32 → HP → Option (Int32 × HP)) (b2 : Int32) (b3 : Int32) (h : HP) : Option (Int32 × HP) :=
  (gI 6 11 a0 h).bind fun x25 =>
  if x25 ≤ b3 then
    K b2 h
  else
    (gR 6 14 a0 h).bind fun x33 =>
    (lI x33 b3 h).bind fun x37 =>
    if x37 = a1 then
      F (b2 + 1) (b3 + 1) h
    else
      F (b2 + 0) (b3 + 1) h
def lp_X6_ofKind_23 (a0 : Nat) (a1 : Int32) (K : Int32 → HP → Option (Int32 × HP)) : Nat → Int32 → Int32 → HP → Option (Int32 × HP)
  | 0 => fun _ _ _ => none
  | k + 1 => lb_X6_ofKind_23 a0 a1 K (lp_X6_ofKind_23 a0 a1 K k)
def f_X6_ofKind (t : Nat) (a1 : Int32) (h : HP) : Option (Int32 × HP) :=
  ob (f_X6_in a1.toInt64 0 5 h) fun x6 h6 =>
  if x6 = 0 then
    ob (inv 6 t h6 (f_X6_refuse t (-2) h6)) fun x15 h15 =>
    some (x15, h15)
  else
    lp_X6_ofKind_23 t a1 (fun b2_23 h23_ =>
      some (b2_23, h23_))
      1000 0 0 h6
def lb_X6_behind_48 (a1 : Int32) (a2 : Int32) (a3 : Int32) (a4 : Nat) (K : HP → Option (Int32 × HP)) (F : Int32 → HP → Option (Int32 × HP)) (b5 : Int32) (h : HP) : Option (Int32 × HP) :=
  if a2 ≤ b5 then
    K h
  else
    ob (inv 6 a4 h (f_X6_passes a4 h)) fun x56 h56 =>
    F (b5 + 1) h56
def lp_X6_behind_48 (a1 : Int32) (a2 : Int32) (a3 : Int32) (a4 : Nat) (K : HP → Option (Int32 × HP)) : Nat → Int32 → HP → Option (Int32 × HP)
  | 0 => fun _ _ => none
  | k + 1 => lb_X6_behind_48 a1 a2 a3 a4 K (lp_X6_behind_48 a1 a2 a3 a4 K k)
def f_X6_behind (t : Nat) (a1 : Int32) (a2 : Int32) (a3 : Int32) (h : HP) : Option (Int32 × HP) :=
  ob (inv 6 t h (f_X6_isSong t a1 h)) fun x2 h2 =>
  if x2 = 0 then
    ob (inv 6 t h2 (f_X6_refuse t (-2) h2)) fun x35 h35 =>
    some (x35, h35)
  else
    ob (f_X6_in a2.toInt64 0 60 h2) fun x14 h14 =>
    if x14 = 0 then
      ob (inv 6 t h14 (f_X6_refuse t (-2) h14)) fun x35 h35 =>
      some (x35, h35)
    else
      ob (f_X6_in a3.toInt64 0 2 h14) fun x26 h26 =>
      if x26 = 0 then
        ob (inv 6 t h26 (f_X6_refuse t (-2) h26)) fun x35 h35 =>
        some (x35, h35)
      else
        ob (inv 6 t h26 (f_X6_thought t h26)) fun x40 h40 =>
        lp_X6_behind_48 a1 a2 a3 x40 (fun h48_ =>
          if a3 = 0 then
            ob (inv 6 x40 h48_ (f_X6_holdersOf x40 a1 h48_)) fun x73 h73 =>
            some (x73, h73)
          else
            if a3 = 1 then
              (gR 6 21 x40 h48_).bind fun x86 =>
              (lI x86 a1 h48_).bind fun x90 =>
              some (x90, h48_)
            else
              ob (inv 6 x40 h48_ (f_X6_known x40 h48_)) fun x96 h96 =>
              some (x96, h96))
          1000 0 h40
def lb_X6_runsOut_2 (a0 : Nat) (a1 : Int32) (K : Int32 → HP → Option (Int32 × HP)) (F : Int32 → HP → Option (Int32 × HP)) (b2 : Int32) (h : HP) : Option (Int32 × HP) :=
  if 60 < b2 then
    K b2 h
  else
    (gR 6 21 a0 h).bind fun x9 =>
    (lI x9 a1 h).bind fun x13 =>
    if x13 = 0 then
      ob (inv 6 a0 h (f_X6_holdersOf a0 a1 h)) fun x20 h20 =>
      (pI 6 36 a0 x20 h20).bind fun h23 =>
      ob (inv 6 a0 h23 (f_X6_passes a0 h23)) fun x27 h27 =>
      F (b2 + 1) h27
    else
      K b2 h
def lp_X6_runsOut_2 (a0 : Nat) (a1 : Int32) (K : Int32 → HP → Option (Int32 × HP)) : Nat → Int32 → HP → Option (Int32 × HP)
  | 0 => fun _ _ => none
  | k + 1 => lb_X6_runsOut_2 a0 a1 K (lp_X6_runsOut_2 a0 a1 K k)
def f_X6_runsOut (t : Nat) (a1 : Int32) (h : HP) : Option (Int32 × HP) :=
  lp_X6_runsOut_2 t a1 (fun b2_2 h2_ =>
    (gR 6 21 t h2_).bind fun x38 =>
    (lI x38 a1 h2_).bind fun x42 =>
    if x42 = 0 then
      some (61, h2_)
    else
      if b2_2 ≤ 60 then
        some (b2_2, h2_)
      else
        some (61, h2_))
    1000 0 h
def f_X6_lostNow (t : Nat) (a1 : Int32) (h : HP) : Option (Int32 × HP) :=
  ob (inv 6 t h (f_X6_thought t h)) fun x1 h1 =>
  ob (inv 6 x1 h1 (f_X6_runsOut x1 a1 h1)) fun x5 h5 =>
  some (x5, h5)
def f_X6_never (a0 : Int32) (h : HP) : Option (Int32 × HP) :=
  if a0 ≤ 60 then
    some (a0, h)
  else
    some ((-1), h)
def f_X6_lostIn (t : Nat) (a1 : Int32) (h : HP) : Option (Int32 × HP) :=
  ob (inv 6 t h (f_X6_isSong t a1 h)) fun x2 h2 =>
  if x2 = 0 then
    ob (inv 6 t h2 (f_X6_refuse t (-2) h2)) fun x22 h22 =>
    some (x22, h22)
  else
    ob (inv 6 t h2 (f_X6_lostNow t a1 h2)) fun x10 h10 =>
    ob (f_X6_never x10 h10) fun x13 h13 =>
    some (x13, h13)
def f_X6_last (t : Nat) (a1 : Int32) (h : HP) : Option (Int32 × HP) :=
  ob (inv 6 t h (f_X6_isSong t a1 h)) fun x2 h2 =>
  if x2 = 0 then
    ob (inv 6 t h2 (f_X6_refuse t (-2) h2)) fun x11 h11 =>
    some (x11, h11)
  else
    (gR 6 21 t h2).bind fun x16 =>
    (lI x16 a1 h2).bind fun x20 =>
    if x20 = 0 then
      ob (inv 6 t h2 (f_X6_lostNow t a1 h2)) fun x26 h26 =>
      if x26 ≤ 60 then
        (gR 6 27 t h26).bind fun x39 =>
        (gI 6 36 x39 h26).bind fun x42 =>
        some (x42, h26)
      else
        some ((-1), h26)
    else
      some ((-1), h2)
def lb_X6_sungIn_22 (a1 : Int32) (a2 : Nat) (K : Int32 → HP → Option (Int32 × HP)) (F : Int32 → HP → Option (Int32 × HP)) (b3 : Int32) (h : HP) : Option (Int32 × HP) :=
  if 60 ≤ b3 then
    K b3 h
  else
    (gR 6 21 a2 h).bind fun x29 =>
    (lI x29 a1 h).bind fun x33 =>
    if x33 = 2 then
      K b3 h
    else
      ob (inv 6 a2 h (f_X6_passes a2 h)) fun x39 h39 =>
      F (b3 + 1) h39
def lp_X6_sungIn_22 (a1 : Int32) (a2 : Nat) (K : Int32 → HP → Option (Int32 × HP)) : Nat → Int32 → HP → Option (Int32 × HP)
  | 0 => fun _ _ => none
  | k + 1 => lb_X6_sungIn_22 a1 a2 K (lp_X6_sungIn_22 a1 a2 K k)
def f_X6_sungIn (t : Nat) (a1 : Int32) (h : HP) : Option (Int32 × HP) :=
  ob (inv 6 t h (f_X6_isSong t a1 h)) fun x2 h2 =>
  if x2 = 0 then
    ob (inv 6 t h2 (f_X6_refuse t (-2) h2)) fun x11 h11 =>
    some (x11, h11)
  else
    ob (inv 6 t h2 (f_X6_thought t h2)) fun x16 h16 =>
    lp_X6_sungIn_22 a1 x16 (fun b3_22 h22_ =>
      (gR 6 21 x16 h22_).bind fun x50 =>
      (lI x50 a1 h22_).bind fun x54 =>
      if x54 = 2 then
        some (b3_22, h22_)
      else
        some ((-1), h22_))
      1000 0 h16
def lb_X6_forgets_31 (a1 : Int32) (a2 : Int32) (a3 : Nat) (K : Int32 → HP → Option (Int32 × HP)) (F : Int32 → HP → Option (Int32 × HP)) (b4 : Int32) (h : HP) : Option (Int32 × HP) :=
  if 60 ≤ b4 then
    K b4 h
  else
    ob (inv 6 a3 h (f_X6_knowsIt a3 a1 a2 h)) fun x41 h41 =>
    if x41 = 0 then
      K b4 h41
    else
      ob (inv 6 a3 h41 (f_X6_passes a3 h41)) fun x48 h48 =>
      F (b4 + 1) h48
def lp_X6_forgets_31 (a1 : Int32) (a2 : Int32) (a3 : Nat) (K : Int32 → HP → Option (Int32 × HP)) : Nat → Int32 → HP → Option (Int32 × HP)
  | 0 => fun _ _ => none
  | k + 1 => lb_X6_forgets_31 a1 a2 a3 K (lp_X6_forgets_31 a1 a2 a3 K k)
def f_X6_forgets (t : Nat) (a1 : Int32) (a2 : Int32) (h : HP) : Option (Int32 × HP) :=
  ob (inv 6 t h (f_X6_isPerson t a1 h)) fun x2 h2 =>
  if x2 = 0 then
    ob (inv 6 t h2 (f_X6_refuse t (-2) h2)) fun x19 h19 =>
    some (x19, h19)
  else
    ob (inv 6 t h2 (f_X6_isSong t a2 h2)) fun x10 h10 =>
    if x10 = 0 then
      ob (inv 6 t h10 (f_X6_refuse t (-2) h10)) fun x19 h19 =>
      some (x19, h19)
    else
      ob (inv 6 t h10 (f_X6_thought t h10)) fun x24 h24 =>
      lp_X6_forgets_31 a1 a2 x24 (fun b4_31 h31_ =>
        ob (inv 6 x24 h31_ (f_X6_knowsIt x24 a1 a2 h31_)) fun x61 h61 =>
        if x61 = 0 then
          some (b4_31, h61)
        else
          some ((-1), h61))
        1000 0 h24
def lb_X6_keep_41 (a0 : Nat) (a1 : Int32) (a2 : Int32) (a3 : Int32) (a4 : Int32) (a5 : Nat) (K : HP → Option (Int32 × HP)) (F : Int32 → HP → Option (Int32 × HP)) (b6 : Int32) (h : HP) : Option (Int32 × HP) :=
  (gI 6 11 a0 h).bind fun x44 =>
  if x44 ≤ b6 then
    K h
  else
    (gR 6 18 a5 h).bind fun x52 =>
    (lI x52 b6 h).bind fun x58 =>
    (sI x52 b6 (x58 &&& ((1 <<< (a4 &&& 31)) ^^^ (-1))) h).bind fun h66 =>
    F (b6 + 1) h66
def lp_X6_keep_41 (a0 : Nat) (a1 : Int32) (a2 : Int32) (a3 : Int32) (a4 : Int32) (a5 : Nat) (K : HP → Option (Int32 × HP)) : Nat → Int32 → HP → Option (Int32 × HP)
  | 0 => fun _ _ => none
  | k + 1 => lb_X6_keep_41 a0 a1 a2 a3 a4 a5 K (lp_X6_keep_41 a0 a1 a2 a3 a4 a5 K k)
def lb_X6_keep_23 (a0 : Nat) (a1 : Int32) (K : Int32 → HP → Option (Int32 × HP)) (F : Int32 → Int32 → Int32 → HP → Option (Int32 × HP)) (b2 : Int32) (b3 : Int32) (b4 : Int32) (h : HP) : Option (Int32 × HP) :=
  (gI 6 11 a0 h).bind fun x26 =>
  if x26 ≤ b4 then
    K b2 h
  else
    ob (inv 6 a0 h (f_X6_thought a0 h)) fun x33 h33 =>
    lp_X6_keep_41 a0 a1 b2 b3 b4 x33 (fun h41_ =>
      (gR 6 18 x33 h41_).bind fun x75 =>
      (sI x75 b4 0 h41_).bind fun h81 =>
      ob (inv 6 x33 h81 (f_X6_runsOut x33 a1 h81)) fun x85 h85 =>
      if b3 ≤ x85 then
        F b2 b3 (b4 + 1) h85
      else
        F b4 x85 (b4 + 1) h85)
      1000 0 h33
def lp_X6_keep_23 (a0 : Nat) (a1 : Int32) (K : Int32 → HP → Option (Int32 × HP)) : Nat → Int32 → Int32 → Int32 → HP → Option (Int32 × HP)
  | 0 => fun _ _ _ _ => none
  | k + 1 => lb_X6_keep_23 a0 a1 K (lp_X6_keep_23 a0 a1 K k)
def f_X6_keep (t : Nat) (a1 : Int32) (h : HP) : Option (Int32 × HP) :=
  ob (inv 6 t h (f_X6_isSong t a1 h)) fun x2 h2 =>
  if x2 = 0 then
    ob (inv 6 t h2 (f_X6_refuse t (-2) h2)) fun x11 h11 =>
    some (x11, h11)
  else
    lp_X6_keep_23 t a1 (fun b2_23 h23_ =>
      some (b2_23, h23_))
      1000 (-1) 61 0 h2
def lb_X6_workFor_33 (a0 : Nat) (a1 : Int32) (a2 : Int32) (K : Int32 → HP → Option (Int32 × HP)) (F : Int32 → Int32 → HP → Option (Int32 × HP)) (b3 : Int32) (b4 : Int32) (h : HP) : Option (Int32 × HP) :=
  if b4 < 0 then
    K b3 h
  else
    ob (inv 6 a0 h (f_X6_thought a0 h)) fun x39 h39 =>
    (pI 6 9 x39 b4 h39).bind fun h48 =>
    ob (inv 6 x39 h48 (f_X6_runsOut x39 a1 h48)) fun x54 h54 =>
    if a2 < x54 then
      F b3 (b4 + (-1)) h54
    else
      F b4 (b4 + (-1)) h54
def lp_X6_workFor_33 (a0 : Nat) (a1 : Int32) (a2 : Int32) (K : Int32 → HP → Option (Int32 × HP)) : Nat → Int32 → Int32 → HP → Option (Int32 × HP)
  | 0 => fun _ _ _ => none
  | k + 1 => lb_X6_workFor_33 a0 a1 a2 K (lp_X6_workFor_33 a0 a1 a2 K k)
def f_X6_workFor (t : Nat) (a1 : Int32) (a2 : Int32) (h : HP) : Option (Int32 × HP) :=
  ob (inv 6 t h (f_X6_isSong t a1 h)) fun x2 h2 =>
  if x2 = 0 then
    ob (inv 6 t h2 (f_X6_refuse t (-2) h2)) fun x23 h23 =>
    some (x23, h23)
  else
    ob (f_X6_in a2.toInt64 0 60 h2) fun x14 h14 =>
    if x14 = 0 then
      ob (inv 6 t h14 (f_X6_refuse t (-2) h14)) fun x23 h23 =>
      some (x23, h23)
    else
      lp_X6_workFor_33 t a1 a2 (fun b3_33 h33_ =>
        some (b3_33, h33_))
        1000 (-1) 9 h14
def lb_X6_teach_80 (a0 : Nat) (a1 : Int32) (a2 : Int32) (a3 : Int32) (a4 : Int32) (a5 : Int32) (a6 : Int32) (a7 : Nat) (K : HP → Option (Int32 × HP)) (F : Int32 → HP → Option (Int32 × HP)) (b8 : Int32) (h : HP) : Option (Int32 × HP) :=
  (gI 6 11 a0 h).bind fun x83 =>
  if x83 ≤ b8 then
    K h
  else
    (gR 6 23 a7 h).bind fun x100 =>
    if ((a6 >>> (b8 &&& 31)) &&& 1) = 1 then
      (sI x100 ((b8 * 6) + a1) 0 h).bind fun h128 =>
      F (b8 + 1) h128
    else
      (gR 6 23 a7 h).bind fun x122 =>
      (lI x122 ((b8 * 6) + a1) h).bind fun x127 =>
      (sI x100 ((b8 * 6) + a1) x127 h).bind fun h128 =>
      F (b8 + 1) h128
def lp_X6_teach_80 (a0 : Nat) (a1 : Int32) (a2 : Int32) (a3 : Int32) (a4 : Int32) (a5 : Int32) (a6 : Int32) (a7 : Nat) (K : HP → Option (Int32 × HP)) : Nat → Int32 → HP → Option (Int32 × HP)
  | 0 => fun _ _ => none
  | k + 1 => lb_X6_teach_80 a0 a1 a2 a3 a4 a5 a6 a7 K (lp_X6_teach_80 a0 a1 a2 a3 a4 a5 a6 a7 K k)
def lb_X6_teach_43 (a0 : Nat) (a1 : Int32) (a2 : Int32) (a5 : Int32) (K : Int32 → HP → Option (Int32 × HP)) (F : Int32 → Int32 → Int32 → HP → Option (Int32 × HP)) (b3 : Int32) (b4 : Int32) (b6 : Int32) (h : HP) : Option (Int32 × HP) :=
  (gI 6 11 a0 h).bind fun x47 =>
  if (1 <<< (x47 &&& 31)) ≤ b6 then
    K b3 h
  else
    ob (f_X6_bits b6 h) fun x56 h56 =>
    if x56 = a2 then
      if (b6 &&& a5) = 0 then
        ob (inv 6 a0 h56 (f_X6_thought a0 h56)) fun x72 h72 =>
        lp_X6_teach_80 a0 a1 a2 b3 b4 a5 b6 x72 (fun h80_ =>
          ob (inv 6 x72 h80_ (f_X6_runsOut x72 a1 h80_)) fun x138 h138 =>
          if b4 ≤ x138 then
            F b3 b4 (b6 + 1) h138
          else
            F b6 x138 (b6 + 1) h138)
          1000 0 h72
      else
        F b3 b4 (b6 + 1) h56
    else
      F b3 b4 (b6 + 1) h56
def lp_X6_teach_43 (a0 : Nat) (a1 : Int32) (a2 : Int32) (a5 : Int32) (K : Int32 → HP → Option (Int32 × HP)) : Nat → Int32 → Int32 → Int32 → HP → Option (Int32 × HP)
  | 0 => fun _ _ _ _ => none
  | k + 1 => lb_X6_teach_43 a0 a1 a2 a5 K (lp_X6_teach_43 a0 a1 a2 a5 K k)
def f_X6_teach (t : Nat) (a1 : Int32) (a2 : Int32) (h : HP) : Option (Int32 × HP) :=
  ob (inv 6 t h (f_X6_isSong t a1 h)) fun x2 h2 =>
  if x2 = 0 then
    ob (inv 6 t h2 (f_X6_refuse t (-2) h2)) fun x23 h23 =>
    some (x23, h23)
  else
    ob (f_X6_in a2.toInt64 0 8 h2) fun x14 h14 =>
    if x14 = 0 then
      ob (inv 6 t h14 (f_X6_refuse t (-2) h14)) fun x23 h23 =>
      some (x23, h23)
    else
      ob (inv 6 t h14 (f_X6_holdersOf t a1 h14)) fun x35 h35 =>
      lp_X6_teach_43 t a1 a2 x35 (fun b3_43 h43_ =>
        some (b3_43, h43_))
        1000 (-1) 61 0 h35
def lb_X6_hummer_22 (a0 : Nat) (a1 : Int32) (K : Int32 → HP → Option (Int32 × HP)) (F : Int32 → Int32 → Int32 → HP → Option (Int32 × HP)) (b2 : Int32) (b3 : Int32) (b4 : Int32) (h : HP) : Option (Int32 × HP) :=
  (gI 6 11 a0 h).bind fun x25 =>
  if x25 ≤ b4 then
    K b2 h
  else
    ob (inv 6 a0 h (f_X6_knowsIt a0 b4 a1 h)) fun x35 h35 =>
    if x35 = 0 then
      F b2 b3 (b4 + 1) h35
    else
      ob (inv 6 a0 h35 (f_X6_thought a0 h35)) fun x42 h42 =>
      (gI 6 13 x42 h42).bind fun x50 =>
      (pI 6 13 x42 (x50 ||| (1 <<< (b4 &&& 31))) h42).bind fun h58 =>
      ob (inv 6 x42 h58 (f_X6_runsOut x42 a1 h58)) fun x64 h64 =>
      if x64 ≤ b3 then
        F b2 b3 (b4 + 1) h64
      else
        F b4 x64 (b4 + 1) h64
def lp_X6_hummer_22 (a0 : Nat) (a1 : Int32) (K : Int32 → HP → Option (Int32 × HP)) : Nat → Int32 → Int32 → Int32 → HP → Option (Int32 × HP)
  | 0 => fun _ _ _ _ => none
  | k + 1 => lb_X6_hummer_22 a0 a1 K (lp_X6_hummer_22 a0 a1 K k)
def f_X6_hummer (t : Nat) (a1 : Int32) (h : HP) : Option (Int32 × HP) :=
  ob (inv 6 t h (f_X6_isSong t a1 h)) fun x2 h2 =>
  if x2 = 0 then
    ob (inv 6 t h2 (f_X6_refuse t (-2) h2)) fun x11 h11 =>
    some (x11, h11)
  else
    lp_X6_hummer_22 t a1 (fun b2_22 h22_ =>
      some (b2_22, h22_))
      1000 (-1) (-1) 0 h2
def lb_X6_next_7 (a0 : Nat) (K : Int32 → HP → Option (Int32 × HP)) (F : Int32 → Int32 → Int32 → HP → Option (Int32 × HP)) (b1 : Int32) (b2 : Int32) (b3 : Int32) (h : HP) : Option (Int32 × HP) :=
  (gI 6 12 a0 h).bind fun x9 =>
  if x9 ≤ b3 then
    K b1 h
  else
    (gR 6 21 a0 h).bind fun x16 =>
    (lI x16 b3 h).bind fun x20 =>
    if x20 = 0 then
      ob (inv 6 a0 h (f_X6_lostNow a0 b3 h)) fun x26 h26 =>
      if b2 ≤ x26 then
        F b1 b2 (b3 + 1) h26
      else
        F b3 x26 (b3 + 1) h26
    else
      if b2 ≤ 61 then
        F b1 b2 (b3 + 1) h
      else
        F b3 61 (b3 + 1) h
def lp_X6_next_7 (a0 : Nat) (K : Int32 → HP → Option (Int32 × HP)) : Nat → Int32 → Int32 → Int32 → HP → Option (Int32 × HP)
  | 0 => fun _ _ _ _ => none
  | k + 1 => lb_X6_next_7 a0 K (lp_X6_next_7 a0 K k)
def f_X6_next (t : Nat) (h : HP) : Option (Int32 × HP) :=
  lp_X6_next_7 t (fun b1_7 h7_ =>
    some (b1_7, h7_))
    1000 (-1) 61 0 h
def lb_X6_placeOf_4 (a0 : Nat) (a1 : Int32) (K : Int32 → HP → Option (Int32 × HP)) (F : Int32 → Int32 → HP → Option (Int32 × HP)) (b2 : Int32) (b3 : Int32) (h : HP) : Option (Int32 × HP) :=
  (gI 6 12 a0 h).bind fun x6 =>
  if x6 ≤ b3 then
    K b2 h
  else
    (gR 6 37 a0 h).bind fun x14 =>
    (lI x14 b3 h).bind fun x18 =>
    (gR 6 37 a0 h).bind fun x20 =>
    (lI x20 a1 h).bind fun x24 =>
    if x18 < x24 then
      F (b2 + 1) (b3 + 1) h
    else
      (gR 6 37 a0 h).bind fun x29 =>
      (lI x29 b3 h).bind fun x33 =>
      (gR 6 37 a0 h).bind fun x35 =>
      (lI x35 a1 h).bind fun x39 =>
      if x33 = x39 then
        if a1 ≤ b3 then
          F (b2 + 0) (b3 + 1) h
        else
          F (b2 + 1) (b3 + 1) h
      else
        F (b2 + 0) (b3 + 1) h
def lp_X6_placeOf_4 (a0 : Nat) (a1 : Int32) (K : Int32 → HP → Option (Int32 × HP)) : Nat → Int32 → Int32 → HP → Option (Int32 × HP)
  | 0 => fun _ _ _ => none
  | k + 1 => lb_X6_placeOf_4 a0 a1 K (lp_X6_placeOf_4 a0 a1 K k)
def f_X6_placeOf (t : Nat) (a1 : Int32) (h : HP) : Option (Int32 × HP) :=
  lp_X6_placeOf_4 t a1 (fun b2_4 h4_ =>
    some (b2_4, h4_))
    1000 0 0 h
def lb_X6_order_17 (a0 : Nat) (a1 : Int32) (K : HP → Option (Int32 × HP)) (F : Int32 → HP → Option (Int32 × HP)) (b2 : Int32) (h : HP) : Option (Int32 × HP) :=
  (gI 6 12 a0 h).bind fun x19 =>
  if x19 ≤ b2 then
    K h
  else
    (gR 6 37 a0 h).bind fun x26 =>
    ob (inv 6 a0 h (f_X6_lostNow a0 b2 h)) fun x32 h32 =>
    (sI x26 b2 x32 h32).bind fun h35 =>
    F (b2 + 1) h35
def lp_X6_order_17 (a0 : Nat) (a1 : Int32) (K : HP → Option (Int32 × HP)) : Nat → Int32 → HP → Option (Int32 × HP)
  | 0 => fun _ _ => none
  | k + 1 => lb_X6_order_17 a0 a1 K (lp_X6_order_17 a0 a1 K k)
def lb_X6_order_44 (a0 : Nat) (a1 : Int32) (K : Int32 → HP → Option (Int32 × HP)) (F : Int32 → HP → Option (Int32 × HP)) (b2 : Int32) (h : HP) : Option (Int32 × HP) :=
  ob (inv 6 a0 h (f_X6_placeOf a0 b2 h)) fun x46 h46 =>
  if x46 = a1 then
    K b2 h46
  else
    F (b2 + 1) h46
def lp_X6_order_44 (a0 : Nat) (a1 : Int32) (K : Int32 → HP → Option (Int32 × HP)) : Nat → Int32 → HP → Option (Int32 × HP)
  | 0 => fun _ _ => none
  | k + 1 => lb_X6_order_44 a0 a1 K (lp_X6_order_44 a0 a1 K k)
def f_X6_order (t : Nat) (a1 : Int32) (h : HP) : Option (Int32 × HP) :=
  ob (inv 6 t h (f_X6_isSong t a1 h)) fun x2 h2 =>
  if x2 = 0 then
    ob (inv 6 t h2 (f_X6_refuse t (-2) h2)) fun x11 h11 =>
    some (x11, h11)
  else
    lp_X6_order_17 t a1 (fun h17_ =>
      lp_X6_order_44 t a1 (fun b2_44 h44_ =>
        some (b2_44, h44_))
        1000 0 h17_)
      1000 0 h2
def lb_X6_griefs_81 (a0 : Nat) (a1 : Int32) (a2 : Int32) (a3 : Int32) (a4 : Int32) (a5 : Int32) (a6 : Nat) (K : HP → Option (Int32 × HP)) (F : Int32 → HP → Option (Int32 × HP)) (b7 : Int32) (h : HP) : Option (Int32 × HP) :=
  if a3 ≤ b7 then
    K h
  else
    ob (inv 6 a6 h (f_X6_knowsIt a6 a1 a2 h)) fun x91 h91 =>
    if x91 = 0 then
      K h91
    else
      ob (inv 6 a6 h91 (f_X6_passes a6 h91)) fun x99 h99 =>
      F (b7 + 1) h99
def lp_X6_griefs_81 (a0 : Nat) (a1 : Int32) (a2 : Int32) (a3 : Int32) (a4 : Int32) (a5 : Int32) (a6 : Nat) (K : HP → Option (Int32 × HP)) : Nat → Int32 → HP → Option (Int32 × HP)
  | 0 => fun _ _ => none
  | k + 1 => lb_X6_griefs_81 a0 a1 a2 a3 a4 a5 a6 K (lp_X6_griefs_81 a0 a1 a2 a3 a4 a5 a6 K k)
def lb_X6_griefs_58 (a0 : Nat) (a1 : Int32) (a2 : Int32) (a3 : Int32) (K : Int32 → HP → Option (Int32 × HP)) (F : Int32 → Int32 → HP → Option (Int32 × HP)) (b4 : Int32) (b5 : Int32) (h : HP) : Option (Int32 × HP) :=
  if b5 < 0 then
    K b4 h
  else
    ob (inv 6 a0 h (f_X6_thought a0 h)) fun x64 h64 =>
    (gR 6 17 x64 h64).bind fun x71 =>
    (sI x71 a1 b5 h64).bind fun h77 =>
    lp_X6_griefs_81 a0 a1 a2 a3 b4 b5 x64 (fun h81_ =>
      ob (inv 6 x64 h81_ (f_X6_knowsIt x64 a1 a2 h81_)) fun x113 h113 =>
      if x113 = 0 then
        F b5 (b5 + (-1)) h113
      else
        F b4 (b5 + (-1)) h113)
      1000 0 h77
def lp_X6_griefs_58 (a0 : Nat) (a1 : Int32) (a2 : Int32) (a3 : Int32) (K : Int32 → HP → Option (Int32 × HP)) : Nat → Int32 → Int32 → HP → Option (Int32 × HP)
  | 0 => fun _ _ _ => none
  | k + 1 => lb_X6_griefs_58 a0 a1 a2 a3 K (lp_X6_griefs_58 a0 a1 a2 a3 K k)
def f_X6_griefs (t : Nat) (a1 : Int32) (a2 : Int32) (a3 : Int32) (h : HP) : Option (Int32 × HP) :=
  ob (inv 6 t h (f_X6_isPerson t a1 h)) fun x2 h2 =>
  if x2 = 0 then
    ob (inv 6 t h2 (f_X6_refuse t (-2) h2)) fun x31 h31 =>
    some (x31, h31)
  else
    ob (inv 6 t h2 (f_X6_isSong t a2 h2)) fun x10 h10 =>
    if x10 = 0 then
      ob (inv 6 t h10 (f_X6_refuse t (-2) h10)) fun x31 h31 =>
      some (x31, h31)
    else
      ob (f_X6_in a3.toInt64 0 60 h10) fun x22 h22 =>
      if x22 = 0 then
        ob (inv 6 t h22 (f_X6_refuse t (-2) h22)) fun x31 h31 =>
        some (x31, h31)
      else
        ob (inv 6 t h22 (f_X6_knowsIt t a1 a2 h22)) fun x38 h38 =>
        if x38 = 0 then
          ob (inv 6 t h38 (f_X6_refuse t (-5) h38)) fun x47 h47 =>
          some (x47, h47)
        else
          lp_X6_griefs_58 t a1 a2 a3 (fun b4_58 h58_ =>
            some (b4_58, h58_))
            1000 (-1) 9 h38
def f_X6_least (a0 : Int32) (a1 : Int32) (a2 : Int32) (h : HP) : Option (Int32 × HP) :=
  if a1 ≤ a0 then
    if a2 ≤ a1 then
      some (a2, h)
    else
      some (a1, h)
  else
    if a2 ≤ a0 then
      some (a2, h)
    else
      some (a0, h)
def lb_X6_changesTo_2 (a0 : Nat) (a1 : Int32) (a2 : Int32) (K : HP → Option (Int32 × HP)) (F : Int32 → HP → Option (Int32 × HP)) (b3 : Int32) (h : HP) : Option (Int32 × HP) :=
  if 8 < b3 then
    K h
  else
    (gR 6 39 a0 h).bind fun x9 =>
    (sI x9 b3 b3 h).bind fun h14 =>
    F (b3 + 1) h14
def lp_X6_changesTo_2 (a0 : Nat) (a1 : Int32) (a2 : Int32) (K : HP → Option (Int32 × HP)) : Nat → Int32 → HP → Option (Int32 × HP)
  | 0 => fun _ _ => none
  | k + 1 => lb_X6_changesTo_2 a0 a1 a2 K (lp_X6_changesTo_2 a0 a1 a2 K k)
def lb_X6_changesTo_38 (a0 : Nat) (a1 : Int32) (a2 : Int32) (a3 : Int32) (K : HP → Option (Int32 × HP)) (F : Int32 → HP → Option (Int32 × HP)) (b4 : Int32) (h : HP) : Option (Int32 × HP) :=
  if 8 < b4 then
    K h
  else
    (gR 6 38 a0 h).bind fun x46 =>
    (lI x46 (a3 - 1) h).bind fun x52 =>
    (gR 6 22 a0 h).bind fun x54 =>
    (lI x54 (((a1 * 8) + b4) - 1) h).bind fun x66 =>
    if x52 = x66 then
      (gR 6 40 a0 h).bind fun x78 =>
      (gR 6 39 a0 h).bind fun x84 =>
      (lI x84 b4 h).bind fun x89 =>
      (gR 6 40 a0 h).bind fun x93 =>
      (lI x93 (b4 - 1) h).bind fun x100 =>
      (gR 6 39 a0 h).bind fun x104 =>
      (lI x104 (b4 - 1) h).bind fun x111 =>
      ob (f_X6_least (x89 + 1) (x100 + 1) (x111 + 0) h) fun x115 h115 =>
      (sI x78 b4 x115 h115).bind fun h118 =>
      F (b4 + 1) h118
    else
      (gR 6 40 a0 h).bind fun x78 =>
      (gR 6 39 a0 h).bind fun x84 =>
      (lI x84 b4 h).bind fun x89 =>
      (gR 6 40 a0 h).bind fun x93 =>
      (lI x93 (b4 - 1) h).bind fun x100 =>
      (gR 6 39 a0 h).bind fun x104 =>
      (lI x104 (b4 - 1) h).bind fun x111 =>
      ob (f_X6_least (x89 + 1) (x100 + 1) (x111 + 1) h) fun x115 h115 =>
      (sI x78 b4 x115 h115).bind fun h118 =>
      F (b4 + 1) h118
def lp_X6_changesTo_38 (a0 : Nat) (a1 : Int32) (a2 : Int32) (a3 : Int32) (K : HP → Option (Int32 × HP)) : Nat → Int32 → HP → Option (Int32 × HP)
  | 0 => fun _ _ => none
  | k + 1 => lb_X6_changesTo_38 a0 a1 a2 a3 K (lp_X6_changesTo_38 a0 a1 a2 a3 K k)
def lb_X6_changesTo_128 (a0 : Nat) (a1 : Int32) (a2 : Int32) (a3 : Int32) (K : HP → Option (Int32 × HP)) (F : Int32 → HP → Option (Int32 × HP)) (b4 : Int32) (h : HP) : Option (Int32 × HP) :=
  if 8 < b4 then
    K h
  else
    (gR 6 39 a0 h).bind fun x136 =>
    (gR 6 40 a0 h).bind fun x142 =>
    (lI x142 b4 h).bind fun x147 =>
    (sI x136 b4 x147 h).bind fun h148 =>
    F (b4 + 1) h148
def lp_X6_changesTo_128 (a0 : Nat) (a1 : Int32) (a2 : Int32) (a3 : Int32) (K : HP → Option (Int32 × HP)) : Nat → Int32 → HP → Option (Int32 × HP)
  | 0 => fun _ _ => none
  | k + 1 => lb_X6_changesTo_128 a0 a1 a2 a3 K (lp_X6_changesTo_128 a0 a1 a2 a3 K k)
def lb_X6_changesTo_23 (a0 : Nat) (a1 : Int32) (a2 : Int32) (K : HP → Option (Int32 × HP)) (F : Int32 → HP → Option (Int32 × HP)) (b3 : Int32) (h : HP) : Option (Int32 × HP) :=
  if a2 < b3 then
    K h
  else
    (gR 6 40 a0 h).bind fun x29 =>
    (sI x29 0 b3 h).bind fun h34 =>
    lp_X6_changesTo_38 a0 a1 a2 b3 (fun h38_ =>
      lp_X6_changesTo_128 a0 a1 a2 b3 (fun h128_ =>
        F (b3 + 1) h128_)
        1000 0 h38_)
      1000 1 h34
def lp_X6_changesTo_23 (a0 : Nat) (a1 : Int32) (a2 : Int32) (K : HP → Option (Int32 × HP)) : Nat → Int32 → HP → Option (Int32 × HP)
  | 0 => fun _ _ => none
  | k + 1 => lb_X6_changesTo_23 a0 a1 a2 K (lp_X6_changesTo_23 a0 a1 a2 K k)
def f_X6_changesTo (t : Nat) (a1 : Int32) (a2 : Int32) (h : HP) : Option (Int32 × HP) :=
  lp_X6_changesTo_2 t a1 a2 (fun h2_ =>
    lp_X6_changesTo_23 t a1 a2 (fun h23_ =>
      (gR 6 39 t h23_).bind fun x162 =>
      (lI x162 8 h23_).bind fun x167 =>
      some (x167, h23_))
      1000 1 h2_)
    1000 0 h
def lb_X6_takeNotes_2 (a0 : Nat) (a1 : Int32) (K : HP → Option (Unit × HP)) (F : Int32 → HP → Option (Unit × HP)) (b2 : Int32) (h : HP) : Option (Unit × HP) :=
  if 8 ≤ b2 then
    K h
  else
    (gR 6 38 a0 h).bind fun x9 =>
    (gR 6 22 a0 h).bind fun x14 =>
    (lI x14 ((a1 * 8) + b2) h).bind fun x23 =>
    (sI x9 b2 x23 h).bind fun h24 =>
    F (b2 + 1) h24
def lp_X6_takeNotes_2 (a0 : Nat) (a1 : Int32) (K : HP → Option (Unit × HP)) : Nat → Int32 → HP → Option (Unit × HP)
  | 0 => fun _ _ => none
  | k + 1 => lb_X6_takeNotes_2 a0 a1 K (lp_X6_takeNotes_2 a0 a1 K k)
def f_X6_takeNotes (t : Nat) (a1 : Int32) (h : HP) : Option (Unit × HP) :=
  lp_X6_takeNotes_2 t a1 (fun h2_ =>
    some ((), h2_))
    1000 0 h
def f_X6_changes (t : Nat) (a1 : Int32) (a2 : Int32) (h : HP) : Option (Int32 × HP) :=
  ob (inv 6 t h (f_X6_isSong t a1 h)) fun x2 h2 =>
  if x2 = 0 then
    ob (inv 6 t h2 (f_X6_refuse t (-2) h2)) fun x19 h19 =>
    some (x19, h19)
  else
    ob (inv 6 t h2 (f_X6_isSong t a2 h2)) fun x10 h10 =>
    if x10 = 0 then
      ob (inv 6 t h10 (f_X6_refuse t (-2) h10)) fun x19 h19 =>
      some (x19, h19)
    else
      ob (inv 6 t h10 (f_X6_takeNotes t a1 h10)) fun _ h25 =>
      ob (inv 6 t h25 (f_X6_changesTo t a2 8 h25)) fun x32 h32 =>
      some (x32, h32)
def lb_X6_isEnd_3 (a0 : Nat) (a1 : Int32) (a2 : Int32) (a3 : Int32) (K : HP → Option (Int32 × HP)) (F : Int32 → HP → Option (Int32 × HP)) (b4 : Int32) (h : HP) : Option (Int32 × HP) :=
  if a3 ≤ b4 then
    K h
  else
    (gR 6 22 a0 h).bind fun x10 =>
    (lI x10 ((((a1 * 8) + 8) - a3) + b4) h).bind fun x25 =>
    (gR 6 22 a0 h).bind fun x27 =>
    (lI x27 ((a2 * 8) + b4) h).bind fun x37 =>
    if x25 = x37 then
      F (b4 + 1) h
    else
      rZ 0 h
def lp_X6_isEnd_3 (a0 : Nat) (a1 : Int32) (a2 : Int32) (a3 : Int32) (K : HP → Option (Int32 × HP)) : Nat → Int32 → HP → Option (Int32 × HP)
  | 0 => fun _ _ => none
  | k + 1 => lb_X6_isEnd_3 a0 a1 a2 a3 K (lp_X6_isEnd_3 a0 a1 a2 a3 K k)
def f_X6_isEnd (t : Nat) (a1 : Int32) (a2 : Int32) (a3 : Int32) (h : HP) : Option (Int32 × HP) :=
  lp_X6_isEnd_3 t a1 a2 a3 (fun h3_ =>
    rZ 1 h3_)
    1000 0 h
def lb_X6_join_26 (a0 : Nat) (a1 : Int32) (a2 : Int32) (K : Int32 → HP → Option (Int32 × HP)) (F : Int32 → HP → Option (Int32 × HP)) (b3 : Int32) (h : HP) : Option (Int32 × HP) :=
  ob (inv 6 a0 h (f_X6_isEnd a0 a1 a2 b3 h)) fun x30 h30 =>
  if x30 = 0 then
    F (b3 + (-1)) h30
  else
    K b3 h30
def lp_X6_join_26 (a0 : Nat) (a1 : Int32) (a2 : Int32) (K : Int32 → HP → Option (Int32 × HP)) : Nat → Int32 → HP → Option (Int32 × HP)
  | 0 => fun _ _ => none
  | k + 1 => lb_X6_join_26 a0 a1 a2 K (lp_X6_join_26 a0 a1 a2 K k)
def f_X6_join (t : Nat) (a1 : Int32) (a2 : Int32) (h : HP) : Option (Int32 × HP) :=
  ob (inv 6 t h (f_X6_isSong t a1 h)) fun x2 h2 =>
  if x2 = 0 then
    ob (inv 6 t h2 (f_X6_refuse t (-2) h2)) fun x19 h19 =>
    some (x19, h19)
  else
    ob (inv 6 t h2 (f_X6_isSong t a2 h2)) fun x10 h10 =>
    if x10 = 0 then
      ob (inv 6 t h10 (f_X6_refuse t (-2) h10)) fun x19 h19 =>
      some (x19, h19)
    else
      lp_X6_join_26 t a1 a2 (fun b3_26 h26_ =>
        some (16 - b3_26, h26_))
        1000 8 h10
def lb_X6_like_28 (a0 : Nat) (a1 : Int32) (a2 : Int32) (K : Int32 → HP → Option (Int32 × HP)) (F : Int32 → Int32 → HP → Option (Int32 × HP)) (b3 : Int32) (b4 : Int32) (h : HP) : Option (Int32 × HP) :=
  if 8 ≤ b4 then
    K b3 h
  else
    (gR 6 22 a0 h).bind fun x37 =>
    (lI x37 ((a1 * 8) + b4) h).bind fun x47 =>
    (gR 6 22 a0 h).bind fun x49 =>
    (lI x49 ((a2 * 8) + b4) h).bind fun x59 =>
    if x47 = x59 then
      F (b3 + 1) (b4 + 1) h
    else
      F (b3 + 0) (b4 + 1) h
def lp_X6_like_28 (a0 : Nat) (a1 : Int32) (a2 : Int32) (K : Int32 → HP → Option (Int32 × HP)) : Nat → Int32 → Int32 → HP → Option (Int32 × HP)
  | 0 => fun _ _ _ => none
  | k + 1 => lb_X6_like_28 a0 a1 a2 K (lp_X6_like_28 a0 a1 a2 K k)
def f_X6_like (t : Nat) (a1 : Int32) (a2 : Int32) (h : HP) : Option (Int32 × HP) :=
  ob (inv 6 t h (f_X6_isSong t a1 h)) fun x2 h2 =>
  if x2 = 0 then
    ob (inv 6 t h2 (f_X6_refuse t (-2) h2)) fun x19 h19 =>
    some (x19, h19)
  else
    ob (inv 6 t h2 (f_X6_isSong t a2 h2)) fun x10 h10 =>
    if x10 = 0 then
      ob (inv 6 t h10 (f_X6_refuse t (-2) h10)) fun x19 h19 =>
      some (x19, h19)
    else
      lp_X6_like_28 t a1 a2 (fun b3_28 h28_ =>
        some (b3_28, h28_))
        1000 0 0 h10
def f_X6_noTold (t : Nat) (a1 : Int32) (a2 : Int32) (a3 : Int32) (a4 : Int32) (h : HP) : Option (Int32 × HP) :=
  ob (f_X6_in a1.toInt64 0 7 h) fun x6 h6 =>
  if x6 = 0 then
    ob (inv 6 t h6 (f_X6_refuse t (-2) h6)) fun x31 h31 =>
    some (x31, h31)
  else
    ob (f_X6_in a2.toInt64 0 a3.toInt64 h6) fun x17 h17 =>
    if x17 = 0 then
      ob (inv 6 t h17 (f_X6_refuse t (-2) h17)) fun x31 h31 =>
      some (x31, h31)
    else
      if a4 = 0 then
        ob (inv 6 t h17 (f_X6_refuse t (-2) h17)) fun x31 h31 =>
        some (x31, h31)
      else
        ob (inv 6 t h17 (f_X6_noRow t a1 h17)) fun x37 h37 =>
        if x37 = 0 then
          (gR 6 2 t h37).bind fun x51 =>
          (lI x51 a1 h37).bind fun x55 =>
          if a2 ≤ x55 then
            some (0, h37)
          else
            ob (inv 6 t h37 (f_X6_refuse t (-2) h37)) fun x63 h63 =>
            some (x63, h63)
        else
          some (x37, h37)
def lb_X6_nearest_28 (a0 : Nat) (a1 : Int32) (a2 : Int32) (a3 : Int32) (K : HP → Option (Int32 × HP)) (F : Int32 → HP → Option (Int32 × HP)) (b5 : Int32) (h : HP) : Option (Int32 × HP) :=
  if a2 ≤ b5 then
    K h
  else
    (gR 6 3 a0 h).bind fun x35 =>
    (lR 10 x35 a1 h).bind fun x39 =>
    (lJ x39 b5 h).bind fun x42 =>
    ob (f_X6_in x42 0 4 h) fun x47 h47 =>
    if x47 = 0 then
      ob (inv 6 a0 h47 (f_X6_refuse a0 (-5) h47)) fun x56 h56 =>
      some (x56, h56)
    else
      (gR 6 38 a0 h47).bind fun x61 =>
      (gR 6 3 a0 h47).bind fun x67 =>
      (lR 10 x67 a1 h47).bind fun x71 =>
      (lJ x71 b5 h47).bind fun x74 =>
      (sI x61 b5 x74.toInt32 h47).bind fun h76 =>
      F (b5 + 1) h76
def lp_X6_nearest_28 (a0 : Nat) (a1 : Int32) (a2 : Int32) (a3 : Int32) (K : HP → Option (Int32 × HP)) : Nat → Int32 → HP → Option (Int32 × HP)
  | 0 => fun _ _ => none
  | k + 1 => lb_X6_nearest_28 a0 a1 a2 a3 K (lp_X6_nearest_28 a0 a1 a2 a3 K k)
def lb_X6_nearest_92 (a0 : Nat) (a2 : Int32) (a3 : Int32) (K : Int32 → Int32 → HP → Option (Int32 × HP)) (F : Int32 → Int32 → Int32 → HP → Option (Int32 × HP)) (b5 : Int32) (b6 : Int32) (b7 : Int32) (h : HP) : Option (Int32 × HP) :=
  (gI 6 12 a0 h).bind fun x95 =>
  if x95 ≤ b7 then
    K b5 b6 h
  else
    ob (inv 6 a0 h (f_X6_changesTo a0 b7 a2 h)) fun x105 h105 =>
    if b5 = (-1) then
      if b7 = b7 then
        F b7 x105 (b7 + 1) h105
      else
        F b7 b6 (b7 + 1) h105
    else
      if b6 ≤ x105 then
        if b5 = b7 then
          F b5 x105 (b7 + 1) h105
        else
          F b5 b6 (b7 + 1) h105
      else
        if b7 = b7 then
          F b7 x105 (b7 + 1) h105
        else
          F b7 b6 (b7 + 1) h105
def lp_X6_nearest_92 (a0 : Nat) (a2 : Int32) (a3 : Int32) (K : Int32 → Int32 → HP → Option (Int32 × HP)) : Nat → Int32 → Int32 → Int32 → HP → Option (Int32 × HP)
  | 0 => fun _ _ _ _ => none
  | k + 1 => lb_X6_nearest_92 a0 a2 a3 K (lp_X6_nearest_92 a0 a2 a3 K k)
def f_X6_nearest (t : Nat) (a1 : Int32) (a2 : Int32) (a3 : Int32) (h : HP) : Option (Int32 × HP) :=
  ob (f_X6_in a3.toInt64 0 1 h) fun x9 h9 =>
  ob (inv 6 t h9 (f_X6_noTold t a1 a2 8 x9 h9)) fun x12 h12 =>
  if x12 = 0 then
    lp_X6_nearest_28 t a1 a2 a3 (fun h28_ =>
      lp_X6_nearest_92 t a2 a3 (fun b5_92 b6_92 h92_ =>
        if a3 = 0 then
          some (b5_92, h92_)
        else
          some (b6_92, h92_))
        1000 (-1) (-1) 0 h28_)
      1000 0 h12
  else
    some (x12, h12)
def lb_X6_isSo_3 (a0 : Nat) (a1 : Nat) (a2 : Int32) (a3 : Int32) (K : HP → Option (Int32 × HP)) (F : Int32 → HP → Option (Int32 × HP)) (b4 : Int32) (h : HP) : Option (Int32 × HP) :=
  if a2 ≤ b4 then
    K h
  else
    ob (inv 6 a0 h (f_X6_passes a0 h)) fun x10 h10 =>
    ob (inv 6 a0 h10 (f_X6_songsOf a0 a3 h10)) fun x16 h16 =>
    (lJ a1 b4 h16).bind fun x23 =>
    if (lg_cmp x16.toInt64 x23) = 0 then
      F (b4 + 1) h16
    else
      rZ 0 h16
def lp_X6_isSo_3 (a0 : Nat) (a1 : Nat) (a2 : Int32) (a3 : Int32) (K : HP → Option (Int32 × HP)) : Nat → Int32 → HP → Option (Int32 × HP)
  | 0 => fun _ _ => none
  | k + 1 => lb_X6_isSo_3 a0 a1 a2 a3 K (lp_X6_isSo_3 a0 a1 a2 a3 K k)
def f_X6_isSo (a0 : Nat) (a1 : Nat) (a2 : Int32) (a3 : Int32) (h : HP) : Option (Int32 × HP) :=
  lp_X6_isSo_3 a0 a1 a2 a3 (fun h3_ =>
    rZ 1 h3_)
    1000 0 h
def lb_X6_fits_48 (a0 : Nat) (a1 : Int32) (a2 : Int32) (a3 : Int32) (a4 : Int32) (K : Int32 → HP → Option (Int32 × HP)) (F : Int32 → Int32 → HP → Option (Int32 × HP)) (b6 : Int32) (b7 : Int32) (h : HP) : Option (Int32 × HP) :=
  if a4 = 0 then
    if 9 < b7 then
      K b6 h
    else
      ob (inv 6 a0 h (f_X6_thought a0 h)) fun x65 h65 =>
      (gR 6 16 x65 h65).bind fun x72 =>
      (sI x72 a3 b7 h65).bind fun h93 =>
      (gR 6 14 x65 h93).bind fun x96 =>
      (gR 6 14 x65 h93).bind fun x113 =>
      (lI x113 a3 h93).bind fun x117 =>
      (sI x96 a3 x117 h93).bind fun h118 =>
      (gR 6 3 a0 h118).bind fun x124 =>
      (lR 10 x124 a1 h118).bind fun x128 =>
      ob (f_X6_isSo x65 x128 a2 a3 h118) fun x131 h131 =>
      if x131 = 0 then
        F (b6 ||| 0) (b7 + 1) h131
      else
        F (b6 ||| (1 <<< (b7 &&& 31))) (b7 + 1) h131
  else
    if 5 < b7 then
      K b6 h
    else
      ob (inv 6 a0 h (f_X6_thought a0 h)) fun x65 h65 =>
      (gR 6 16 x65 h65).bind fun x72 =>
      (gR 6 16 x65 h65).bind fun x88 =>
      (lI x88 a3 h65).bind fun x92 =>
      (sI x72 a3 x92 h65).bind fun h93 =>
      (gR 6 14 x65 h93).bind fun x96 =>
      if a4 = 1 then
        (sI x96 a3 b7 h93).bind fun h118 =>
        (gR 6 3 a0 h118).bind fun x124 =>
        (lR 10 x124 a1 h118).bind fun x128 =>
        ob (f_X6_isSo x65 x128 a2 a3 h118) fun x131 h131 =>
        if x131 = 0 then
          F (b6 ||| 0) (b7 + 1) h131
        else
          F (b6 ||| (1 <<< (b7 &&& 31))) (b7 + 1) h131
      else
        (gR 6 14 x65 h93).bind fun x113 =>
        (lI x113 a3 h93).bind fun x117 =>
        (sI x96 a3 x117 h93).bind fun h118 =>
        (gR 6 3 a0 h118).bind fun x124 =>
        (lR 10 x124 a1 h118).bind fun x128 =>
        ob (f_X6_isSo x65 x128 a2 a3 h118) fun x131 h131 =>
        if x131 = 0 then
          F (b6 ||| 0) (b7 + 1) h131
        else
          F (b6 ||| (1 <<< (b7 &&& 31))) (b7 + 1) h131
def lp_X6_fits_48 (a0 : Nat) (a1 : Int32) (a2 : Int32) (a3 : Int32) (a4 : Int32) (K : Int32 → HP → Option (Int32 × HP)) : Nat → Int32 → Int32 → HP → Option (Int32 × HP)
  | 0 => fun _ _ _ => none
  | k + 1 => lb_X6_fits_48 a0 a1 a2 a3 a4 K (lp_X6_fits_48 a0 a1 a2 a3 a4 K k)
def f_X6_fits (t : Nat) (a1 : Int32) (a2 : Int32) (a3 : Int32) (a4 : Int32) (h : HP) : Option (Int32 × HP) :=
  ob (inv 6 t h (f_X6_isPerson t a3 h)) fun x7 h7 =>
  if x7 = 0 then
    ob (inv 6 t h7 (f_X6_noTold t a1 a2 12 0 h7)) fun x29 h29 =>
    if x29 = 0 then
      lp_X6_fits_48 t a1 a2 a3 a4 (fun b6_48 h48_ =>
        some (b6_48, h48_))
        1000 0 0 h29
    else
      some (x29, h29)
  else
    ob (f_X6_in a4.toInt64 0 1 h7) fun x18 h18 =>
    if x18 = 0 then
      ob (inv 6 t h18 (f_X6_noTold t a1 a2 12 0 h18)) fun x29 h29 =>
      if x29 = 0 then
        lp_X6_fits_48 t a1 a2 a3 a4 (fun b6_48 h48_ =>
          some (b6_48, h48_))
          1000 0 0 h29
      else
        some (x29, h29)
    else
      ob (inv 6 t h18 (f_X6_noTold t a1 a2 12 1 h18)) fun x29 h29 =>
      if x29 = 0 then
        lp_X6_fits_48 t a1 a2 a3 a4 (fun b6_48 h48_ =>
          some (b6_48, h48_))
          1000 0 0 h29
      else
        some (x29, h29)
def lb_X6_judge_25 (a0 : Nat) (a1 : Int32) (a2 : Int32) (a4 : Nat) (K : HP → Option (Int32 × HP)) (F : Int32 → HP → Option (Int32 × HP)) (b5 : Int32) (h : HP) : Option (Int32 × HP) :=
  if a2 ≤ b5 then
    K h
  else
    ob (inv 6 a4 h (f_X6_passes a4 h)) fun x33 h33 =>
    ob (inv 6 a4 h33 (f_X6_known a4 h33)) fun x39 h39 =>
    (gR 6 3 a0 h39).bind fun x44 =>
    (lR 10 x44 a1 h39).bind fun x48 =>
    (lJ x48 b5 h39).bind fun x51 =>
    if (lg_cmp x39.toInt64 x51) = 0 then
      F (b5 + 1) h39
    else
      some (b5, h39)
def lp_X6_judge_25 (a0 : Nat) (a1 : Int32) (a2 : Int32) (a4 : Nat) (K : HP → Option (Int32 × HP)) : Nat → Int32 → HP → Option (Int32 × HP)
  | 0 => fun _ _ => none
  | k + 1 => lb_X6_judge_25 a0 a1 a2 a4 K (lp_X6_judge_25 a0 a1 a2 a4 K k)
def f_X6_judge (t : Nat) (a1 : Int32) (a2 : Int32) (h : HP) : Option (Int32 × HP) :=
  ob (inv 6 t h (f_X6_noTold t a1 a2 40 1 h)) fun x6 h6 =>
  if x6 = 0 then
    ob (inv 6 t h6 (f_X6_thought t h6)) fun x17 h17 =>
    lp_X6_judge_25 t a1 a2 x17 (fun h25_ =>
      some ((-1), h25_))
      1000 0 h17
  else
    some (x6, h6)
def f_X6_pass (t : Nat) (h : HP) : Option (Int32 × HP) :=
  ob (inv 6 t h (f_X6_passes t h)) fun x1 h1 =>
  (gI 6 10 t h1).bind fun x6 =>
  some (x6, h1)
def f_X6_taught (t : Nat) (a1 : Int32) (a2 : Int32) (h : HP) : Option (Int32 × HP) :=
  ob (inv 6 t h (f_X6_isPerson t a1 h)) fun x2 h2 =>
  if x2 = 0 then
    ob (inv 6 t h2 (f_X6_refuse t (-2) h2)) fun x19 h19 =>
    some (x19, h19)
  else
    ob (inv 6 t h2 (f_X6_isSong t a2 h2)) fun x10 h10 =>
    if x10 = 0 then
      ob (inv 6 t h10 (f_X6_refuse t (-2) h10)) fun x19 h19 =>
      some (x19, h19)
    else
      (gR 6 21 t h10).bind fun x24 =>
      (lI x24 a2 h10).bind fun x28 =>
      if x28 = 1 then
        ob (inv 6 t h10 (f_X6_refuse t (-5) h10)) fun x45 h45 =>
        some (x45, h45)
      else
        ob (inv 6 t h10 (f_X6_knowsIt t a1 a2 h10)) fun x36 h36 =>
        if x36 = 0 then
          (gR 6 23 t h36).bind fun x50 =>
          (sI x50 ((a1 * 6) + a2) 0 h36).bind fun h60 =>
          ob (inv 6 t h60 (f_X6_holdersOf t a2 h60)) fun x63 h63 =>
          ob (f_X6_bits x63 h63) fun x66 h66 =>
          some (x66, h66)
        else
          ob (inv 6 t h36 (f_X6_refuse t (-5) h36)) fun x45 h45 =>
          some (x45, h45)
def f_X6_below (t : Nat) (a1 : Int32) (h : HP) : Option (Int32 × HP) :=
  (gI 6 24 t h).bind fun x2 =>
  (pI 6 24 t ((x2 * 1103515245) + 12345) h).bind fun h13 =>
  (gI 6 24 t h13).bind fun x17 =>
  (dz a1).bind fun _ =>
  some (((x17.toUInt32 >>> ((16 : Int32).toUInt32 &&& Int32.toUInt32 31)).toInt32) - ((x17.toUInt32 >>> ((16 : Int32).toUInt32 &&& Int32.toUInt32 31)).toInt32) / a1 * a1, h13)
def lb_X6_drawn_37 (a0 : Nat) (a1 : Int32) (K : Int32 → HP → Option (Int32 × HP)) (F : Int32 → Int32 → HP → Option (Int32 × HP)) (b2 : Int32) (b3 : Int32) (h : HP) : Option (Int32 × HP) :=
  if a1 ≤ b3 then
    K b2 h
  else
    ob (inv 6 a0 h (f_X6_below a0 10 h)) fun x46 h46 =>
    (pI 6 9 a0 x46 h46).bind fun h49 =>
    (gI 6 11 a0 h49).bind fun x54 =>
    ob (inv 6 a0 h49 (f_X6_below a0 x54 h49)) fun x57 h57 =>
    (gR 6 17 a0 h57).bind fun x63 =>
    ob (inv 6 a0 h57 (f_X6_below a0 10 h57)) fun x71 h71 =>
    (sI x63 x57 x71 h71).bind fun h74 =>
    ob (inv 6 a0 h74 (f_X6_passes a0 h74)) fun x77 h77 =>
    F (b2 + x77) (b3 + 1) h77
def lp_X6_drawn_37 (a0 : Nat) (a1 : Int32) (K : Int32 → HP → Option (Int32 × HP)) : Nat → Int32 → Int32 → HP → Option (Int32 × HP)
  | 0 => fun _ _ _ => none
  | k + 1 => lb_X6_drawn_37 a0 a1 K (lp_X6_drawn_37 a0 a1 K k)
def f_X6_drawn (t : Nat) (a1 : Int32) (h : HP) : Option (Int32 × HP) :=
  ob (f_X6_in a1.toInt64 1 60 h) fun x6 h6 =>
  if x6 = 0 then
    ob (inv 6 t h6 (f_X6_refuse t (-2) h6)) fun x15 h15 =>
    some (x15, h15)
  else
    (gI 6 11 t h6).bind fun x20 =>
    if x20 = 0 then
      ob (inv 6 t h6 (f_X6_refuse t (-5) h6)) fun x29 h29 =>
      some (x29, h29)
    else
      lp_X6_drawn_37 t a1 (fun b2_37 h37_ =>
        some (b2_37, h37_))
        1000 0 0 h6
def f_X6_seed (t : Nat) (a1 : Int32) (h : HP) : Option (Int32 × HP) :=
  (gI 6 24 t h).bind fun x1 =>
  (pI 6 24 t a1 h).bind fun h7 =>
  some (x1, h7)
def f_X6_image (t : Nat) (h : HP) : Option (Int32 × HP) :=
  (gN 6 25 t h).bind fun x1 => if x1.isNone = true then
    ob (mkO 6 h) fun x8 h8 =>
    ob (f_X6_init x8 h8) fun _ h12 =>
    (pR 6 25 t x8 h12).bind fun h15 =>
    (gR 6 25 t h15).bind fun x19 =>
    ob (inv 6 x19 h15 (f_X6_takeFrom x19 t h15)) fun _ h23 =>
    some (1, h23)
  else
    (gR 6 25 t h).bind fun x19 =>
    ob (inv 6 x19 h (f_X6_takeFrom x19 t h)) fun _ h23 =>
    some (1, h23)
def lb_X6_back_24 (a0 : Nat) (K : HP → Option (Int32 × HP)) (F : Int32 → HP → Option (Int32 × HP)) (b1 : Int32) (h : HP) : Option (Int32 × HP) :=
  if 8 ≤ b1 then
    K h
  else
    (gR 6 0 a0 h).bind fun x31 =>
    (lI x31 b1 h).bind fun x35 =>
    if x35 = 2 then
      (gR 6 5 a0 h).bind fun x41 =>
      (lI x41 b1 h).bind fun x45 =>
      (gI 6 11 a0 h).bind fun x47 =>
      if x45 < x47 then
        F (b1 + 1) h
      else
        (gR 6 0 a0 h).bind fun x54 =>
        (sI x54 b1 0 h).bind fun h59 =>
        F (b1 + 1) h59
    else
      F (b1 + 1) h
def lp_X6_back_24 (a0 : Nat) (K : HP → Option (Int32 × HP)) : Nat → Int32 → HP → Option (Int32 × HP)
  | 0 => fun _ _ => none
  | k + 1 => lb_X6_back_24 a0 K (lp_X6_back_24 a0 K k)
def f_X6_back (t : Nat) (h : HP) : Option (Int32 × HP) :=
  (gN 6 25 t h).bind fun x1 => if x1.isNone = true then
    ob (inv 6 t h (f_X6_refuse t (-5) h)) fun x10 h10 =>
    some (x10, h10)
  else
    (gR 6 25 t h).bind fun x16 =>
    ob (inv 6 t h (f_X6_takeFrom t x16 h)) fun _ h19 =>
    lp_X6_back_24 t (fun h24_ =>
      some (1, h24_))
      1000 0 h19
def lb_X6_status_90 (a0 : Nat) (K : Int32 → HP → Option (Int32 × HP)) (F : Int32 → Int32 → HP → Option (Int32 × HP)) (b2 : Int32) (b3 : Int32) (h : HP) : Option (Int32 × HP) :=
  if 8 ≤ b3 then
    K b2 h
  else
    (gR 6 0 a0 h).bind fun x98 =>
    (lI x98 b3 h).bind fun x102 =>
    if x102 = 0 then
      F (b2 + 0) (b3 + 1) h
    else
      F (b2 + 1) (b3 + 1) h
def lp_X6_status_90 (a0 : Nat) (K : Int32 → HP → Option (Int32 × HP)) : Nat → Int32 → Int32 → HP → Option (Int32 × HP)
  | 0 => fun _ _ _ => none
  | k + 1 => lb_X6_status_90 a0 K (lp_X6_status_90 a0 K k)
def f_X6_status (t : Nat) (a1 : Int32) (h : HP) : Option (Int32 × HP) :=
  if a1 = 0 then
    (gI 6 11 t h).bind fun x49 =>
    some (x49, h)
  else
  if a1 = 1 then
    (gI 6 12 t h).bind fun x54 =>
    some (x54, h)
  else
  if a1 = 2 then
    (gI 6 9 t h).bind fun x59 =>
    some (x59, h)
  else
  if a1 = 3 then
    (gI 6 10 t h).bind fun x64 =>
    some (x64, h)
  else
  if a1 = 4 then
    ob (inv 6 t h (f_X6_known t h)) fun x69 h69 =>
    ob (f_X6_bits x69 h69) fun x72 h72 =>
    some (x72, h72)
  else
  if a1 = 5 then
    (gI 6 7 t h).bind fun x77 =>
    some (x77, h)
  else
  if a1 = 6 then
    (gI 6 24 t h).bind fun x82 =>
    some (x82, h)
  else
  if a1 = 7 then
    lp_X6_status_90 t (fun b2_90 h90_ =>
      some (b2_90, h90_))
      1000 0 0 h
  else
  ob (f_X6_in a1.toInt64 12 16 h) fun x129 h129 =>
  if x129 = 0 then
    some ((-1), h129)
  else
    (gR 6 8 t h129).bind fun x136 =>
    (lI x136 (a1 - 10) h129).bind fun x143 =>
    some (x143, h129)
def lb_L_law_18 (Z : ZZ) (a1 : Nat) (a2 : Nat) (K : HP → Option (Int32 × HP)) (F : Int32 → HP → Option (Int32 × HP)) (b3 : Int32) (h : HP) : Option (Int32 × HP) :=
  if ((Int32.ofNat (zL Z)) - 6) < b3 then
    K h
  else
    (lX Z b3).bind fun x29 =>
    if (x29 &&& 63) = 0 then
      (lX Z (b3 + 1)).bind fun x273 =>
      (lX Z (b3 + 2)).bind fun x278 =>
      (lX Z (b3 + 3)).bind fun x283 =>
      ob (inv 5 a1 h (f_X5_row a1 x273 x278 x283 h)) fun x284 h284 =>
      (lX Z (b3 + 1)).bind fun x292 =>
      (lX Z (b3 + 2)).bind fun x297 =>
      (lX Z (b3 + 3)).bind fun x302 =>
      ob (inv 6 a2 h284 (f_X6_row a2 x292 x297 x302 h284)) fun x303 h303 =>
      if x284 = x303 then
        F (b3 + 6) h303
      else
        some ((0 : Int32), h303)
    else
    if (x29 &&& 63) = 1 then
      (lX Z (b3 + 1)).bind fun x316 =>
      (lX Z (b3 + 2)).bind fun x321 =>
      (lX Z (b3 + 3)).bind fun x326 =>
      (lX Z (b3 + 4)).bind fun x335 =>
      ob (inv 5 a1 h (f_X5_set a1 x316 x321 ((x326.toInt64 <<< ((32 : Int32).toInt64 &&& 63)) ||| (x335.toInt64 &&& 4294967295)) h)) fun x342 h342 =>
      (lX Z (b3 + 1)).bind fun x350 =>
      (lX Z (b3 + 2)).bind fun x355 =>
      (lX Z (b3 + 3)).bind fun x360 =>
      (lX Z (b3 + 4)).bind fun x369 =>
      ob (inv 6 a2 h342 (f_X6_set a2 x350 x355 ((x360.toInt64 <<< ((32 : Int32).toInt64 &&& 63)) ||| (x369.toInt64 &&& 4294967295)) h342)) fun x376 h376 =>
      if x342 = x376 then
        F (b3 + 6) h376
      else
        some ((0 : Int32), h376)
    else
    if (x29 &&& 63) = 2 then
      (lX Z (b3 + 1)).bind fun x389 =>
      (lX Z (b3 + 2)).bind fun x394 =>
      (lX Z (b3 + 3)).bind fun x399 =>
      (lX Z (b3 + 4)).bind fun x404 =>
      (lX Z (b3 + 5)).bind fun x409 =>
      ob (inv 5 a1 h (f_X5_copy a1 x389 x394 x399 x404 x409 h)) fun x410 h410 =>
      (lX Z (b3 + 1)).bind fun x418 =>
      (lX Z (b3 + 2)).bind fun x423 =>
      (lX Z (b3 + 3)).bind fun x428 =>
      (lX Z (b3 + 4)).bind fun x433 =>
      (lX Z (b3 + 5)).bind fun x438 =>
      ob (inv 6 a2 h410 (f_X6_copy a2 x418 x423 x428 x433 x438 h410)) fun x439 h439 =>
      if x410 = x439 then
        F (b3 + 6) h439
      else
        some ((0 : Int32), h439)
    else
    if (x29 &&& 63) = 3 then
      (lX Z (b3 + 1)).bind fun x452 =>
      (lX Z (b3 + 2)).bind fun x457 =>
      ob (inv 5 a1 h (f_X5_element a1 x452 x457 h)) fun x458 h458 =>
      (lX Z (b3 + 1)).bind fun x466 =>
      (lX Z (b3 + 2)).bind fun x471 =>
      ob (inv 6 a2 h458 (f_X6_element a2 x466 x471 h458)) fun x472 h472 =>
      if (lg_cmp x458 x472) = 0 then
        F (b3 + 6) h472
      else
        some ((0 : Int32), h472)
    else
    if (x29 &&& 63) = 4 then
      (lX Z (b3 + 1)).bind fun x486 =>
      ob (inv 5 a1 h (f_X5_holds a1 x486 h)) fun x487 h487 =>
      (lX Z (b3 + 1)).bind fun x495 =>
      ob (inv 6 a2 h487 (f_X6_holds a2 x495 h487)) fun x496 h496 =>
      if x487 = x496 then
        F (b3 + 6) h496
      else
        some ((0 : Int32), h496)
    else
    if (x29 &&& 63) = 5 then
      (lX Z (b3 + 1)).bind fun x509 =>
      (lX Z (b3 + 2)).bind fun x514 =>
      ob (inv 5 a1 h (f_X5_show a1 x509 x514 h)) fun x515 h515 =>
      (lX Z (b3 + 1)).bind fun x523 =>
      (lX Z (b3 + 2)).bind fun x528 =>
      ob (inv 6 a2 h515 (f_X6_show a2 x523 x528 h515)) fun x529 h529 =>
      if x515 = x529 then
        F (b3 + 6) h529
      else
        some ((0 : Int32), h529)
    else
    if (x29 &&& 63) = 6 then
      (lX Z (b3 + 1)).bind fun x542 =>
      (lX Z (b3 + 2)).bind fun x547 =>
      ob (inv 5 a1 h (f_X5_says a1 x542 x547 h)) fun x548 h548 =>
      (lX Z (b3 + 1)).bind fun x556 =>
      (lX Z (b3 + 2)).bind fun x561 =>
      ob (inv 6 a2 h548 (f_X6_says a2 x556 x561 h548)) fun x562 h562 =>
      if x548 = x562 then
        F (b3 + 6) h562
      else
        some ((0 : Int32), h562)
    else
    if (x29 &&& 63) = 7 then
      (lX Z (b3 + 1)).bind fun x575 =>
      (lX Z (b3 + 2)).bind fun x580 =>
      (lX Z (b3 + 3)).bind fun x585 =>
      (lX Z (b3 + 4)).bind fun x590 =>
      ob (inv 5 a1 h (f_X5_person a1 x575 x580 x585 x590 h)) fun x591 h591 =>
      (lX Z (b3 + 1)).bind fun x599 =>
      (lX Z (b3 + 2)).bind fun x604 =>
      (lX Z (b3 + 3)).bind fun x609 =>
      (lX Z (b3 + 4)).bind fun x614 =>
      ob (inv 6 a2 h591 (f_X6_person a2 x599 x604 x609 x614 h591)) fun x615 h615 =>
      if x591 = x615 then
        F (b3 + 6) h615
      else
        some ((0 : Int32), h615)
    else
    if (x29 &&& 63) = 8 then
      (lX Z (b3 + 1)).bind fun x628 =>
      (lX Z (b3 + 2)).bind fun x633 =>
      ob (inv 5 a1 h (f_X5_song a1 x628 x633 h)) fun x634 h634 =>
      (lX Z (b3 + 1)).bind fun x642 =>
      (lX Z (b3 + 2)).bind fun x647 =>
      ob (inv 6 a2 h634 (f_X6_song a2 x642 x647 h634)) fun x648 h648 =>
      if x634 = x648 then
        F (b3 + 6) h648
      else
        some ((0 : Int32), h648)
    else
    if (x29 &&& 63) = 9 then
      (lX Z (b3 + 1)).bind fun x661 =>
      (lX Z (b3 + 2)).bind fun x666 =>
      (lX Z (b3 + 3)).bind fun x671 =>
      ob (inv 5 a1 h (f_X5_give a1 x661 x666 x671 h)) fun x672 h672 =>
      (lX Z (b3 + 1)).bind fun x680 =>
      (lX Z (b3 + 2)).bind fun x685 =>
      (lX Z (b3 + 3)).bind fun x690 =>
      ob (inv 6 a2 h672 (f_X6_give a2 x680 x685 x690 h672)) fun x691 h691 =>
      if x672 = x691 then
        F (b3 + 6) h691
      else
        some ((0 : Int32), h691)
    else
    if (x29 &&& 63) = 10 then
      (lX Z (b3 + 1)).bind fun x704 =>
      (lX Z (b3 + 2)).bind fun x709 =>
      (lX Z (b3 + 3)).bind fun x714 =>
      ob (inv 5 a1 h (f_X5_mark a1 x704 x709 x714 h)) fun x715 h715 =>
      (lX Z (b3 + 1)).bind fun x723 =>
      (lX Z (b3 + 2)).bind fun x728 =>
      (lX Z (b3 + 3)).bind fun x733 =>
      ob (inv 6 a2 h715 (f_X6_mark a2 x723 x728 x733 h715)) fun x734 h734 =>
      if x715 = x734 then
        F (b3 + 6) h734
      else
        some ((0 : Int32), h734)
    else
    if (x29 &&& 63) = 11 then
      (lX Z (b3 + 1)).bind fun x747 =>
      (lX Z (b3 + 2)).bind fun x752 =>
      (lX Z (b3 + 3)).bind fun x757 =>
      ob (inv 5 a1 h (f_X5_note a1 x747 x752 x757 h)) fun x758 h758 =>
      (lX Z (b3 + 1)).bind fun x766 =>
      (lX Z (b3 + 2)).bind fun x771 =>
      (lX Z (b3 + 3)).bind fun x776 =>
      ob (inv 6 a2 h758 (f_X6_note a2 x766 x771 x776 h758)) fun x777 h777 =>
      if x758 = x777 then
        F (b3 + 6) h777
      else
        some ((0 : Int32), h777)
    else
    if (x29 &&& 63) = 12 then
      (lX Z (b3 + 1)).bind fun x790 =>
      (lX Z (b3 + 2)).bind fun x795 =>
      (lX Z (b3 + 3)).bind fun x800 =>
      ob (inv 5 a1 h (f_X5_knows a1 x790 x795 x800 h)) fun x801 h801 =>
      (lX Z (b3 + 1)).bind fun x809 =>
      (lX Z (b3 + 2)).bind fun x814 =>
      (lX Z (b3 + 3)).bind fun x819 =>
      ob (inv 6 a2 h801 (f_X6_knows a2 x809 x814 x819 h801)) fun x820 h820 =>
      if x801 = x820 then
        F (b3 + 6) h820
      else
        some ((0 : Int32), h820)
    else
    if (x29 &&& 63) = 13 then
      (lX Z (b3 + 1)).bind fun x833 =>
      (lX Z (b3 + 2)).bind fun x838 =>
      (lX Z (b3 + 3)).bind fun x843 =>
      ob (inv 5 a1 h (f_X5_seat a1 x833 x838 x843 h)) fun x844 h844 =>
      (lX Z (b3 + 1)).bind fun x852 =>
      (lX Z (b3 + 2)).bind fun x857 =>
      (lX Z (b3 + 3)).bind fun x862 =>
      ob (inv 6 a2 h844 (f_X6_seat a2 x852 x857 x862 h844)) fun x863 h863 =>
      if x844 = x863 then
        F (b3 + 6) h863
      else
        some ((0 : Int32), h863)
    else
    if (x29 &&& 63) = 14 then
      (lX Z (b3 + 1)).bind fun x876 =>
      (lX Z (b3 + 2)).bind fun x881 =>
      ob (inv 5 a1 h (f_X5_tell a1 x876 x881 h)) fun x882 h882 =>
      (lX Z (b3 + 1)).bind fun x890 =>
      (lX Z (b3 + 2)).bind fun x895 =>
      ob (inv 6 a2 h882 (f_X6_tell a2 x890 x895 h882)) fun x896 h896 =>
      if x882 = x896 then
        F (b3 + 6) h896
      else
        some ((0 : Int32), h896)
    else
    if (x29 &&& 63) = 15 then
      (lX Z (b3 + 1)).bind fun x909 =>
      ob (inv 5 a1 h (f_X5_feed a1 x909 h)) fun x910 h910 =>
      (lX Z (b3 + 1)).bind fun x918 =>
      ob (inv 6 a2 h910 (f_X6_feed a2 x918 h910)) fun x919 h919 =>
      if x910 = x919 then
        F (b3 + 6) h919
      else
        some ((0 : Int32), h919)
    else
    if (x29 &&& 63) = 16 then
      ob (inv 5 a1 h (f_X5_wipe a1 h)) fun x928 h928 =>
      ob (inv 6 a2 h928 (f_X6_wipe a2 h928)) fun x932 h932 =>
      if x928 = x932 then
        F (b3 + 6) h932
      else
        some ((0 : Int32), h932)
    else
    if (x29 &&& 63) = 17 then
      ob (inv 5 a1 h (f_X5_isle a1 h)) fun x941 h941 =>
      ob (inv 6 a2 h941 (f_X6_isle a2 h941)) fun x945 h945 =>
      if x941 = x945 then
        F (b3 + 6) h945
      else
        some ((0 : Int32), h945)
    else
    if (x29 &&& 63) = 18 then
      (lX Z (b3 + 1)).bind fun x958 =>
      (lX Z (b3 + 2)).bind fun x963 =>
      ob (inv 5 a1 h (f_X5_personOf a1 x958 x963 h)) fun x964 h964 =>
      (lX Z (b3 + 1)).bind fun x972 =>
      (lX Z (b3 + 2)).bind fun x977 =>
      ob (inv 6 a2 h964 (f_X6_personOf a2 x972 x977 h964)) fun x978 h978 =>
      if x964 = x978 then
        F (b3 + 6) h978
      else
        some ((0 : Int32), h978)
    else
    if (x29 &&& 63) = 19 then
      (lX Z (b3 + 1)).bind fun x991 =>
      (lX Z (b3 + 2)).bind fun x996 =>
      ob (inv 5 a1 h (f_X5_songOf a1 x991 x996 h)) fun x997 h997 =>
      (lX Z (b3 + 1)).bind fun x1005 =>
      (lX Z (b3 + 2)).bind fun x1010 =>
      ob (inv 6 a2 h997 (f_X6_songOf a2 x1005 x1010 h997)) fun x1011 h1011 =>
      if x997 = x1011 then
        F (b3 + 6) h1011
      else
        some ((0 : Int32), h1011)
    else
    if (x29 &&& 63) = 20 then
      (lX Z (b3 + 1)).bind fun x1024 =>
      (lX Z (b3 + 2)).bind fun x1029 =>
      ob (inv 5 a1 h (f_X5_years a1 x1024 x1029 h)) fun x1030 h1030 =>
      (lX Z (b3 + 1)).bind fun x1038 =>
      (lX Z (b3 + 2)).bind fun x1043 =>
      ob (inv 6 a2 h1030 (f_X6_years a2 x1038 x1043 h1030)) fun x1044 h1044 =>
      if x1030 = x1044 then
        F (b3 + 6) h1044
      else
        some ((0 : Int32), h1044)
    else
    if (x29 &&& 63) = 21 then
      (lX Z (b3 + 1)).bind fun x1057 =>
      (lX Z (b3 + 2)).bind fun x1062 =>
      ob (inv 5 a1 h (f_X5_hold a1 x1057 x1062 h)) fun x1063 h1063 =>
      (lX Z (b3 + 1)).bind fun x1071 =>
      (lX Z (b3 + 2)).bind fun x1076 =>
      ob (inv 6 a2 h1063 (f_X6_hold a2 x1071 x1076 h1063)) fun x1077 h1077 =>
      if x1063 = x1077 then
        F (b3 + 6) h1077
      else
        some ((0 : Int32), h1077)
    else
    if (x29 &&& 63) = 22 then
      (lX Z (b3 + 1)).bind fun x1090 =>
      (lX Z (b3 + 2)).bind fun x1095 =>
      (lX Z (b3 + 3)).bind fun x1100 =>
      ob (inv 5 a1 h (f_X5_behind a1 x1090 x1095 x1100 h)) fun x1101 h1101 =>
      (lX Z (b3 + 1)).bind fun x1109 =>
      (lX Z (b3 + 2)).bind fun x1114 =>
      (lX Z (b3 + 3)).bind fun x1119 =>
      ob (inv 6 a2 h1101 (f_X6_behind a2 x1109 x1114 x1119 h1101)) fun x1120 h1120 =>
      if x1101 = x1120 then
        F (b3 + 6) h1120
      else
        some ((0 : Int32), h1120)
    else
    if (x29 &&& 63) = 23 then
      (lX Z (b3 + 1)).bind fun x1133 =>
      ob (inv 5 a1 h (f_X5_lostIn a1 x1133 h)) fun x1134 h1134 =>
      (lX Z (b3 + 1)).bind fun x1142 =>
      ob (inv 6 a2 h1134 (f_X6_lostIn a2 x1142 h1134)) fun x1143 h1143 =>
      if x1134 = x1143 then
        F (b3 + 6) h1143
      else
        some ((0 : Int32), h1143)
    else
    if (x29 &&& 63) = 24 then
      (lX Z (b3 + 1)).bind fun x1156 =>
      ob (inv 5 a1 h (f_X5_sungIn a1 x1156 h)) fun x1157 h1157 =>
      (lX Z (b3 + 1)).bind fun x1165 =>
      ob (inv 6 a2 h1157 (f_X6_sungIn a2 x1165 h1157)) fun x1166 h1166 =>
      if x1157 = x1166 then
        F (b3 + 6) h1166
      else
        some ((0 : Int32), h1166)
    else
    if (x29 &&& 63) = 25 then
      (lX Z (b3 + 1)).bind fun x1179 =>
      ob (inv 5 a1 h (f_X5_last a1 x1179 h)) fun x1180 h1180 =>
      (lX Z (b3 + 1)).bind fun x1188 =>
      ob (inv 6 a2 h1180 (f_X6_last a2 x1188 h1180)) fun x1189 h1189 =>
      if x1180 = x1189 then
        F (b3 + 6) h1189
      else
        some ((0 : Int32), h1189)
    else
    if (x29 &&& 63) = 26 then
      ob (inv 5 a1 h (f_X5_finder a1 h)) fun x1198 h1198 =>
      ob (inv 6 a2 h1198 (f_X6_finder a2 h1198)) fun x1202 h1202 =>
      if x1198 = x1202 then
        F (b3 + 6) h1202
      else
        some ((0 : Int32), h1202)
    else
    if (x29 &&& 63) = 27 then
      (lX Z (b3 + 1)).bind fun x1215 =>
      ob (inv 5 a1 h (f_X5_keep a1 x1215 h)) fun x1216 h1216 =>
      (lX Z (b3 + 1)).bind fun x1224 =>
      ob (inv 6 a2 h1216 (f_X6_keep a2 x1224 h1216)) fun x1225 h1225 =>
      if x1216 = x1225 then
        F (b3 + 6) h1225
      else
        some ((0 : Int32), h1225)
    else
    if (x29 &&& 63) = 28 then
      (lX Z (b3 + 1)).bind fun x1238 =>
      (lX Z (b3 + 2)).bind fun x1243 =>
      ob (inv 5 a1 h (f_X5_workFor a1 x1238 x1243 h)) fun x1244 h1244 =>
      (lX Z (b3 + 1)).bind fun x1252 =>
      (lX Z (b3 + 2)).bind fun x1257 =>
      ob (inv 6 a2 h1244 (f_X6_workFor a2 x1252 x1257 h1244)) fun x1258 h1258 =>
      if x1244 = x1258 then
        F (b3 + 6) h1258
      else
        some ((0 : Int32), h1258)
    else
    if (x29 &&& 63) = 29 then
      (lX Z (b3 + 1)).bind fun x1271 =>
      (lX Z (b3 + 2)).bind fun x1276 =>
      ob (inv 5 a1 h (f_X5_teach a1 x1271 x1276 h)) fun x1277 h1277 =>
      (lX Z (b3 + 1)).bind fun x1285 =>
      (lX Z (b3 + 2)).bind fun x1290 =>
      ob (inv 6 a2 h1277 (f_X6_teach a2 x1285 x1290 h1277)) fun x1291 h1291 =>
      if x1277 = x1291 then
        F (b3 + 6) h1291
      else
        some ((0 : Int32), h1291)
    else
    if (x29 &&& 63) = 30 then
      (lX Z (b3 + 1)).bind fun x1304 =>
      ob (inv 5 a1 h (f_X5_hummer a1 x1304 h)) fun x1305 h1305 =>
      (lX Z (b3 + 1)).bind fun x1313 =>
      ob (inv 6 a2 h1305 (f_X6_hummer a2 x1313 h1305)) fun x1314 h1314 =>
      if x1305 = x1314 then
        F (b3 + 6) h1314
      else
        some ((0 : Int32), h1314)
    else
    if (x29 &&& 63) = 31 then
      ob (inv 5 a1 h (f_X5_next a1 h)) fun x1323 h1323 =>
      ob (inv 6 a2 h1323 (f_X6_next a2 h1323)) fun x1327 h1327 =>
      if x1323 = x1327 then
        F (b3 + 6) h1327
      else
        some ((0 : Int32), h1327)
    else
    if (x29 &&& 63) = 32 then
      (lX Z (b3 + 1)).bind fun x1340 =>
      ob (inv 5 a1 h (f_X5_order a1 x1340 h)) fun x1341 h1341 =>
      (lX Z (b3 + 1)).bind fun x1349 =>
      ob (inv 6 a2 h1341 (f_X6_order a2 x1349 h1341)) fun x1350 h1350 =>
      if x1341 = x1350 then
        F (b3 + 6) h1350
      else
        some ((0 : Int32), h1350)
    else
    if (x29 &&& 63) = 33 then
      (lX Z (b3 + 1)).bind fun x1363 =>
      (lX Z (b3 + 2)).bind fun x1368 =>
      ob (inv 5 a1 h (f_X5_changes a1 x1363 x1368 h)) fun x1369 h1369 =>
      (lX Z (b3 + 1)).bind fun x1377 =>
      (lX Z (b3 + 2)).bind fun x1382 =>
      ob (inv 6 a2 h1369 (f_X6_changes a2 x1377 x1382 h1369)) fun x1383 h1383 =>
      if x1369 = x1383 then
        F (b3 + 6) h1383
      else
        some ((0 : Int32), h1383)
    else
    if (x29 &&& 63) = 34 then
      (lX Z (b3 + 1)).bind fun x1396 =>
      (lX Z (b3 + 2)).bind fun x1401 =>
      ob (inv 5 a1 h (f_X5_join a1 x1396 x1401 h)) fun x1402 h1402 =>
      (lX Z (b3 + 1)).bind fun x1410 =>
      (lX Z (b3 + 2)).bind fun x1415 =>
      ob (inv 6 a2 h1402 (f_X6_join a2 x1410 x1415 h1402)) fun x1416 h1416 =>
      if x1402 = x1416 then
        F (b3 + 6) h1416
      else
        some ((0 : Int32), h1416)
    else
    if (x29 &&& 63) = 35 then
      (lX Z (b3 + 1)).bind fun x1429 =>
      (lX Z (b3 + 2)).bind fun x1434 =>
      ob (inv 5 a1 h (f_X5_like a1 x1429 x1434 h)) fun x1435 h1435 =>
      (lX Z (b3 + 1)).bind fun x1443 =>
      (lX Z (b3 + 2)).bind fun x1448 =>
      ob (inv 6 a2 h1435 (f_X6_like a2 x1443 x1448 h1435)) fun x1449 h1449 =>
      if x1435 = x1449 then
        F (b3 + 6) h1449
      else
        some ((0 : Int32), h1449)
    else
    if (x29 &&& 63) = 36 then
      (lX Z (b3 + 1)).bind fun x1462 =>
      (lX Z (b3 + 2)).bind fun x1467 =>
      (lX Z (b3 + 3)).bind fun x1472 =>
      ob (inv 5 a1 h (f_X5_nearest a1 x1462 x1467 x1472 h)) fun x1473 h1473 =>
      (lX Z (b3 + 1)).bind fun x1481 =>
      (lX Z (b3 + 2)).bind fun x1486 =>
      (lX Z (b3 + 3)).bind fun x1491 =>
      ob (inv 6 a2 h1473 (f_X6_nearest a2 x1481 x1486 x1491 h1473)) fun x1492 h1492 =>
      if x1473 = x1492 then
        F (b3 + 6) h1492
      else
        some ((0 : Int32), h1492)
    else
    if (x29 &&& 63) = 37 then
      (lX Z (b3 + 1)).bind fun x1505 =>
      (lX Z (b3 + 2)).bind fun x1510 =>
      (lX Z (b3 + 3)).bind fun x1515 =>
      (lX Z (b3 + 4)).bind fun x1520 =>
      ob (inv 5 a1 h (f_X5_fits a1 x1505 x1510 x1515 x1520 h)) fun x1521 h1521 =>
      (lX Z (b3 + 1)).bind fun x1529 =>
      (lX Z (b3 + 2)).bind fun x1534 =>
      (lX Z (b3 + 3)).bind fun x1539 =>
      (lX Z (b3 + 4)).bind fun x1544 =>
      ob (inv 6 a2 h1521 (f_X6_fits a2 x1529 x1534 x1539 x1544 h1521)) fun x1545 h1545 =>
      if x1521 = x1545 then
        F (b3 + 6) h1545
      else
        some ((0 : Int32), h1545)
    else
    if (x29 &&& 63) = 38 then
      (lX Z (b3 + 1)).bind fun x1558 =>
      (lX Z (b3 + 2)).bind fun x1563 =>
      (lX Z (b3 + 3)).bind fun x1568 =>
      ob (inv 5 a1 h (f_X5_griefs a1 x1558 x1563 x1568 h)) fun x1569 h1569 =>
      (lX Z (b3 + 1)).bind fun x1577 =>
      (lX Z (b3 + 2)).bind fun x1582 =>
      (lX Z (b3 + 3)).bind fun x1587 =>
      ob (inv 6 a2 h1569 (f_X6_griefs a2 x1577 x1582 x1587 h1569)) fun x1588 h1588 =>
      if x1569 = x1588 then
        F (b3 + 6) h1588
      else
        some ((0 : Int32), h1588)
    else
    if (x29 &&& 63) = 39 then
      (lX Z (b3 + 1)).bind fun x1601 =>
      ob (inv 5 a1 h (f_X5_songs a1 x1601 h)) fun x1602 h1602 =>
      (lX Z (b3 + 1)).bind fun x1610 =>
      ob (inv 6 a2 h1602 (f_X6_songs a2 x1610 h1602)) fun x1611 h1611 =>
      if x1602 = x1611 then
        F (b3 + 6) h1611
      else
        some ((0 : Int32), h1611)
    else
    if (x29 &&& 63) = 40 then
      (lX Z (b3 + 1)).bind fun x1624 =>
      ob (inv 5 a1 h (f_X5_people a1 x1624 h)) fun x1625 h1625 =>
      (lX Z (b3 + 1)).bind fun x1633 =>
      ob (inv 6 a2 h1625 (f_X6_people a2 x1633 h1625)) fun x1634 h1634 =>
      if x1625 = x1634 then
        F (b3 + 6) h1634
      else
        some ((0 : Int32), h1634)
    else
    if (x29 &&& 63) = 41 then
      (lX Z (b3 + 1)).bind fun x1647 =>
      (lX Z (b3 + 2)).bind fun x1652 =>
      ob (inv 5 a1 h (f_X5_both a1 x1647 x1652 h)) fun x1653 h1653 =>
      (lX Z (b3 + 1)).bind fun x1661 =>
      (lX Z (b3 + 2)).bind fun x1666 =>
      ob (inv 6 a2 h1653 (f_X6_both a2 x1661 x1666 h1653)) fun x1667 h1667 =>
      if x1653 = x1667 then
        F (b3 + 6) h1667
      else
        some ((0 : Int32), h1667)
    else
    if (x29 &&& 63) = 42 then
      (lX Z (b3 + 1)).bind fun x1680 =>
      ob (inv 5 a1 h (f_X5_most a1 x1680 h)) fun x1681 h1681 =>
      (lX Z (b3 + 1)).bind fun x1689 =>
      ob (inv 6 a2 h1681 (f_X6_most a2 x1689 h1681)) fun x1690 h1690 =>
      if x1681 = x1690 then
        F (b3 + 6) h1690
      else
        some ((0 : Int32), h1690)
    else
    if (x29 &&& 63) = 43 then
      (lX Z (b3 + 1)).bind fun x1703 =>
      ob (inv 5 a1 h (f_X5_table a1 x1703 h)) fun x1704 h1704 =>
      (lX Z (b3 + 1)).bind fun x1712 =>
      ob (inv 6 a2 h1704 (f_X6_table a2 x1712 h1704)) fun x1713 h1713 =>
      if x1704 = x1713 then
        F (b3 + 6) h1713
      else
        some ((0 : Int32), h1713)
    else
    if (x29 &&& 63) = 44 then
      (lX Z (b3 + 1)).bind fun x1726 =>
      ob (inv 5 a1 h (f_X5_weakest a1 x1726 h)) fun x1727 h1727 =>
      (lX Z (b3 + 1)).bind fun x1735 =>
      ob (inv 6 a2 h1727 (f_X6_weakest a2 x1735 h1727)) fun x1736 h1736 =>
      if x1727 = x1736 then
        F (b3 + 6) h1736
      else
        some ((0 : Int32), h1736)
    else
    if (x29 &&& 63) = 45 then
      (lX Z (b3 + 1)).bind fun x1749 =>
      (lX Z (b3 + 2)).bind fun x1754 =>
      ob (inv 5 a1 h (f_X5_forgets a1 x1749 x1754 h)) fun x1755 h1755 =>
      (lX Z (b3 + 1)).bind fun x1763 =>
      (lX Z (b3 + 2)).bind fun x1768 =>
      ob (inv 6 a2 h1755 (f_X6_forgets a2 x1763 x1768 h1755)) fun x1769 h1769 =>
      if x1755 = x1769 then
        F (b3 + 6) h1769
      else
        some ((0 : Int32), h1769)
    else
    if (x29 &&& 63) = 46 then
      (lX Z (b3 + 1)).bind fun x1782 =>
      ob (inv 5 a1 h (f_X5_ofKind a1 x1782 h)) fun x1783 h1783 =>
      (lX Z (b3 + 1)).bind fun x1791 =>
      ob (inv 6 a2 h1783 (f_X6_ofKind a2 x1791 h1783)) fun x1792 h1792 =>
      if x1783 = x1792 then
        F (b3 + 6) h1792
      else
        some ((0 : Int32), h1792)
    else
    if (x29 &&& 63) = 47 then
      (lX Z (b3 + 1)).bind fun x1805 =>
      (lX Z (b3 + 2)).bind fun x1810 =>
      ob (inv 5 a1 h (f_X5_judge a1 x1805 x1810 h)) fun x1811 h1811 =>
      (lX Z (b3 + 1)).bind fun x1819 =>
      (lX Z (b3 + 2)).bind fun x1824 =>
      ob (inv 6 a2 h1811 (f_X6_judge a2 x1819 x1824 h1811)) fun x1825 h1825 =>
      if x1811 = x1825 then
        F (b3 + 6) h1825
      else
        some ((0 : Int32), h1825)
    else
    if (x29 &&& 63) = 48 then
      ob (inv 5 a1 h (f_X5_pass a1 h)) fun x1834 h1834 =>
      ob (inv 6 a2 h1834 (f_X6_pass a2 h1834)) fun x1838 h1838 =>
      if x1834 = x1838 then
        F (b3 + 6) h1838
      else
        some ((0 : Int32), h1838)
    else
    if (x29 &&& 63) = 49 then
      (lX Z (b3 + 1)).bind fun x1851 =>
      (lX Z (b3 + 2)).bind fun x1856 =>
      ob (inv 5 a1 h (f_X5_taught a1 x1851 x1856 h)) fun x1857 h1857 =>
      (lX Z (b3 + 1)).bind fun x1865 =>
      (lX Z (b3 + 2)).bind fun x1870 =>
      ob (inv 6 a2 h1857 (f_X6_taught a2 x1865 x1870 h1857)) fun x1871 h1871 =>
      if x1857 = x1871 then
        F (b3 + 6) h1871
      else
        some ((0 : Int32), h1871)
    else
    if (x29 &&& 63) = 50 then
      (lX Z (b3 + 1)).bind fun x1884 =>
      ob (inv 5 a1 h (f_X5_drawn a1 x1884 h)) fun x1885 h1885 =>
      (lX Z (b3 + 1)).bind fun x1893 =>
      ob (inv 6 a2 h1885 (f_X6_drawn a2 x1893 h1885)) fun x1894 h1894 =>
      if x1885 = x1894 then
        F (b3 + 6) h1894
      else
        some ((0 : Int32), h1894)
    else
    if (x29 &&& 63) = 51 then
      (lX Z (b3 + 1)).bind fun x1907 =>
      ob (inv 5 a1 h (f_X5_seed a1 x1907 h)) fun x1908 h1908 =>
      (lX Z (b3 + 1)).bind fun x1916 =>
      ob (inv 6 a2 h1908 (f_X6_seed a2 x1916 h1908)) fun x1917 h1917 =>
      if x1908 = x1917 then
        F (b3 + 6) h1917
      else
        some ((0 : Int32), h1917)
    else
    if (x29 &&& 63) = 52 then
      ob (inv 5 a1 h (f_X5_image a1 h)) fun x1926 h1926 =>
      ob (inv 6 a2 h1926 (f_X6_image a2 h1926)) fun x1930 h1930 =>
      if x1926 = x1930 then
        F (b3 + 6) h1930
      else
        some ((0 : Int32), h1930)
    else
    if (x29 &&& 63) = 53 then
      ob (inv 5 a1 h (f_X5_back a1 h)) fun x1939 h1939 =>
      ob (inv 6 a2 h1939 (f_X6_back a2 h1939)) fun x1943 h1943 =>
      if x1939 = x1943 then
        F (b3 + 6) h1943
      else
        some ((0 : Int32), h1943)
    else
    if (x29 &&& 63) = 54 then
      (lX Z (b3 + 1)).bind fun x1956 =>
      ob (inv 5 a1 h (f_X5_status a1 x1956 h)) fun x1957 h1957 =>
      (lX Z (b3 + 1)).bind fun x1965 =>
      ob (inv 6 a2 h1957 (f_X6_status a2 x1965 h1957)) fun x1966 h1966 =>
      if x1957 = x1966 then
        F (b3 + 6) h1966
      else
        some ((0 : Int32), h1966)
    else
    F (b3 + 6) h
def lp_L_law_18 (Z : ZZ) (a1 : Nat) (a2 : Nat) (K : HP → Option (Int32 × HP)) : Nat → Int32 → HP → Option (Int32 × HP)
  | 0 => fun _ _ => none
  | k + 1 => lb_L_law_18 Z a1 a2 K (lp_L_law_18 Z a1 a2 K k)
def f_L_law (Z : ZZ) (h : HP) : Option (Int32 × HP) :=
  ob (mkO 5 h) fun x0 h0 =>
  ob (f_X5_init x0 h0) fun _ h4 =>
  ob (mkO 6 h4) fun x8 h8 =>
  ob (f_X6_init x8 h8) fun _ h12 =>
  lp_L_law_18 Z x0 x8 (fun h18_ =>
    some ((1 : Int32), h18_))
    1000 0 h12
