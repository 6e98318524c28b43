/-! ===== the methods as functions of the picture ===== -/
def f_Ci_init (G : Hp) (l0 : Nat) : Option Hp :=
  nA G 11 (6 : Int32) fun a2 G1 =>
  pR G1 0 0 l0 a2 fun G3 =>
  some G3
def f_Ci_member_b23 (G : Hp) (s0 : Int32) : Option Int32 :=
  some s0
def f_Ci_member_b22 (G : Hp) : Option Int32 :=
  f_Ci_member_b23 G  (-1 : Int32)
def f_Ci_member (G : Hp) (l0 : Nat) (l1 : Int32) : Option Int32 :=
  if l1 < 0 then
    f_Ci_member_b22 G  
  else
    gR G 0 0 l0 fun x1 =>
    aL G x1 fun x2 =>
    if x2 ≤ l1 then
      f_Ci_member_b22 G  
    else
      gR G 0 0 l0 fun x3 =>
      aI G 11 x3 l1 fun x4 =>
      f_Ci_member_b23 G  x4
def f_Ta_placeOf_b46 (G : Hp) (s0 : Int32) : Option Int32 :=
  some s0
def f_Ta_placeOf_b29 (G : Hp) (l0 : Nat) (l1 : Int32) (l2 : Int32) (s0 : Int32) : Option Int32 :=
  if s0 = 0 then
    f_Ta_placeOf_b46 G  (-1 : Int32)
  else
    gI G 7 0 l0 fun x1 =>
    f_Ta_placeOf_b46 G  ((l1 * x1) + l2)
def f_Ta_placeOf_b28 (G : Hp) (l0 : Nat) (l1 : Int32) (l2 : Int32) : Option Int32 :=
  f_Ta_placeOf_b29 G  l0 l1 l2 (0 : Int32)
def f_Ta_placeOf (G : Hp) (l0 : Nat) (l1 : Int32) (l2 : Int32) : Option Int32 :=
  if l1 < 0 then
    f_Ta_placeOf_b28 G  l0 l1 l2
  else
    gI G 7 2 l0 fun x1 =>
    if x1 ≤ l1 then
      f_Ta_placeOf_b28 G  l0 l1 l2
    else
      if l2 < 0 then
        f_Ta_placeOf_b28 G  l0 l1 l2
      else
        gI G 7 0 l0 fun x2 =>
        if x2 ≤ l2 then
          f_Ta_placeOf_b28 G  l0 l1 l2
        else
          f_Ta_placeOf_b29 G  l0 l1 l2 (1 : Int32)
def f_Ta_at_b30 (G : Hp) (s0 : Int32) : Option Int32 :=
  some s0
def f_Ta_at_b29 (G : Hp) : Option Int32 :=
  f_Ta_at_b30 G  (0 : Int32)
def f_Ta_at (G : Hp) (l0 : Nat) (l1 : Int32) (l2 : Int32) : Option Int32 :=
  vP G 7 l0 (f_Ta_placeOf G l0 l1 l2) fun x1 =>
  if x1 < 0 then
    f_Ta_at_b29 G  
  else
    gR G 7 1 l0 fun x2 =>
    aL G x2 fun x3 =>
    if x3 ≤ x1 then
      f_Ta_at_b29 G  
    else
      gR G 7 1 l0 fun x4 =>
      aI G 11 x4 x1 fun x5 =>
      f_Ta_at_b30 G  x5
def f_De_between (G : Hp) (l0 : Nat) (l1 : Int32) (l2 : Int32) : Option Int32 :=
  gR G 1 0 l0 fun x1 =>
  vP G 7 x1 (f_Ta_at G x1 l1 l2) fun x2 =>
  some x2
def f_Ci_holds_b2_k (G : Hp) (k2 : Nat → Int32 → Int32 → Int32 → Option Int32) (l0 : Nat) (l1 : Int32) (l2 : Int32) (l3 : Int32) : Option Int32 :=
  if l2 ≤ l3 then
    some (0 : Int32)
  else
    vP G 0 l0 (f_Ci_member G l0 l3) fun x1 =>
    if x1 = l1 then
      some (1 : Int32)
    else
      k2 l0 l1 l2 (l3 + 1)
def f_Ci_holds_b2 (G : Hp) : Nat → Nat → Int32 → Int32 → Int32 → Option Int32
  | 0, _, _, _, _ => none
  | nn + 1, l0, l1, l2, l3 => f_Ci_holds_b2_k G (f_Ci_holds_b2 G nn) l0 l1 l2 l3
def f_Ci_holds (G : Hp) (l0 : Nat) (l1 : Int32) (l2 : Int32) : Option Int32 :=
  f_Ci_holds_b2 G  FU l0 l1 l2 (0 : Int32)
def f_Ci_closes_b51 (sf : Hp → Nat → Nat → Int32 → Int32 → Option (Int32 × Hp)) (G : Hp) (s0 : Int32) : Option (Int32 × Hp) :=
  zR s0 <|
  some (s0, G)
def f_Ci_closes_b35 (sf : Hp → Nat → Nat → Int32 → Int32 → Option (Int32 × Hp)) (G : Hp) (l1 : Nat) (l4 : Int32) (l5 : Int32) : Option (Int32 × Hp) :=
  vP G 1 l1 (f_De_between G l1 l5 l4) fun x1 =>
  if x1 ≤ 0 then
    f_Ci_closes_b51 sf G (0 : Int32)
  else
    f_Ci_closes_b51 sf G (1 : Int32)
def f_Ci_closes_b110 (sf : Hp → Nat → Nat → Int32 → Int32 → Option (Int32 × Hp)) (k58 : Hp → Nat → Nat → Int32 → Int32 → Int32 → Int32 → Option (Int32 × Hp)) (G : Hp) (l0 : Nat) (l1 : Nat) (l2 : Int32) (l3 : Int32) (l5 : Int32) (l6 : Int32) : Option (Int32 × Hp) :=
  k58 G l0 l1 l2 l3 l5 (l6 + 1)
def f_Ci_closes_b58_k (sf : Hp → Nat → Nat → Int32 → Int32 → Option (Int32 × Hp)) (k58 : Hp → Nat → Nat → Int32 → Int32 → Int32 → Int32 → Option (Int32 × Hp)) (G : Hp) (l0 : Nat) (l1 : Nat) (l2 : Int32) (l3 : Int32) (l5 : Int32) (l6 : Int32) : Option (Int32 × Hp) :=
  gI G 1 3 l1 fun x1 =>
  if x1 ≤ l6 then
    some ((0 : Int32), G)
  else
    vP G 1 l1 (f_De_between G l1 l5 l6) fun x2 =>
    if x2 ≤ 0 then
      f_Ci_closes_b110 sf k58 G l0 l1 l2 l3 l5 l6
    else
      vP G 0 l0 (f_Ci_holds G l0 l6 l2) fun x3 =>
      if x3 = 0 then
        gR G 0 0 l0 fun x4 =>
        sI G 11 x4 l2 l6 fun G5 =>
        cH (sf G5 l0 l1 (l2 + (1 : Int32)) l3) fun x6 G7 =>
        if x6 = 0 then
          f_Ci_closes_b110 sf k58 G7 l0 l1 l2 l3 l5 l6
        else
          some ((1 : Int32), G7)
      else
        f_Ci_closes_b110 sf k58 G l0 l1 l2 l3 l5 l6
def f_Ci_closes_b58 (sf : Hp → Nat → Nat → Int32 → Int32 → Option (Int32 × Hp)) : Nat → Hp → Nat → Nat → Int32 → Int32 → Int32 → Int32 → Option (Int32 × Hp)
  | 0, _, _, _, _, _, _, _ => none
  | nn + 1, G, l0, l1, l2, l3, l5, l6 => f_Ci_closes_b58_k sf (f_Ci_closes_b58 sf nn) G l0 l1 l2 l3 l5 l6
def f_Ci_closes_r (sf : Hp → Nat → Nat → Int32 → Int32 → Option (Int32 × Hp)) (G : Hp) (l0 : Nat) (l1 : Nat) (l2 : Int32) (l3 : Int32) : Option (Int32 × Hp) :=
  vP G 0 l0 (f_Ci_member G l0 (0 : Int32)) fun x1 =>
  vP G 0 l0 (f_Ci_member G l0 (l2 - (1 : Int32))) fun x2 =>
  if l2 < (1 : Int32) then
    f_Ci_closes_b35 sf G l1 x1 x2
  else
    if l3 ≤ l2 then
      f_Ci_closes_b35 sf G l1 x1 x2
    else
      gR G 0 0 l0 fun x3 =>
      aL G x3 fun x4 =>
      if l2 < x4 then
        lt (x1 + (1 : Int32)) fun x5 =>
        f_Ci_closes_b58 sf FU G l0 l1 l2 l3 x2 x5
      else
        f_Ci_closes_b35 sf G l1 x1 x2
def f_Ci_closes : Nat → Hp → Nat → Nat → Int32 → Int32 → Option (Int32 × Hp)
  | 0, _, _, _, _, _ => none
  | rr + 1, G, l0, l1, l2, l3 => f_Ci_closes_r (f_Ci_closes rr) G l0 l1 l2 l3
def f_Ci_find_b17_k (k7 : Hp → Nat → Nat → Int32 → Option Hp) (k17 : Hp → Nat → Nat → Int32 → Int32 → Option Hp) (G : Hp) (l0 : Nat) (l1 : Nat) (l2 : Int32) (l3 : Int32) : Option Hp :=
  gI G 1 3 l1 fun x1 =>
  if x1 ≤ l3 then
    k7 G l0 l1 (l2 + 1)
  else
    gR G 0 0 l0 fun x2 =>
    sI G 11 x2 (0 : Int32) l3 fun G3 =>
    cH (f_Ci_closes 8 G3 l0 l1 (1 : Int32) l2) fun x4 G5 =>
    if x4 = 0 then
      k17 G5 l0 l1 l2 (l3 + 1)
    else
      pI G5 0 1 l0 l2 fun G6 =>
      some G6
def f_Ci_find_b17 (k7 : Hp → Nat → Nat → Int32 → Option Hp) : Nat → Hp → Nat → Nat → Int32 → Int32 → Option Hp
  | 0, _, _, _, _, _ => none
  | nn + 1, G, l0, l1, l2, l3 => f_Ci_find_b17_k k7 (f_Ci_find_b17 k7 nn) G l0 l1 l2 l3
def f_Ci_find_b7_k (k7 : Hp → Nat → Nat → Int32 → Option Hp) (G : Hp) (l0 : Nat) (l1 : Nat) (l2 : Int32) : Option Hp :=
  gI G 1 3 l1 fun x1 =>
  if x1 < l2 then
    some G
  else
    f_Ci_find_b17 k7 FU G l0 l1 l2 (0 : Int32)
def f_Ci_find_b7 : Nat → Hp → Nat → Nat → Int32 → Option Hp
  | 0, _, _, _, _ => none
  | nn + 1, G, l0, l1, l2 => f_Ci_find_b7_k (f_Ci_find_b7 nn) G l0 l1 l2
def f_Ci_find (G : Hp) (l0 : Nat) (l1 : Nat) : Option Hp :=
  pI G 0 1 l0 (0 : Int32) fun G1 =>
  f_Ci_find_b7  FU G1 l0 l1 (2 : Int32)
def f_Ta_init (G : Hp) (l0 : Nat) (l1 : Int32) (l2 : Int32) : Option Hp :=
  pI G 7 0 l0 l2 fun G1 =>
  nA G1 11 (mx (0 : Int32) (l1 * l2)) fun a3 G2 =>
  pR G2 7 1 l0 a3 fun G4 =>
  some G4
def f_De_init (G : Hp) (l0 : Nat) : Option Hp :=
  nO G 7 fun a2 G1 =>
  cP (f_Ta_init G1 a2 (6 : Int32) (6 : Int32)) fun G3 =>
  pR G3 1 0 l0 a2 fun G4 =>
  nA G4 11 (6 : Int32) fun a6 G5 =>
  pR G5 1 1 l0 a6 fun G7 =>
  nA G7 11 (64 : Int32) fun a9 G8 =>
  pR G8 1 2 l0 a9 fun G10 =>
  some G10
def f_Ta_put_b31 (G : Hp) : Option Hp :=
  some G
def f_Ta_put (G : Hp) (l0 : Nat) (l1 : Int32) (l2 : Int32) (l3 : Int32) : Option Hp :=
  vP G 7 l0 (f_Ta_placeOf G l0 l1 l2) fun x1 =>
  if x1 < 0 then
    f_Ta_put_b31  G 
  else
    gR G 7 1 l0 fun x2 =>
    aL G x2 fun x3 =>
    if x3 ≤ x1 then
      f_Ta_put_b31  G 
    else
      gR G 7 1 l0 fun x4 =>
      sI G 11 x4 x1 l3 fun G5 =>
      f_Ta_put_b31  G5 
def f_Ta_fillRow_b2_k (k2 : Hp → Nat → Int32 → Int32 → Int32 → Option Hp) (G : Hp) (l0 : Nat) (l1 : Int32) (l2 : Int32) (l3 : Int32) : Option Hp :=
  gI G 7 0 l0 fun x1 =>
  if x1 ≤ l3 then
    some G
  else
    vP G 7 l0 (f_Ta_put G l0 l1 l3 l2) fun G2 =>
    k2 G2 l0 l1 l2 (l3 + 1)
def f_Ta_fillRow_b2 : Nat → Hp → Nat → Int32 → Int32 → Int32 → Option Hp
  | 0, _, _, _, _, _ => none
  | nn + 1, G, l0, l1, l2, l3 => f_Ta_fillRow_b2_k (f_Ta_fillRow_b2 nn) G l0 l1 l2 l3
def f_Ta_fillRow (G : Hp) (l0 : Nat) (l1 : Int32) (l2 : Int32) : Option Hp :=
  f_Ta_fillRow_b2  FU G l0 l1 l2 (0 : Int32)
def f_St_valueOn_b143 (G : Hp) (s0 : Int32) : Option Int32 :=
  some s0
def f_St_valueOn_b47 (G : Hp) (l0 : Nat) (l1 : Int32) (l2 : Int32) (l3 : Int32) (l4 : Int32) (s0 : Int32) : Option Int32 :=
  gR G 6 1 l0 fun x1 =>
  vP G 7 x1 (f_Ta_at G x1 l1 (6 : Int32)) fun x2 =>
  lt (mx (0 : Int32) (l2 - x2)) fun x3 =>
  gR G 6 1 l0 fun x4 =>
  vP G 7 x4 (f_Ta_at G x4 l1 (0 : Int32)) fun x5 =>
  if x5 = 1 then
    some (mx (0 : Int32) (s0 - x3))
  else
    if x5 = 2 then
      dI (10 : Int32) <|
      some (l3 + ((mx (0 : Int32) (l2 - l4)) / (10 : Int32)))
    else
      if x5 = 3 then
        if l4 ≤ l2 then
          f_St_valueOn_b143 G  l3
        else
          f_St_valueOn_b143 G  (0 : Int32)
      else
        if x5 = 4 then
          some (mx (0 : Int32) (s0 - ((2 : Int32) * x3)))
        else
          some s0
def f_St_valueOn (G : Hp) (l0 : Nat) (l1 : Int32) (l2 : Int32) : Option Int32 :=
  gR G 6 1 l0 fun x1 =>
  vP G 7 x1 (f_Ta_at G x1 l1 (2 : Int32)) fun x2 =>
  if x2 = (-1 : Int32) then
    some (0 : Int32)
  else
    gR G 6 1 l0 fun x3 =>
    vP G 7 x3 (f_Ta_at G x3 l1 (4 : Int32)) fun x4 =>
    gR G 6 1 l0 fun x5 =>
    vP G 7 x5 (f_Ta_at G x5 l1 (5 : Int32)) fun x6 =>
    if x6 < l2 then
      f_St_valueOn_b47 G  l0 l1 l2 x4 x6 (0 : Int32)
    else
      f_St_valueOn_b47 G  l0 l1 l2 x4 x6 x4
def f_Ta_more (G : Hp) (l0 : Nat) (l1 : Int32) (l2 : Int32) (l3 : Int32) : Option Hp :=
  vP G 7 l0 (f_Ta_at G l0 l1 l2) fun x1 =>
  vP G 7 l0 (f_Ta_put G l0 l1 l2 (x1 + l3)) fun G2 =>
  some G2
def f_De_addUp_b54_k (k54 : Hp → Nat → Nat → Int32 → Int32 → Option Hp) (G : Hp) (l0 : Nat) (l1 : Nat) (l2 : Int32) (l3 : Int32) : Option Hp :=
  gR G 6 1 l1 fun x1 =>
  gI G 7 2 x1 fun x2 =>
  if x2 ≤ l3 then
    some G
  else
    gR G 1 0 l0 fun x3 =>
    gR G 6 1 l1 fun x4 =>
    vP G 7 x4 (f_Ta_at G x4 l3 (1 : Int32)) fun x5 =>
    gR G 6 1 l1 fun x6 =>
    vP G 7 x6 (f_Ta_at G x6 l3 (2 : Int32)) fun x7 =>
    vP G 6 l1 (f_St_valueOn G l1 l3 l2) fun x8 =>
    vP G 7 x3 (f_Ta_more G x3 x5 x7 x8) fun G9 =>
    k54 G9 l0 l1 l2 (l3 + 1)
def f_De_addUp_b54 : Nat → Hp → Nat → Nat → Int32 → Int32 → Option Hp
  | 0, _, _, _, _, _ => none
  | nn + 1, G, l0, l1, l2, l3 => f_De_addUp_b54_k (f_De_addUp_b54 nn) G l0 l1 l2 l3
def f_De_addUp_b29_k (k29 : Hp → Nat → Nat → Int32 → Int32 → Option Hp) (G : Hp) (l0 : Nat) (l1 : Nat) (l2 : Int32) (l3 : Int32) : Option Hp :=
  gI G 1 3 l0 fun x1 =>
  if x1 ≤ l3 then
    f_De_addUp_b54  FU G l0 l1 l2 (0 : Int32)
  else
    gR G 1 0 l0 fun x2 =>
    vP G 7 x2 (f_Ta_fillRow G x2 l3 (0 : Int32)) fun G3 =>
    k29 G3 l0 l1 l2 (l3 + 1)
def f_De_addUp_b29 : Nat → Hp → Nat → Nat → Int32 → Int32 → Option Hp
  | 0, _, _, _, _, _ => none
  | nn + 1, G, l0, l1, l2, l3 => f_De_addUp_b29_k (f_De_addUp_b29 nn) G l0 l1 l2 l3
def f_De_addUp (G : Hp) (l0 : Nat) (l1 : Nat) (l2 : Int32) : Option Hp :=
  gR G 6 0 l1 fun x1 =>
  gI G 7 2 x1 fun x2 =>
  pI G 1 3 l0 (mn (6 : Int32) x2) fun G3 =>
  gR G3 1 0 l0 fun x4 =>
  gI G3 1 3 l0 fun x5 =>
  pI G3 7 2 x4 x5 fun G6 =>
  f_De_addUp_b29  FU G6 l0 l1 l2 (0 : Int32)
def f_De_doneFor_b33 (G : Hp) (k5 : Nat → Int32 → Int32 → Int32 → Int32 → Option Int32) (l0 : Nat) (l1 : Int32) (l2 : Int32) (l3 : Int32) (l4 : Int32) : Option Int32 :=
  k5 l0 l1 l2 l3 (l4 + 1)
def f_De_doneFor_b5_k (G : Hp) (k5 : Nat → Int32 → Int32 → Int32 → Int32 → Option Int32) (l0 : Nat) (l1 : Int32) (l2 : Int32) (l3 : Int32) (l4 : Int32) : Option Int32 :=
  gI G 1 3 l0 fun x1 =>
  if x1 ≤ l4 then
    some l3
  else
    if (l2 &&& ((1 : Int32) <<< (l4 &&& 31))) = 0 then
      vP G 1 l0 (f_De_between G l0 l4 l1) fun x2 =>
      lt (l3 + x2) fun x3 =>
      f_De_doneFor_b33 G k5 l0 l1 l2 x3 l4
    else
      f_De_doneFor_b33 G k5 l0 l1 l2 l3 l4
def f_De_doneFor_b5 (G : Hp) : Nat → Nat → Int32 → Int32 → Int32 → Int32 → Option Int32
  | 0, _, _, _, _, _ => none
  | nn + 1, l0, l1, l2, l3, l4 => f_De_doneFor_b5_k G (f_De_doneFor_b5 G nn) l0 l1 l2 l3 l4
def f_De_doneFor (G : Hp) (l0 : Nat) (l1 : Int32) (l2 : Int32) : Option Int32 :=
  f_De_doneFor_b5 G  FU l0 l1 l2 (0 : Int32) (0 : Int32)
def f_De_dueFrom_b4_k (G : Hp) (k4 : Nat → Int32 → Int32 → Int32 → Option Int32) (l0 : Nat) (l1 : Int32) (l2 : Int32) (l3 : Int32) : Option Int32 :=
  gI G 1 3 l0 fun x1 =>
  if x1 ≤ l3 then
    some l2
  else
    vP G 1 l0 (f_De_between G l0 l1 l3) fun x2 =>
    lt (l2 + x2) fun x3 =>
    k4 l0 l1 x3 (l3 + 1)
def f_De_dueFrom_b4 (G : Hp) : Nat → Nat → Int32 → Int32 → Int32 → Option Int32
  | 0, _, _, _, _ => none
  | nn + 1, l0, l1, l2, l3 => f_De_dueFrom_b4_k G (f_De_dueFrom_b4 G nn) l0 l1 l2 l3
def f_De_dueFrom (G : Hp) (l0 : Nat) (l1 : Int32) : Option Int32 :=
  f_De_dueFrom_b4 G  FU l0 l1 (0 : Int32) (0 : Int32)
def f_De_balance (G : Hp) (l0 : Nat) (l1 : Int32) : Option Int32 :=
  vP G 1 l0 (f_De_doneFor G l0 l1 (0 : Int32)) fun x1 =>
  vP G 1 l0 (f_De_dueFrom G l0 l1) fun x2 =>
  some (x1 - x2)
def f_De_mostGroups_b54 (G : Hp) (k7 : Nat → Int32 → Int32 → Int32 → Int32 → Option Int32) (l0 : Nat) (l1 : Int32) (l2 : Int32) (l3 : Int32) (l4 : Int32) : Option Int32 :=
  k7 l0 l1 l2 l3 (l4 + 1)
def f_De_mostGroups_b71 (G : Hp) (s0 : Int32) : Option Int32 :=
  some s0
def f_De_mostGroups_b7_k (G : Hp) (k7 : Nat → Int32 → Int32 → Int32 → Int32 → Option Int32) (l0 : Nat) (l1 : Int32) (l2 : Int32) (l3 : Int32) (l4 : Int32) : Option Int32 :=
  gI G 1 3 l0 fun x1 =>
  if x1 ≤ l4 then
    if l3 = 0 then
      f_De_mostGroups_b71 G  (l2 + (1 : Int32))
    else
      f_De_mostGroups_b71 G  l2
  else
    lt (l1 &&& (((1 : Int32) <<< (l4 &&& 31)) ^^^ (-1 : Int32))) fun x2 =>
    if l1 ≤ x2 then
      f_De_mostGroups_b54 G k7 l0 l1 l2 l3 l4
    else
      gR G 1 2 l0 fun x3 =>
      aI G 11 x3 x2 fun x4 =>
      lt (mx l2 x4) fun x5 =>
      gR G 1 1 l0 fun x6 =>
      aI G 11 x6 l4 fun x7 =>
      lt (l3 + x7) fun x8 =>
      f_De_mostGroups_b54 G k7 l0 l1 x5 x8 l4
def f_De_mostGroups_b7 (G : Hp) : Nat → Nat → Int32 → Int32 → Int32 → Int32 → Option Int32
  | 0, _, _, _, _, _ => none
  | nn + 1, l0, l1, l2, l3, l4 => f_De_mostGroups_b7_k G (f_De_mostGroups_b7 G nn) l0 l1 l2 l3 l4
def f_De_mostGroups (G : Hp) (l0 : Nat) (l1 : Int32) : Option Int32 :=
  f_De_mostGroups_b7 G  FU l0 l1 (0 : Int32) (0 : Int32) (0 : Int32)
def f_De_fewestPayments_b44_k (k44 : Hp → Nat → Int32 → Int32 → Option (Int32 × Hp)) (G : Hp) (l0 : Nat) (l1 : Int32) (l2 : Int32) : Option (Int32 × Hp) :=
  if l1 ≤ l2 then
    gI G 1 3 l0 fun x1 =>
    gR G 1 2 l0 fun x2 =>
    aI G 11 x2 (l1 - (1 : Int32)) fun x3 =>
    some ((x1 - x3), G)
  else
    gR G 1 2 l0 fun x4 =>
    vP G 1 l0 (f_De_mostGroups G l0 l2) fun x5 =>
    sI G 11 x4 l2 x5 fun G6 =>
    k44 G6 l0 l1 (l2 + 1)
def f_De_fewestPayments_b44 : Nat → Hp → Nat → Int32 → Int32 → Option (Int32 × Hp)
  | 0, _, _, _, _ => none
  | nn + 1, G, l0, l1, l2 => f_De_fewestPayments_b44_k (f_De_fewestPayments_b44 nn) G l0 l1 l2
def f_De_fewestPayments_b2_k (k2 : Hp → Nat → Int32 → Option (Int32 × Hp)) (G : Hp) (l0 : Nat) (l1 : Int32) : Option (Int32 × Hp) :=
  gI G 1 3 l0 fun x1 =>
  if x1 ≤ l1 then
    gI G 1 3 l0 fun x2 =>
    gR G 1 2 l0 fun x3 =>
    aL G x3 fun x4 =>
    lt (mn ((1 : Int32) <<< (x2 &&& 31)) x4) fun x5 =>
    f_De_fewestPayments_b44  FU G l0 x5 (1 : Int32)
  else
    gR G 1 1 l0 fun x6 =>
    vP G 1 l0 (f_De_balance G l0 l1) fun x7 =>
    sI G 11 x6 l1 x7 fun G8 =>
    k2 G8 l0 (l1 + 1)
def f_De_fewestPayments_b2 : Nat → Hp → Nat → Int32 → Option (Int32 × Hp)
  | 0, _, _, _ => none
  | nn + 1, G, l0, l1 => f_De_fewestPayments_b2_k (f_De_fewestPayments_b2 nn) G l0 l1
def f_De_fewestPayments (G : Hp) (l0 : Nat) : Option (Int32 × Hp) :=
  f_De_fewestPayments_b2  FU G l0 (0 : Int32)
def f_De_callAllIn_b94 (k12 : Hp → Nat → Nat → Int32 → Option Hp) (k25 : Hp → Nat → Nat → Int32 → Int32 → Int32 → Option Hp) (G : Hp) (l0 : Nat) (l1 : Nat) (l2 : Int32) (l3 : Int32) (l4 : Int32) : Option Hp :=
  k25 G l0 l1 l2 l3 (l4 + 1)
def f_De_callAllIn_b55 (k12 : Hp → Nat → Nat → Int32 → Option Hp) (k25 : Hp → Nat → Nat → Int32 → Int32 → Int32 → Option Hp) (G : Hp) (l0 : Nat) (l1 : Nat) (l2 : Int32) (l3 : Int32) (l4 : Int32) (l5 : Int32) (s0 : Int32) : Option Hp :=
  if s0 = 0 then
    f_De_callAllIn_b94 k12 k25 G l0 l1 l2 l3 l4
  else
    vP G 1 l0 (f_De_dueFrom G l0 l4) fun x1 =>
    vP G 7 l1 (f_Ta_at G l1 l4 (0 : Int32)) fun x2 =>
    gI G 1 4 l0 fun x3 =>
    vP G 1 l0 (f_De_doneFor G l0 l4 x3) fun x4 =>
    if x1 ≤ (x2 + x4) then
      f_De_callAllIn_b94 k12 k25 G l0 l1 l2 l3 l4
    else
      lt (l3 ||| l5) fun x5 =>
      f_De_callAllIn_b94 k12 k25 G l0 l1 l2 x5 l4
def f_De_callAllIn_b25_k (k12 : Hp → Nat → Nat → Int32 → Option Hp) (k25 : Hp → Nat → Nat → Int32 → Int32 → Int32 → Option Hp) (G : Hp) (l0 : Nat) (l1 : Nat) (l2 : Int32) (l3 : Int32) (l4 : Int32) : Option Hp :=
  gI G 1 3 l0 fun x1 =>
  if x1 ≤ l4 then
    if l3 = 0 then
      some G
    else
      gI G 1 4 l0 fun x2 =>
      pI G 1 4 l0 (x2 ||| l3) fun G3 =>
      gI G3 1 5 l0 fun x4 =>
      pI G3 1 5 l0 (x4 + (1 : Int32)) fun G5 =>
      k12 G5 l0 l1 (l2 + 1)
  else
    lt ((1 : Int32) <<< (l4 &&& 31)) fun x6 =>
    gI G 1 4 l0 fun x7 =>
    if (x7 &&& x6) = 0 then
      f_De_callAllIn_b55 k12 k25 G l0 l1 l2 l3 l4 x6 (1 : Int32)
    else
      f_De_callAllIn_b55 k12 k25 G l0 l1 l2 l3 l4 x6 (0 : Int32)
def f_De_callAllIn_b25 (k12 : Hp → Nat → Nat → Int32 → Option Hp) : Nat → Hp → Nat → Nat → Int32 → Int32 → Int32 → Option Hp
  | 0, _, _, _, _, _, _ => none
  | nn + 1, G, l0, l1, l2, l3, l4 => f_De_callAllIn_b25_k k12 (f_De_callAllIn_b25 k12 nn) G l0 l1 l2 l3 l4
def f_De_callAllIn_b12_k (k12 : Hp → Nat → Nat → Int32 → Option Hp) (G : Hp) (l0 : Nat) (l1 : Nat) (l2 : Int32) : Option Hp :=
  gI G 1 3 l0 fun x1 =>
  if x1 ≤ l2 then
    some G
  else
    f_De_callAllIn_b25 k12 FU G l0 l1 l2 (0 : Int32) (0 : Int32)
def f_De_callAllIn_b12 : Nat → Hp → Nat → Nat → Int32 → Option Hp
  | 0, _, _, _, _ => none
  | nn + 1, G, l0, l1, l2 => f_De_callAllIn_b12_k (f_De_callAllIn_b12 nn) G l0 l1 l2
def f_De_callAllIn (G : Hp) (l0 : Nat) (l1 : Nat) : Option Hp :=
  pI G 1 4 l0 (0 : Int32) fun G1 =>
  pI G1 1 5 l0 (0 : Int32) fun G2 =>
  f_De_callAllIn_b12  FU G2 l0 l1 (0 : Int32)
def f_Fr_init (G : Hp) (l0 : Nat) : Option Hp :=
  pL G 2 1 l0 (1 : Int64) fun G1 =>
  some G1
def f_Fr_commonDivisor_b32 (G : Hp) (l0 : Int64) : Option Int64 :=
  some l0
def f_Fr_commonDivisor_b3_k (G : Hp) (k3 : Int64 → Int64 → Int32 → Option Int64) (l0 : Int64) (l2 : Int64) (l4 : Int32) : Option Int64 :=
  if (100 : Int32) ≤ l4 then
    f_Fr_commonDivisor_b32 G  l0
  else
    if (lg_cmp l2 (0 : Int64)) ≤ 0 then
      f_Fr_commonDivisor_b32 G  l0
    else
      dL l2 <|
      lt (l0 - l0 / l2 * l2) fun x1 =>
      k3 l2 x1 (l4 + 1)
def f_Fr_commonDivisor_b3 (G : Hp) : Nat → Int64 → Int64 → Int32 → Option Int64
  | 0, _, _, _ => none
  | nn + 1, l0, l2, l4 => f_Fr_commonDivisor_b3_k G (f_Fr_commonDivisor_b3 G nn) l0 l2 l4
def f_Fr_commonDivisor (G : Hp) (l0 : Int64) (l2 : Int64) : Option Int64 :=
  f_Fr_commonDivisor_b3 G  FU l0 l2 (0 : Int32)
def f_Fr_become_b30 (G : Hp) : Option Hp :=
  some G
def f_Fr_become (G : Hp) (l0 : Nat) (l1 : Int64) (l3 : Int64) : Option Hp :=
  cP (f_Fr_commonDivisor G l1 l3) fun x1 =>
  if (lg_cmp x1 (0 : Int64)) ≤ 0 then
    f_Fr_become_b30  G 
  else
    dL x1 <|
    pL G 2 0 l0 (l1 / x1) fun G2 =>
    dL x1 <|
    pL G2 2 1 l0 (l3 / x1) fun G3 =>
    f_Fr_become_b30  G3 
def f_St_init (G : Hp) (l0 : Nat) : Option Hp :=
  nO G 7 fun a2 G1 =>
  cP (f_Ta_init G1 a2 (6 : Int32) (2 : Int32)) fun G3 =>
  pR G3 6 0 l0 a2 fun G4 =>
  nO G4 7 fun a6 G5 =>
  cP (f_Ta_init G5 a6 (12 : Int32) (7 : Int32)) fun G7 =>
  pR G7 6 1 l0 a6 fun G8 =>
  nO G8 7 fun a10 G9 =>
  cP (f_Ta_init G9 a10 (5 : Int32) (4 : Int32)) fun G11 =>
  pR G11 6 2 l0 a10 fun G12 =>
  nO G12 7 fun a14 G13 =>
  cP (f_Ta_init G13 a14 (12 : Int32) (3 : Int32)) fun G15 =>
  pR G15 6 3 l0 a14 fun G16 =>
  nO G16 7 fun a18 G17 =>
  cP (f_Ta_init G17 a18 (4 : Int32) (1 : Int32)) fun G19 =>
  pR G19 6 4 l0 a18 fun G20 =>
  gR G20 6 4 l0 fun x21 =>
  pI G20 7 2 x21 (4 : Int32) fun G22 =>
  some G22
def f_Hi_init (G : Hp) (l0 : Nat) : Option Hp :=
  nO G 6 fun a2 G1 =>
  cP (f_St_init G1 a2) fun G3 =>
  pR G3 3 0 l0 a2 fun G4 =>
  nO G4 6 fun a6 G5 =>
  cP (f_St_init G5 a6) fun G7 =>
  pR G7 3 1 l0 a6 fun G8 =>
  nO G8 6 fun a10 G9 =>
  cP (f_St_init G9 a10) fun G11 =>
  pR G11 3 2 l0 a10 fun G12 =>
  some G12
def f_Ta_copyFrom (G : Hp) (l0 : Nat) (l1 : Nat) : Option Hp :=
  gR G 7 1 l1 fun x1 =>
  gR G 7 1 l0 fun x2 =>
  gR G 7 1 l1 fun x3 =>
  aL G x3 fun x4 =>
  gR G 7 1 l0 fun x5 =>
  aL G x5 fun x6 =>
  cA G x1 (0 : Int32) x2 (0 : Int32) (mn x4 x6) fun G7 =>
  gI G7 7 2 l1 fun x8 =>
  pI G7 7 2 l0 x8 fun G9 =>
  some G9
def f_St_takeAllButRates (G : Hp) (l0 : Nat) (l1 : Nat) : Option Hp :=
  gR G 6 0 l0 fun x1 =>
  gR G 6 0 l1 fun x2 =>
  vP G 7 x1 (f_Ta_copyFrom G x1 x2) fun G3 =>
  gR G3 6 1 l0 fun x4 =>
  gR G3 6 1 l1 fun x5 =>
  vP G3 7 x4 (f_Ta_copyFrom G3 x4 x5) fun G6 =>
  gR G6 6 2 l0 fun x7 =>
  gR G6 6 2 l1 fun x8 =>
  vP G6 7 x7 (f_Ta_copyFrom G6 x7 x8) fun G9 =>
  gR G9 6 3 l0 fun x10 =>
  gR G9 6 3 l1 fun x11 =>
  vP G9 7 x10 (f_Ta_copyFrom G9 x10 x11) fun G12 =>
  gI G12 6 5 l1 fun x13 =>
  pI G12 6 5 l0 x13 fun G14 =>
  some G14
def f_St_copyFrom (G : Hp) (l0 : Nat) (l1 : Nat) : Option Hp :=
  vP G 6 l0 (f_St_takeAllButRates G l0 l1) fun G1 =>
  gR G1 6 4 l0 fun x2 =>
  gR G1 6 4 l1 fun x3 =>
  vP G1 7 x2 (f_Ta_copyFrom G1 x2 x3) fun G4 =>
  some G4
def f_Hi_keepNight (G : Hp) (l0 : Nat) : Option Hp :=
  gR G 3 2 l0 fun x1 =>
  gR G 3 1 l0 fun x2 =>
  vP G 6 x1 (f_St_copyFrom G x1 x2) fun G3 =>
  gR G3 3 1 l0 fun x4 =>
  gR G3 3 0 l0 fun x5 =>
  vP G3 6 x4 (f_St_copyFrom G3 x4 x5) fun G6 =>
  gI G6 3 3 l0 fun x7 =>
  pI G6 3 3 l0 (mn (2 : Int32) (x7 + (1 : Int32))) fun G8 =>
  some G8
def f_Hi_goBack (G : Hp) (l0 : Nat) : Option Hp :=
  gR G 3 0 l0 fun x1 =>
  gR G 3 1 l0 fun x2 =>
  vP G 6 x1 (f_St_copyFrom G x1 x2) fun G3 =>
  gR G3 3 1 l0 fun x4 =>
  gR G3 3 2 l0 fun x5 =>
  vP G3 6 x4 (f_St_copyFrom G3 x4 x5) fun G6 =>
  gI G6 3 3 l0 fun x7 =>
  pI G6 3 3 l0 (mx (0 : Int32) (x7 - (1 : Int32))) fun G8 =>
  some G8
def f_Hi_copyFrom (G : Hp) (l0 : Nat) (l1 : Nat) : Option Hp :=
  gR G 3 0 l0 fun x1 =>
  gR G 3 0 l1 fun x2 =>
  vP G 6 x1 (f_St_copyFrom G x1 x2) fun G3 =>
  gR G3 3 1 l0 fun x4 =>
  gR G3 3 1 l1 fun x5 =>
  vP G3 6 x4 (f_St_copyFrom G3 x4 x5) fun G6 =>
  gR G6 3 2 l0 fun x7 =>
  gR G6 3 2 l1 fun x8 =>
  vP G6 6 x7 (f_St_copyFrom G6 x7 x8) fun G9 =>
  gI G9 3 3 l1 fun x10 =>
  pI G9 3 3 l0 x10 fun G11 =>
  some G11
def f_Pl_init (G : Hp) (l0 : Nat) : Option Hp :=
  pI G 4 0 l0 (1 : Int32) fun G1 =>
  nO G1 7 fun a3 G2 =>
  cP (f_Ta_init G2 a3 (5 : Int32) (12 : Int32)) fun G4 =>
  pR G4 4 5 l0 a3 fun G5 =>
  nO G5 7 fun a7 G6 =>
  cP (f_Ta_init G6 a7 (5 : Int32) (6 : Int32)) fun G8 =>
  pR G8 4 6 l0 a7 fun G9 =>
  nA G9 11 (5 : Int32) fun a11 G10 =>
  pR G10 4 7 l0 a11 fun G12 =>
  nA G12 11 (12 : Int32) fun a14 G13 =>
  pR G13 4 8 l0 a14 fun G15 =>
  nA G15 11 (6 : Int32) fun a17 G16 =>
  pR G16 4 9 l0 a17 fun G18 =>
  nA G18 11 (6 : Int32) fun a20 G19 =>
  pR G19 4 10 l0 a20 fun G21 =>
  nA G21 11 (5 : Int32) fun a23 G22 =>
  pR G22 4 11 l0 a23 fun G24 =>
  nA G24 11 (5 : Int32) fun a26 G25 =>
  pR G25 4 12 l0 a26 fun G27 =>
  some G27
def f_Pl_layOut_b191 (k86 : Hp → Nat → Nat → Int32 → Int32 → Int32 → Option Hp) (G : Hp) (l0 : Nat) (l1 : Nat) (l2 : Int32) (l3 : Int32) (l5 : Int32) (s0 : Nat) (s1 : Int32) (s2 : Int32) (s3 : Int32) : Option Hp :=
  vP G 7 s0 (f_Ta_put G s0 s1 s2 s3) fun G1 =>
  k86 G1 l0 l1 l2 l3 (l5 + 1)
def f_Pl_layOut_b162 (k86 : Hp → Nat → Nat → Int32 → Int32 → Int32 → Option Hp) (G : Hp) (l0 : Nat) (l1 : Nat) (l2 : Int32) (l3 : Int32) (l5 : Int32) (s0 : Int32) : Option Hp :=
  gR G 4 5 l0 fun x1 =>
  gR G 6 2 l1 fun x2 =>
  vP G 7 x2 (f_Ta_at G x2 l2 (2 : Int32)) fun x3 =>
  if s0 < x3 then
    f_Pl_layOut_b191 k86 G l0 l1 l2 l3 l5 x1 l2 l5 (0 : Int32)
  else
    f_Pl_layOut_b191 k86 G l0 l1 l2 l3 l5 x1 l2 l5 s0
def f_Pl_layOut_b144 (k86 : Hp → Nat → Nat → Int32 → Int32 → Int32 → Option Hp) (G : Hp) (l0 : Nat) (l1 : Nat) (l2 : Int32) (l3 : Int32) (l5 : Int32) (s0 : Int32) : Option Hp :=
  if s0 = 0 then
    f_Pl_layOut_b162 k86 G l0 l1 l2 l3 l5 (0 : Int32)
  else
    vP G 6 l1 (f_St_valueOn G l1 l5 l3) fun x1 =>
    f_Pl_layOut_b162 k86 G l0 l1 l2 l3 l5 x1
def f_Pl_layOut_b143 (k86 : Hp → Nat → Nat → Int32 → Int32 → Int32 → Option Hp) (G : Hp) (l0 : Nat) (l1 : Nat) (l2 : Int32) (l3 : Int32) (l5 : Int32) : Option Hp :=
  f_Pl_layOut_b144 k86 G l0 l1 l2 l3 l5 (0 : Int32)
def f_Pl_layOut_b86_k (k86 : Hp → Nat → Nat → Int32 → Int32 → Int32 → Option Hp) (G : Hp) (l0 : Nat) (l1 : Nat) (l2 : Int32) (l3 : Int32) (l5 : Int32) : Option Hp :=
  gI G 4 4 l0 fun x1 =>
  if x1 ≤ l5 then
    some G
  else
    gR G 6 1 l1 fun x2 =>
    vP G 7 x2 (f_Ta_at G x2 l5 (2 : Int32)) fun x3 =>
    gR G 6 2 l1 fun x4 =>
    vP G 7 x4 (f_Ta_at G x4 l2 (0 : Int32)) fun x5 =>
    if x3 = x5 then
      gR G 6 1 l1 fun x6 =>
      vP G 7 x6 (f_Ta_at G x6 l5 (3 : Int32)) fun x7 =>
      gR G 6 2 l1 fun x8 =>
      vP G 7 x8 (f_Ta_at G x8 l2 (1 : Int32)) fun x9 =>
      if x7 = x9 then
        f_Pl_layOut_b144 k86 G l0 l1 l2 l3 l5 (1 : Int32)
      else
        f_Pl_layOut_b143 k86 G l0 l1 l2 l3 l5
    else
      f_Pl_layOut_b143 k86 G l0 l1 l2 l3 l5
def f_Pl_layOut_b86 : Nat → Hp → Nat → Nat → Int32 → Int32 → Int32 → Option Hp
  | 0, _, _, _, _, _, _ => none
  | nn + 1, G, l0, l1, l2, l3, l5 => f_Pl_layOut_b86_k (f_Pl_layOut_b86 nn) G l0 l1 l2 l3 l5
def f_Pl_layOut_b50_k (k50 : Hp → Nat → Nat → Int32 → Int32 → Int32 → Option Hp) (G : Hp) (l0 : Nat) (l1 : Nat) (l2 : Int32) (l3 : Int32) (l5 : Int32) : Option Hp :=
  if (6 : Int32) ≤ l5 then
    f_Pl_layOut_b86  FU G l0 l1 l2 l3 (0 : Int32)
  else
    gR G 4 6 l0 fun x1 =>
    gR G 6 0 l1 fun x2 =>
    vP G 7 x2 (f_Ta_at G x2 l5 (0 : Int32)) fun x3 =>
    vP G 7 x1 (f_Ta_put G x1 l2 l5 x3) fun G4 =>
    k50 G4 l0 l1 l2 l3 (l5 + 1)
def f_Pl_layOut_b50 : Nat → Hp → Nat → Nat → Int32 → Int32 → Int32 → Option Hp
  | 0, _, _, _, _, _, _ => none
  | nn + 1, G, l0, l1, l2, l3, l5 => f_Pl_layOut_b50_k (f_Pl_layOut_b50 nn) G l0 l1 l2 l3 l5
def f_Pl_layOut_b39 (G : Hp) (l0 : Nat) (l1 : Nat) (l2 : Int32) (l3 : Int32) (l4 : Int32) : Option Hp :=
  gR G 4 7 l0 fun x1 =>
  sI G 11 x1 l2 l4 fun G2 =>
  f_Pl_layOut_b50  FU G2 l0 l1 l2 l3 (0 : Int32)
def f_Pl_layOut_b13_k (k13 : Hp → Nat → Nat → Int32 → Int32 → Int32 → Option Hp) (G : Hp) (l0 : Nat) (l1 : Nat) (l2 : Int32) (l3 : Int32) (l4 : Int32) : Option Hp :=
  if l2 ≤ l4 then
    f_Pl_layOut_b39  G l0 l1 l2 l3 l4
  else
    gR G 6 2 l1 fun x1 =>
    vP G 7 x1 (f_Ta_at G x1 l4 (3 : Int32)) fun x2 =>
    if x2 = l3 then
      f_Pl_layOut_b39  G l0 l1 l2 l3 l4
    else
      k13 G l0 l1 l2 l3 (l4 + 1)
def f_Pl_layOut_b13 : Nat → Hp → Nat → Nat → Int32 → Int32 → Int32 → Option Hp
  | 0, _, _, _, _, _, _ => none
  | nn + 1, G, l0, l1, l2, l3, l4 => f_Pl_layOut_b13_k (f_Pl_layOut_b13 nn) G l0 l1 l2 l3 l4
def f_Pl_layOut (G : Hp) (l0 : Nat) (l1 : Nat) (l2 : Int32) : Option Hp :=
  gR G 6 2 l1 fun x1 =>
  vP G 7 x1 (f_Ta_at G x1 l2 (3 : Int32)) fun x2 =>
  f_Pl_layOut_b13  FU G l0 l1 l2 x2 (0 : Int32)
def f_Pl_lookAhead_b72 (k27 : Hp → Nat → Int32 → Option Hp) (k35 : Hp → Nat → Int32 → Int32 → Int32 → Option Hp) (G : Hp) (l0 : Nat) (l1 : Int32) (l2 : Int32) (l3 : Int32) : Option Hp :=
  k35 G l0 l1 l2 (l3 + 1)
def f_Pl_lookAhead_b69 (k27 : Hp → Nat → Int32 → Option Hp) (k35 : Hp → Nat → Int32 → Int32 → Int32 → Option Hp) (G : Hp) (l0 : Nat) (l1 : Int32) (l3 : Int32) (l4 : Int32) : Option Hp :=
  f_Pl_lookAhead_b72 k27 k35 G l0 l1 l4 l3
def f_Pl_lookAhead_b100 (k27 : Hp → Nat → Int32 → Option Hp) (G : Hp) (l0 : Nat) (l1 : Int32) (l2 : Int32) (s0 : Nat) (s1 : Int32) (s2 : Int32) (s3 : Int32) : Option Hp :=
  sI G 11 s0 s1 (s2 + s3) fun G1 =>
  gR G1 4 10 l0 fun x2 =>
  gR G1 4 10 l0 fun x3 =>
  aI G1 11 x3 (l1 + (1 : Int32)) fun x4 =>
  sI G1 11 x2 l1 (x4 + l2) fun G5 =>
  k27 G5 l0 (l1 + (-1))
def f_Pl_lookAhead_b35_k (k27 : Hp → Nat → Int32 → Option Hp) (k35 : Hp → Nat → Int32 → Int32 → Int32 → Option Hp) (G : Hp) (l0 : Nat) (l1 : Int32) (l2 : Int32) (l3 : Int32) : Option Hp :=
  gI G 4 4 l0 fun x1 =>
  if x1 ≤ l3 then
    gR G 4 9 l0 fun x2 =>
    gR G 4 9 l0 fun x3 =>
    aI G 11 x3 (l1 + (1 : Int32)) fun x4 =>
    if l2 ≤ 0 then
      f_Pl_lookAhead_b100 k27 G l0 l1 l2 x2 l1 x4 (0 : Int32)
    else
      f_Pl_lookAhead_b100 k27 G l0 l1 l2 x2 l1 x4 (1 : Int32)
  else
    gR G 4 5 l0 fun x5 =>
    vP G 7 x5 (f_Ta_at G x5 l1 l3) fun x6 =>
    if x6 ≤ 0 then
      f_Pl_lookAhead_b72 k27 k35 G l0 l1 l2 l3
    else
      if l2 = 0 then
        f_Pl_lookAhead_b69 k27 k35 G l0 l1 l3 x6
      else
        if l2 ≤ x6 then
          f_Pl_lookAhead_b72 k27 k35 G l0 l1 l2 l3
        else
          f_Pl_lookAhead_b69 k27 k35 G l0 l1 l3 x6
def f_Pl_lookAhead_b35 (k27 : Hp → Nat → Int32 → Option Hp) : Nat → Hp → Nat → Int32 → Int32 → Int32 → Option Hp
  | 0, _, _, _, _, _ => none
  | nn + 1, G, l0, l1, l2, l3 => f_Pl_lookAhead_b35_k k27 (f_Pl_lookAhead_b35 k27 nn) G l0 l1 l2 l3
def f_Pl_lookAhead_b27_k (k27 : Hp → Nat → Int32 → Option Hp) (G : Hp) (l0 : Nat) (l1 : Int32) : Option Hp :=
  if l1 < 0 then
    some G
  else
    f_Pl_lookAhead_b35 k27 FU G l0 l1 (0 : Int32) (0 : Int32)
def f_Pl_lookAhead_b27 : Nat → Hp → Nat → Int32 → Option Hp
  | 0, _, _, _ => none
  | nn + 1, G, l0, l1 => f_Pl_lookAhead_b27_k (f_Pl_lookAhead_b27 nn) G l0 l1
def f_Pl_lookAhead (G : Hp) (l0 : Nat) : Option Hp :=
  gR G 4 9 l0 fun x1 =>
  gI G 4 3 l0 fun x2 =>
  sI G 11 x1 x2 (0 : Int32) fun G3 =>
  gR G3 4 10 l0 fun x4 =>
  gI G3 4 3 l0 fun x5 =>
  sI G3 11 x4 x5 (0 : Int32) fun G6 =>
  gI G6 4 3 l0 fun x7 =>
  lt (x7 - (1 : Int32)) fun x8 =>
  f_Pl_lookAhead_b27  FU G6 l0 x8
def f_Pl_isNoBetter_b29 (G : Hp) (s0 : Int32) : Option Int32 :=
  zR s0 <|
  some s0
def f_Pl_isNoBetter_b24 (G : Hp) : Option Int32 :=
  f_Pl_isNoBetter_b29 G  (1 : Int32)
def f_Pl_isNoBetter_b28 (G : Hp) : Option Int32 :=
  f_Pl_isNoBetter_b29 G  (0 : Int32)
def f_Pl_isNoBetter (G : Hp) (l0 : Nat) (l1 : Int32) (l2 : Int32) : Option Int32 :=
  gI G 4 1 l0 fun x1 =>
  if l1 < x1 then
    f_Pl_isNoBetter_b24 G  
  else
    gI G 4 1 l0 fun x2 =>
    if l1 = x2 then
      gI G 4 2 l0 fun x3 =>
      if l2 < x3 then
        f_Pl_isNoBetter_b28 G  
      else
        f_Pl_isNoBetter_b24 G  
    else
      f_Pl_isNoBetter_b28 G  
def f_Pl_keepIfBetter_b22_k (k22 : Hp → Nat → Int32 → Option Hp) (G : Hp) (l0 : Nat) (l3 : Int32) : Option Hp :=
  gI G 4 3 l0 fun x1 =>
  if x1 ≤ l3 then
    some G
  else
    gR G 4 12 l0 fun x2 =>
    gR G 4 11 l0 fun x3 =>
    aI G 11 x3 l3 fun x4 =>
    sI G 11 x2 l3 x4 fun G5 =>
    k22 G5 l0 (l3 + 1)
def f_Pl_keepIfBetter_b22 : Nat → Hp → Nat → Int32 → Option Hp
  | 0, _, _, _ => none
  | nn + 1, G, l0, l3 => f_Pl_keepIfBetter_b22_k (f_Pl_keepIfBetter_b22 nn) G l0 l3
def f_Pl_keepIfBetter (G : Hp) (l0 : Nat) (l1 : Int32) (l2 : Int32) : Option Hp :=
  vP G 4 l0 (f_Pl_isNoBetter G l0 l1 l2) fun x1 =>
  if x1 = 0 then
    pI G 4 1 l0 l1 fun G2 =>
    pI G2 4 2 l0 l2 fun G3 =>
    f_Pl_keepIfBetter_b22  FU G3 l0 (0 : Int32)
  else
    some G
def f_Pl_search_b12 (sf : Hp → Nat → Int32 → Int32 → Int32 → Int32 → Option Hp) (G : Hp) (l0 : Nat) (l3 : Int32) (l4 : Int32) : Option Hp :=
  vP G 4 l0 (f_Pl_keepIfBetter G l0 l3 l4) fun G1 =>
  some G1
def f_Pl_search_b190 (sf : Hp → Nat → Int32 → Int32 → Int32 → Int32 → Option Hp) (k56 : Hp → Nat → Int32 → Int32 → Int32 → Int32 → Int32 → Int32 → Option Hp) (G : Hp) (l0 : Nat) (l1 : Int32) (l2 : Int32) (l3 : Int32) (l4 : Int32) (l5 : Int32) (l6 : Int32) : Option Hp :=
  k56 G l0 l1 l2 l3 l4 l5 (l6 + 1)
def f_Pl_search_b96 (sf : Hp → Nat → Int32 → Int32 → Int32 → Int32 → Option Hp) (k56 : Hp → Nat → Int32 → Int32 → Int32 → Int32 → Int32 → Int32 → Option Hp) (G : Hp) (l0 : Nat) (l1 : Int32) (l2 : Int32) (l3 : Int32) (l4 : Int32) (l5 : Int32) (l6 : Int32) (l7 : Int32) (s0 : Int32) : Option Hp :=
  if s0 = 0 then
    f_Pl_search_b190 sf k56 G l0 l1 l2 l3 l4 l5 l6
  else
    gR G 4 6 l0 fun x1 =>
    gR G 4 8 l0 fun x2 =>
    aI G 11 x2 l6 fun x3 =>
    vP G 7 x1 (f_Ta_at G x1 l5 x3) fun x4 =>
    if x4 < l7 then
      f_Pl_search_b190 sf k56 G l0 l1 l2 l3 l4 l5 l6
    else
      gR G 4 6 l0 fun x5 =>
      gR G 4 8 l0 fun x6 =>
      aI G 11 x6 l6 fun x7 =>
      vP G 7 x5 (f_Ta_more G x5 l5 x7 (-l7)) fun G8 =>
      gR G8 4 11 l0 fun x9 =>
      sI G8 11 x9 l1 l6 fun G10 =>
      cP (sf G10 l0 (l1 + (1 : Int32)) (l2 ||| ((1 : Int32) <<< (l6 &&& 31))) (l3 + (1 : Int32)) (l4 + l7)) fun G11 =>
      gR G11 4 6 l0 fun x12 =>
      gR G11 4 8 l0 fun x13 =>
      aI G11 11 x13 l6 fun x14 =>
      vP G11 7 x12 (f_Ta_more G11 x12 l5 x14 l7) fun G15 =>
      f_Pl_search_b190 sf k56 G15 l0 l1 l2 l3 l4 l5 l6
def f_Pl_search_b95 (sf : Hp → Nat → Int32 → Int32 → Int32 → Int32 → Option Hp) (k56 : Hp → Nat → Int32 → Int32 → Int32 → Int32 → Int32 → Int32 → Option Hp) (G : Hp) (l0 : Nat) (l1 : Int32) (l2 : Int32) (l3 : Int32) (l4 : Int32) (l5 : Int32) (l6 : Int32) (l7 : Int32) : Option Hp :=
  f_Pl_search_b96 sf k56 G l0 l1 l2 l3 l4 l5 l6 l7 (0 : Int32)
def f_Pl_search_b56_k (sf : Hp → Nat → Int32 → Int32 → Int32 → Int32 → Option Hp) (k56 : Hp → Nat → Int32 → Int32 → Int32 → Int32 → Int32 → Int32 → Option Hp) (G : Hp) (l0 : Nat) (l1 : Int32) (l2 : Int32) (l3 : Int32) (l4 : Int32) (l5 : Int32) (l6 : Int32) : Option Hp :=
  gI G 4 4 l0 fun x1 =>
  if x1 ≤ l6 then
    gR G 4 11 l0 fun x2 =>
    sI G 11 x2 l1 (-1 : Int32) fun G3 =>
    cP (sf G3 l0 (l1 + (1 : Int32)) l2 l3 l4) fun G4 =>
    some G4
  else
    gR G 4 5 l0 fun x5 =>
    vP G 7 x5 (f_Ta_at G x5 l1 l6) fun x6 =>
    if x6 ≤ 0 then
      f_Pl_search_b95 sf k56 G l0 l1 l2 l3 l4 l5 l6 x6
    else
      if (l2 &&& ((1 : Int32) <<< (l6 &&& 31))) = 0 then
        f_Pl_search_b96 sf k56 G l0 l1 l2 l3 l4 l5 l6 x6 (1 : Int32)
      else
        f_Pl_search_b95 sf k56 G l0 l1 l2 l3 l4 l5 l6 x6
def f_Pl_search_b56 (sf : Hp → Nat → Int32 → Int32 → Int32 → Int32 → Option Hp) : Nat → Hp → Nat → Int32 → Int32 → Int32 → Int32 → Int32 → Int32 → Option Hp
  | 0, _, _, _, _, _, _, _, _ => none
  | nn + 1, G, l0, l1, l2, l3, l4, l5, l6 => f_Pl_search_b56_k sf (f_Pl_search_b56 sf nn) G l0 l1 l2 l3 l4 l5 l6
def f_Pl_search_r (sf : Hp → Nat → Int32 → Int32 → Int32 → Int32 → Option Hp) (G : Hp) (l0 : Nat) (l1 : Int32) (l2 : Int32) (l3 : Int32) (l4 : Int32) : Option Hp :=
  if l1 < 0 then
    f_Pl_search_b12 sf G l0 l3 l4
  else
    gI G 4 3 l0 fun x1 =>
    if l1 < x1 then
      gR G 4 9 l0 fun x2 =>
      aI G 11 x2 l1 fun x3 =>
      gR G 4 10 l0 fun x4 =>
      aI G 11 x4 l1 fun x5 =>
      vP G 4 l0 (f_Pl_isNoBetter G l0 (l3 + x3) (l4 + x5)) fun x6 =>
      if x6 = 0 then
        gR G 4 7 l0 fun x7 =>
        aI G 11 x7 l1 fun x8 =>
        f_Pl_search_b56 sf FU G l0 l1 l2 l3 l4 x8 (0 : Int32)
      else
        some G
    else
      f_Pl_search_b12 sf G l0 l3 l4
def f_Pl_search : Nat → Hp → Nat → Int32 → Int32 → Int32 → Int32 → Option Hp
  | 0, _, _, _, _, _, _ => none
  | rr + 1, G, l0, l1, l2, l3, l4 => f_Pl_search_r (f_Pl_search rr) G l0 l1 l2 l3 l4
def f_Pl_make_b94_k (k94 : Hp → Nat → Nat → Int32 → Option Hp) (G : Hp) (l0 : Nat) (l1 : Nat) (l2 : Int32) : Option Hp :=
  gI G 4 3 l0 fun x1 =>
  if x1 ≤ l2 then
    vP G 4 l0 (f_Pl_lookAhead G l0) fun G2 =>
    pI G2 4 1 l0 (-1 : Int32) fun G3 =>
    pI G3 4 2 l0 (0 : Int32) fun G4 =>
    cP (f_Pl_search 8 G4 l0 (0 : Int32) (0 : Int32) (0 : Int32) (0 : Int32)) fun G5 =>
    pI G5 4 0 l0 (0 : Int32) fun G6 =>
    some G6
  else
    vP G 4 l0 (f_Pl_layOut G l0 l1 l2) fun G7 =>
    k94 G7 l0 l1 (l2 + 1)
def f_Pl_make_b94 : Nat → Hp → Nat → Nat → Int32 → Option Hp
  | 0, _, _, _, _ => none
  | nn + 1, G, l0, l1, l2 => f_Pl_make_b94_k (f_Pl_make_b94 nn) G l0 l1 l2
def f_Pl_make_b63_k (k63 : Hp → Nat → Nat → Int32 → Option Hp) (G : Hp) (l0 : Nat) (l1 : Nat) (l2 : Int32) : Option Hp :=
  gI G 4 4 l0 fun x1 =>
  if x1 ≤ l2 then
    f_Pl_make_b94  FU G l0 l1 (0 : Int32)
  else
    gR G 4 8 l0 fun x2 =>
    gR G 6 1 l1 fun x3 =>
    vP G 7 x3 (f_Ta_at G x3 l2 (1 : Int32)) fun x4 =>
    sI G 11 x2 l2 x4 fun G5 =>
    k63 G5 l0 l1 (l2 + 1)
def f_Pl_make_b63 : Nat → Hp → Nat → Nat → Int32 → Option Hp
  | 0, _, _, _, _ => none
  | nn + 1, G, l0, l1, l2 => f_Pl_make_b63_k (f_Pl_make_b63 nn) G l0 l1 l2
def f_Pl_make (G : Hp) (l0 : Nat) (l1 : Nat) : Option Hp :=
  gI G 4 0 l0 fun x1 =>
  if x1 = 0 then
    some G
  else
    gR G 6 2 l1 fun x2 =>
    gI G 7 2 x2 fun x3 =>
    pI G 4 3 l0 (mn (5 : Int32) x3) fun G4 =>
    gR G4 6 1 l1 fun x5 =>
    gI G4 7 2 x5 fun x6 =>
    pI G4 4 4 l0 (mn (12 : Int32) x6) fun G7 =>
    gR G7 4 5 l0 fun x8 =>
    gI G7 4 3 l0 fun x9 =>
    pI G7 7 2 x8 x9 fun G10 =>
    gR G10 4 6 l0 fun x11 =>
    gI G10 4 3 l0 fun x12 =>
    pI G10 7 2 x11 x12 fun G13 =>
    f_Pl_make_b63  FU G13 l0 l1 (0 : Int32)
def f_Pl_favourOf_b23 (G : Hp) (s0 : Int32) : Option Int32 :=
  some s0
def f_Pl_favourOf_b22 (G : Hp) : Option Int32 :=
  f_Pl_favourOf_b23 G  (-1 : Int32)
def f_Pl_favourOf (G : Hp) (l0 : Nat) (l1 : Int32) : Option Int32 :=
  if l1 < 0 then
    f_Pl_favourOf_b22 G  
  else
    gR G 4 12 l0 fun x1 =>
    aL G x1 fun x2 =>
    if x2 ≤ l1 then
      f_Pl_favourOf_b22 G  
    else
      gR G 4 12 l0 fun x3 =>
      aI G 11 x3 l1 fun x4 =>
      f_Pl_favourOf_b23 G  x4
def f_Te_init (G : Hp) (l0 : Nat) : Option Hp :=
  nA G 11 (250 : Int32) fun a2 G1 =>
  pR G1 8 0 l0 a2 fun G3 =>
  some G3
def f_Re_init (G : Hp) (l0 : Nat) : Option Hp :=
  nO G 8 fun a2 G1 =>
  cP (f_Te_init G1 a2) fun G3 =>
  pR G3 5 0 l0 a2 fun G4 =>
  nO G4 6 fun a6 G5 =>
  cP (f_St_init G5 a6) fun G7 =>
  pR G7 5 1 l0 a6 fun G8 =>
  some G8
def f_Te_at_b31 (G : Hp) (s0 : Int32) : Option Int32 :=
  some s0
def f_Te_at_b30 (G : Hp) : Option Int32 :=
  f_Te_at_b31 G  (-1 : Int32)
def f_Te_at (G : Hp) (l0 : Nat) (l1 : Int32) : Option Int32 :=
  if l1 < 0 then
    f_Te_at_b30 G  
  else
    gI G 8 1 l0 fun x1 =>
    if x1 ≤ l1 then
      f_Te_at_b30 G  
    else
      gR G 8 0 l0 fun x2 =>
      aL G x2 fun x3 =>
      if x3 ≤ l1 then
        f_Te_at_b30 G  
      else
        gR G 8 0 l0 fun x4 =>
        aI G 11 x4 l1 fun x5 =>
        f_Te_at_b31 G  x5
def f_Fa_isWithin_b15 (G : Hp) (s0 : Int32) : Option Int32 :=
  zR s0 <|
  some s0
def f_Fa_isWithin_b14 (G : Hp) : Option Int32 :=
  f_Fa_isWithin_b15 G  (0 : Int32)
def f_Fa_isWithin (G : Hp) (l0 : Int32) (l1 : Int32) (l2 : Int32) : Option Int32 :=
  if l0 < l1 then
    f_Fa_isWithin_b14 G  
  else
    if l2 < l0 then
      f_Fa_isWithin_b14 G  
    else
      f_Fa_isWithin_b15 G  (1 : Int32)
def f_Re_endOfRun_b38 (G : Hp) (l3 : Int32) : Option Int32 :=
  some l3
def f_Re_endOfRun_b5_k (G : Hp) (k5 : Nat → Int32 → Int32 → Int32 → Option Int32) (l0 : Nat) (l1 : Int32) (l2 : Int32) (l3 : Int32) : Option Int32 :=
  gR G 5 0 l0 fun x1 =>
  gI G 8 1 x1 fun x2 =>
  if x2 ≤ l3 then
    f_Re_endOfRun_b38 G  l3
  else
    gR G 5 0 l0 fun x3 =>
    vP G 8 x3 (f_Te_at G x3 l3) fun x4 =>
    cP (f_Fa_isWithin G x4 l1 l2) fun x5 =>
    if x5 = 0 then
      f_Re_endOfRun_b38 G  l3
    else
      k5 l0 l1 l2 (l3 + 1)
def f_Re_endOfRun_b5 (G : Hp) : Nat → Nat → Int32 → Int32 → Int32 → Option Int32
  | 0, _, _, _, _ => none
  | nn + 1, l0, l1, l2, l3 => f_Re_endOfRun_b5_k G (f_Re_endOfRun_b5 G nn) l0 l1 l2 l3
def f_Re_endOfRun (G : Hp) (l0 : Nat) (l1 : Int32) (l2 : Int32) : Option Int32 :=
  gI G 5 4 l0 fun x1 =>
  f_Re_endOfRun_b5 G  FU l0 l1 l2 x1
def f_Re_takeFigures_b76 (G : Hp) (s0 : Nat) (s1 : Int32) : Option Hp :=
  pI G 5 3 s0 s1 fun G1 =>
  some G1
def f_Re_takeFigures_b54 (G : Hp) (l0 : Nat) (s0 : Nat) (s1 : Int32) : Option Hp :=
  pI G 5 6 s0 s1 fun G1 =>
  gI G1 5 5 l0 fun x2 =>
  gI G1 5 4 l0 fun x3 =>
  if (2 : Int32) < (x2 - x3) then
    f_Re_takeFigures_b76  G1 l0 (4 : Int32)
  else
    f_Re_takeFigures_b76  G1 l0 (2 : Int32)
def f_Re_takeFigures (G : Hp) (l0 : Nat) : Option Hp :=
  gR G 5 0 l0 fun x1 =>
  gI G 5 5 l0 fun x2 =>
  vP G 8 x1 (f_Te_at G x1 (x2 - (1 : Int32))) fun x3 =>
  lt (x3 - (48 : Int32)) fun x4 =>
  gI G 5 5 l0 fun x5 =>
  gI G 5 4 l0 fun x6 =>
  if (x5 - x6) = (2 : Int32) then
    gR G 5 0 l0 fun x7 =>
    gI G 5 4 l0 fun x8 =>
    vP G 8 x7 (f_Te_at G x7 x8) fun x9 =>
    f_Re_takeFigures_b54  G l0 l0 (((10 : Int32) * (x9 - (48 : Int32))) + x4)
  else
    f_Re_takeFigures_b54  G l0 l0 x4
def f_Re_step_b162 (G : Hp) : Option Hp :=
  some G
def f_Re_step_b159 (G : Hp) (s0 : Nat) (s1 : Int32) : Option Hp :=
  pI G 5 3 s0 s1 fun G1 =>
  f_Re_step_b162  G1 
def f_Re_step_b51 (G : Hp) (l0 : Nat) : Option Hp :=
  gR G 5 0 l0 fun x1 =>
  gI G 5 4 l0 fun x2 =>
  vP G 8 x1 (f_Te_at G x1 x2) fun x3 =>
  gI G 5 4 l0 fun x4 =>
  pI G 5 5 l0 (x4 + (1 : Int32)) fun G5 =>
  if x3 = (-1 : Int32) then
    pI G5 5 3 l0 (0 : Int32) fun G14 =>
    f_Re_step_b162  G14 
  else
    cP (f_Fa_isWithin G5 x3 (97 : Int32) (122 : Int32)) fun x6 =>
    if x6 = 0 then
      cP (f_Fa_isWithin G5 x3 (48 : Int32) (57 : Int32)) fun x7 =>
      if x7 = 0 then
        if x3 = (59 : Int32) then
          f_Re_step_b159  G5 l0 (3 : Int32)
        else
          f_Re_step_b159  G5 l0 (4 : Int32)
      else
        vP G5 5 l0 (f_Re_endOfRun G5 l0 (48 : Int32) (57 : Int32)) fun x8 =>
        pI G5 5 5 l0 x8 fun G9 =>
        vP G9 5 l0 (f_Re_takeFigures G9 l0) fun G10 =>
        f_Re_step_b162  G10 
    else
      pI G5 5 3 l0 (1 : Int32) fun G11 =>
      vP G11 5 l0 (f_Re_endOfRun G11 l0 (97 : Int32) (122 : Int32)) fun x12 =>
      pI G11 5 5 l0 x12 fun G13 =>
      f_Re_step_b162  G13 
def f_Re_step_b8_k (k8 : Hp → Nat → Option Hp) (G : Hp) (l0 : Nat) : Option Hp :=
  gI G 5 4 l0 fun x1 =>
  gR G 5 0 l0 fun x2 =>
  gI G 8 1 x2 fun x3 =>
  if x3 ≤ x1 then
    f_Re_step_b51  G l0
  else
    gR G 5 0 l0 fun x4 =>
    gI G 5 4 l0 fun x5 =>
    vP G 8 x4 (f_Te_at G x4 x5) fun x6 =>
    if x6 = (32 : Int32) then
      gI G 5 4 l0 fun x7 =>
      pI G 5 4 l0 (x7 + (1 : Int32)) fun G8 =>
      k8 G8 l0
    else
      f_Re_step_b51  G l0
def f_Re_step_b8 : Nat → Hp → Nat → Option Hp
  | 0, _, _ => none
  | nn + 1, G, l0 => f_Re_step_b8_k (f_Re_step_b8 nn) G l0
def f_Re_step (G : Hp) (l0 : Nat) : Option Hp :=
  gI G 5 5 l0 fun x1 =>
  pI G 5 4 l0 x1 fun G2 =>
  f_Re_step_b8  FU G2 l0
def f_Re_isWord_b24 (G : Hp) : Option Int32 :=
  some (0 : Int32)
def f_Re_isWord_b28_k (G : Hp) (k28 : Nat → Nat → Int32 → Option Int32) (l0 : Nat) (l1 : Nat) (l2 : Int32) : Option Int32 :=
  sL l1 fun x1 =>
  if x1 ≤ l2 then
    some (1 : Int32)
  else
    gR G 5 0 l0 fun x2 =>
    gI G 5 4 l0 fun x3 =>
    vP G 8 x2 (f_Te_at G x2 (x3 + l2)) fun x4 =>
    sC l1 l2 fun x5 =>
    if x4 = x5 then
      k28 l0 l1 (l2 + 1)
    else
      some (0 : Int32)
def f_Re_isWord_b28 (G : Hp) : Nat → Nat → Nat → Int32 → Option Int32
  | 0, _, _, _ => none
  | nn + 1, l0, l1, l2 => f_Re_isWord_b28_k G (f_Re_isWord_b28 G nn) l0 l1 l2
def f_Re_isWord (G : Hp) (l0 : Nat) (l1 : Nat) : Option Int32 :=
  gI G 5 3 l0 fun x1 =>
  if x1 = (1 : Int32) then
    gI G 5 5 l0 fun x2 =>
    gI G 5 4 l0 fun x3 =>
    sL l1 fun x4 =>
    if (x2 - x3) = x4 then
      f_Re_isWord_b28 G  FU l0 l1 (0 : Int32)
    else
      f_Re_isWord_b24 G  
  else
    f_Re_isWord_b24 G  
def f_Re_fail_b16 (G : Hp) : Option Hp :=
  some G
def f_Re_fail (G : Hp) (l0 : Nat) : Option Hp :=
  gI G 5 2 l0 fun x1 =>
  if x1 = (-1 : Int32) then
    gI G 5 4 l0 fun x2 =>
    pI G 5 2 l0 x2 fun G3 =>
    f_Re_fail_b16  G3 
  else
    f_Re_fail_b16  G 
def f_Re_takeNumber_b32 (G : Hp) (l0 : Nat) (l1 : Int32) : Option (Int32 × Hp) :=
  vP G 5 l0 (f_Re_fail G l0) fun G1 =>
  some (l1, G1)
def f_Re_takeNumber (G : Hp) (l0 : Nat) (l1 : Int32) (l2 : Int32) : Option (Int32 × Hp) :=
  gI G 5 2 l0 fun x1 =>
  if x1 = (-1 : Int32) then
    gI G 5 3 l0 fun x2 =>
    if x2 = (2 : Int32) then
      gI G 5 6 l0 fun x3 =>
      if x3 < l1 then
        f_Re_takeNumber_b32  G l0 l1
      else
        gI G 5 6 l0 fun x4 =>
        if x4 ≤ l2 then
          gI G 5 6 l0 fun x5 =>
          vP G 5 l0 (f_Re_step G l0) fun G6 =>
          some (x5, G6)
        else
          f_Re_takeNumber_b32  G l0 l1
    else
      f_Re_takeNumber_b32  G l0 l1
  else
    f_Re_takeNumber_b32  G l0 l1
def f_Re_takeStop_b16 (G : Hp) (l0 : Nat) : Option Hp :=
  vP G 5 l0 (f_Re_fail G l0) fun G1 =>
  some G1
def f_Re_takeStop (G : Hp) (l0 : Nat) : Option Hp :=
  gI G 5 2 l0 fun x1 =>
  if x1 = (-1 : Int32) then
    gI G 5 3 l0 fun x2 =>
    if x2 = (3 : Int32) then
      vP G 5 l0 (f_Re_step G l0) fun G3 =>
      some G3
    else
      f_Re_takeStop_b16  G l0
  else
    f_Re_takeStop_b16  G l0
def f_Ta_empty (G : Hp) (l0 : Nat) : Option (Int32 × Hp) :=
  gI G 7 2 l0 fun x1 =>
  pI G 7 2 l0 (0 : Int32) fun G2 =>
  some (x1, G2)
def f_Ta_isFull_b24 (G : Hp) (s0 : Int32) : Option Int32 :=
  zR s0 <|
  some s0
def f_Ta_isFull (G : Hp) (l0 : Nat) : Option Int32 :=
  gI G 7 2 l0 fun x1 =>
  gI G 7 0 l0 fun x2 =>
  gR G 7 1 l0 fun x3 =>
  aL G x3 fun x4 =>
  if ((x1 + (1 : Int32)) * x2) ≤ x4 then
    f_Ta_isFull_b24 G  (0 : Int32)
  else
    f_Ta_isFull_b24 G  (1 : Int32)
def f_Ta_add (G : Hp) (l0 : Nat) : Option (Int32 × Hp) :=
  vP G 7 l0 (f_Ta_isFull G l0) fun x1 =>
  if x1 = 0 then
    gI G 7 2 l0 fun x2 =>
    pI G 7 2 l0 (x2 + (1 : Int32)) fun G3 =>
    gI G3 7 2 l0 fun x4 =>
    some ((x4 - (1 : Int32)), G3)
  else
    some ((-1 : Int32), G)
def f_St_open_b10_k (k10 : Hp → Nat → Int32 → Int32 → Option Hp) (G : Hp) (l0 : Nat) (l1 : Int32) (l2 : Int32) : Option Hp :=
  if l1 ≤ l2 then
    gR G 6 1 l0 fun x1 =>
    vH G 7 x1 (f_Ta_empty G x1) fun x2 G3 =>
    gR G3 6 2 l0 fun x4 =>
    vH G3 7 x4 (f_Ta_empty G3 x4) fun x5 G6 =>
    gR G6 6 3 l0 fun x7 =>
    vH G6 7 x7 (f_Ta_empty G6 x7) fun x8 G9 =>
    pI G9 6 5 l0 (0 : Int32) fun G10 =>
    some G10
  else
    gR G 6 0 l0 fun x11 =>
    vH G 7 x11 (f_Ta_add G x11) fun x12 G13 =>
    gR G13 6 0 l0 fun x14 =>
    vP G13 7 x14 (f_Ta_put G13 x14 x12 (0 : Int32) (20 : Int32)) fun G15 =>
    gR G15 6 0 l0 fun x16 =>
    vP G15 7 x16 (f_Ta_put G15 x16 x12 (1 : Int32) (0 : Int32)) fun G17 =>
    k10 G17 l0 l1 (l2 + 1)
def f_St_open_b10 : Nat → Hp → Nat → Int32 → Int32 → Option Hp
  | 0, _, _, _, _ => none
  | nn + 1, G, l0, l1, l2 => f_St_open_b10_k (f_St_open_b10 nn) G l0 l1 l2
def f_St_open (G : Hp) (l0 : Nat) (l1 : Int32) : Option Hp :=
  gR G 6 0 l0 fun x1 =>
  vH G 7 x1 (f_Ta_empty G x1) fun x2 G3 =>
  f_St_open_b10  FU G3 l0 l1 (0 : Int32)
def f_Re_readPeople_b53 (G : Hp) : Option Hp :=
  some G
def f_Re_readPeople (G : Hp) (l0 : Nat) : Option Hp :=
  vP G 5 l0 (f_Re_isWord G l0 0) fun x1 =>
  if x1 = 0 then
    vP G 5 l0 (f_Re_fail G l0) fun G10 =>
    some G10
  else
    vP G 5 l0 (f_Re_step G l0) fun G2 =>
    vH G2 5 l0 (f_Re_takeNumber G2 l0 (2 : Int32) (6 : Int32)) fun x3 G4 =>
    vP G4 5 l0 (f_Re_takeStop G4 l0) fun G5 =>
    gI G5 5 2 l0 fun x6 =>
    if x6 = (-1 : Int32) then
      gR G5 5 1 l0 fun x7 =>
      vP G5 6 x7 (f_St_open G5 x7 x3) fun G8 =>
      pI G8 5 7 l0 (x3 - (1 : Int32)) fun G9 =>
      f_Re_readPeople_b53  G9 
    else
      f_Re_readPeople_b53  G5 
def f_Re_readStrong_b47 (G : Hp) : Option Hp :=
  some G
def f_Re_readStrong (G : Hp) (l0 : Nat) : Option Hp :=
  vP G 5 l0 (f_Re_step G l0) fun G1 =>
  gI G1 5 7 l0 fun x2 =>
  vH G1 5 l0 (f_Re_takeNumber G1 l0 (0 : Int32) x2) fun x3 G4 =>
  vH G4 5 l0 (f_Re_takeNumber G4 l0 (0 : Int32) (99 : Int32)) fun x5 G6 =>
  vP G6 5 l0 (f_Re_takeStop G6 l0) fun G7 =>
  gI G7 5 2 l0 fun x8 =>
  if x8 = (-1 : Int32) then
    gR G7 5 1 l0 fun x9 =>
    gR G7 6 0 x9 fun x10 =>
    vP G7 7 x10 (f_Ta_put G7 x10 x3 (0 : Int32) x5) fun G11 =>
    f_Re_readStrong_b47  G11 
  else
    f_Re_readStrong_b47  G7 
def f_Re_refuse_b20 (G : Hp) : Option Hp :=
  some G
def f_Re_refuse (G : Hp) (l0 : Nat) (l1 : Int32) : Option Hp :=
  gI G 5 3 l0 fun x1 =>
  if x1 = (2 : Int32) then
    gI G 5 6 l0 fun x2 =>
    if x2 = l1 then
      vP G 5 l0 (f_Re_fail G l0) fun G3 =>
      f_Re_refuse_b20  G3 
    else
      f_Re_refuse_b20  G 
  else
    f_Re_refuse_b20  G 
def f_St_addFavour (G : Hp) (l0 : Nat) (l1 : Int32) (l2 : Int32) (l3 : Int32) (l4 : Int32) (l5 : Int32) (l6 : Int32) : Option (Int32 × Hp) :=
  gR G 6 1 l0 fun x1 =>
  vH G 7 x1 (f_Ta_add G x1) fun x2 G3 =>
  gR G3 6 1 l0 fun x4 =>
  vP G3 7 x4 (f_Ta_put G3 x4 x2 (0 : Int32) l1) fun G5 =>
  gR G5 6 1 l0 fun x6 =>
  vP G5 7 x6 (f_Ta_put G5 x6 x2 (1 : Int32) l2) fun G7 =>
  gR G7 6 1 l0 fun x8 =>
  vP G7 7 x8 (f_Ta_put G7 x8 x2 (2 : Int32) l3) fun G9 =>
  gR G9 6 1 l0 fun x10 =>
  vP G9 7 x10 (f_Ta_put G9 x10 x2 (3 : Int32) l4) fun G11 =>
  gR G11 6 1 l0 fun x12 =>
  vP G11 7 x12 (f_Ta_put G11 x12 x2 (4 : Int32) l5) fun G13 =>
  gR G13 6 1 l0 fun x14 =>
  vP G13 7 x14 (f_Ta_put G13 x14 x2 (5 : Int32) l6) fun G15 =>
  gR G15 6 1 l0 fun x16 =>
  gI G15 6 5 l0 fun x17 =>
  vP G15 7 x16 (f_Ta_put G15 x16 x2 (6 : Int32) x17) fun G18 =>
  some (x2, G18)
def f_Re_readFavour_b91 (G : Hp) : Option Hp :=
  some G
def f_Re_readFavour (G : Hp) (l0 : Nat) : Option Hp :=
  vP G 5 l0 (f_Re_step G l0) fun G1 =>
  vH G1 5 l0 (f_Re_takeNumber G1 l0 (0 : Int32) (4 : Int32)) fun x2 G3 =>
  gI G3 5 7 l0 fun x4 =>
  vH G3 5 l0 (f_Re_takeNumber G3 l0 (0 : Int32) x4) fun x5 G6 =>
  vP G6 5 l0 (f_Re_refuse G6 l0 x5) fun G7 =>
  gI G7 5 7 l0 fun x8 =>
  vH G7 5 l0 (f_Re_takeNumber G7 l0 (0 : Int32) x8) fun x9 G10 =>
  vH G10 5 l0 (f_Re_takeNumber G10 l0 (0 : Int32) (3 : Int32)) fun x11 G12 =>
  vH G12 5 l0 (f_Re_takeNumber G12 l0 (1 : Int32) (40 : Int32)) fun x13 G14 =>
  vH G14 5 l0 (f_Re_takeNumber G14 l0 (0 : Int32) (99 : Int32)) fun x15 G16 =>
  vP G16 5 l0 (f_Re_takeStop G16 l0) fun G17 =>
  gI G17 5 2 l0 fun x18 =>
  if x18 = (-1 : Int32) then
    gR G17 5 1 l0 fun x19 =>
    vH G17 6 x19 (f_St_addFavour G17 x19 x2 x5 x9 x11 x13 x15) fun x20 G21 =>
    f_Re_readFavour_b91  G21 
  else
    f_Re_readFavour_b91  G17 
def f_St_addNeed (G : Hp) (l0 : Nat) (l1 : Int32) (l2 : Int32) (l3 : Int32) (l4 : Int32) : Option (Int32 × Hp) :=
  gR G 6 2 l0 fun x1 =>
  vH G 7 x1 (f_Ta_add G x1) fun x2 G3 =>
  gR G3 6 2 l0 fun x4 =>
  vP G3 7 x4 (f_Ta_put G3 x4 x2 (0 : Int32) l1) fun G5 =>
  gR G5 6 2 l0 fun x6 =>
  vP G5 7 x6 (f_Ta_put G5 x6 x2 (1 : Int32) l2) fun G7 =>
  gR G7 6 2 l0 fun x8 =>
  vP G7 7 x8 (f_Ta_put G7 x8 x2 (2 : Int32) l3) fun G9 =>
  gR G9 6 2 l0 fun x10 =>
  vP G9 7 x10 (f_Ta_put G9 x10 x2 (3 : Int32) l4) fun G11 =>
  some (x2, G11)
def f_Re_readNeed_b63 (G : Hp) : Option Hp :=
  some G
def f_Re_readNeed (G : Hp) (l0 : Nat) : Option Hp :=
  vP G 5 l0 (f_Re_step G l0) fun G1 =>
  gI G1 5 7 l0 fun x2 =>
  vH G1 5 l0 (f_Re_takeNumber G1 l0 (0 : Int32) x2) fun x3 G4 =>
  vH G4 5 l0 (f_Re_takeNumber G4 l0 (0 : Int32) (3 : Int32)) fun x5 G6 =>
  vH G6 5 l0 (f_Re_takeNumber G6 l0 (1 : Int32) (40 : Int32)) fun x7 G8 =>
  vH G8 5 l0 (f_Re_takeNumber G8 l0 (0 : Int32) (99 : Int32)) fun x9 G10 =>
  vP G10 5 l0 (f_Re_takeStop G10 l0) fun G11 =>
  gI G11 5 2 l0 fun x12 =>
  if x12 = (-1 : Int32) then
    gR G11 5 1 l0 fun x13 =>
    vH G11 6 x13 (f_St_addNeed G11 x13 x3 x5 x7 x9) fun x14 G15 =>
    f_Re_readNeed_b63  G15 
  else
    f_Re_readNeed_b63  G11 
def f_Re_readItem_b78 (G : Hp) : Option Hp :=
  some G
def f_Re_readItem_b74 (G : Hp) (l0 : Nat) : Option Hp :=
  vP G 5 l0 (f_Re_fail G l0) fun G1 =>
  f_Re_readItem_b78  G1 
def f_Re_readItem_b45 (G : Hp) (l0 : Nat) : Option Hp :=
  vP G 5 l0 (f_Re_isWord G l0 3) fun x1 =>
  if x1 = 0 then
    f_Re_readItem_b74  G l0
  else
    gR G 5 1 l0 fun x2 =>
    gR G 6 2 x2 fun x3 =>
    vP G 7 x3 (f_Ta_isFull G x3) fun x4 =>
    if x4 = 0 then
      vP G 5 l0 (f_Re_readNeed G l0) fun G5 =>
      f_Re_readItem_b78  G5 
    else
      f_Re_readItem_b74  G l0
def f_Re_readItem (G : Hp) (l0 : Nat) : Option Hp :=
  vP G 5 l0 (f_Re_isWord G l0 1) fun x1 =>
  if x1 = 0 then
    vP G 5 l0 (f_Re_isWord G l0 2) fun x2 =>
    if x2 = 0 then
      f_Re_readItem_b45  G l0
    else
      gR G 5 1 l0 fun x3 =>
      gR G 6 1 x3 fun x4 =>
      vP G 7 x4 (f_Ta_isFull G x4) fun x5 =>
      if x5 = 0 then
        vP G 5 l0 (f_Re_readFavour G l0) fun G6 =>
        f_Re_readItem_b78  G6 
      else
        f_Re_readItem_b45  G l0
  else
    vP G 5 l0 (f_Re_readStrong G l0) fun G7 =>
    f_Re_readItem_b78  G7 
def f_Re_readStreet_b52 (G : Hp) (l1 : Int32) : Option (Int32 × Hp) :=
  some (l1, G)
def f_Re_readStreet_b20_k (k20 : Hp → Nat → Int32 → Option (Int32 × Hp)) (G : Hp) (l0 : Nat) (l1 : Int32) : Option (Int32 × Hp) :=
  if (250 : Int32) < l1 then
    f_Re_readStreet_b52  G l1
  else
    gI G 5 2 l0 fun x1 =>
    if x1 = (-1 : Int32) then
      gI G 5 3 l0 fun x2 =>
      if x2 = 0 then
        f_Re_readStreet_b52  G l1
      else
        vP G 5 l0 (f_Re_readItem G l0) fun G3 =>
        k20 G3 l0 (l1 + 1)
    else
      f_Re_readStreet_b52  G l1
def f_Re_readStreet_b20 : Nat → Hp → Nat → Int32 → Option (Int32 × Hp)
  | 0, _, _, _ => none
  | nn + 1, G, l0, l1 => f_Re_readStreet_b20_k (f_Re_readStreet_b20 nn) G l0 l1
def f_Re_readStreet (G : Hp) (l0 : Nat) : Option (Int32 × Hp) :=
  pI G 5 2 l0 (-1 : Int32) fun G1 =>
  pI G1 5 5 l0 (0 : Int32) fun G2 =>
  vP G2 5 l0 (f_Re_step G2 l0) fun G3 =>
  vP G3 5 l0 (f_Re_readPeople G3 l0) fun G4 =>
  f_Re_readStreet_b20  FU G4 l0 (1 : Int32)
def f_St_addPass (G : Hp) (l0 : Nat) (l1 : Int32) (l2 : Int32) (l3 : Int32) : Option (Int32 × Hp) :=
  gR G 6 3 l0 fun x1 =>
  vH G 7 x1 (f_Ta_add G x1) fun x2 G3 =>
  gR G3 6 3 l0 fun x4 =>
  vP G3 7 x4 (f_Ta_put G3 x4 x2 (0 : Int32) l1) fun G5 =>
  gR G5 6 3 l0 fun x6 =>
  vP G5 7 x6 (f_Ta_put G5 x6 x2 (1 : Int32) l2) fun G7 =>
  gR G7 6 3 l0 fun x8 =>
  vP G7 7 x8 (f_Ta_put G7 x8 x2 (2 : Int32) l3) fun G9 =>
  some (x2, G9)
def f_St_wake_b12_k (k12 : Hp → Nat → Int32 → Option Hp) (G : Hp) (l0 : Nat) (l1 : Int32) : Option Hp :=
  gR G 6 0 l0 fun x1 =>
  gI G 7 2 x1 fun x2 =>
  if x2 ≤ l1 then
    some G
  else
    gR G 6 0 l0 fun x3 =>
    vP G 7 x3 (f_Ta_put G x3 l1 (1 : Int32) (0 : Int32)) fun G4 =>
    k12 G4 l0 (l1 + 1)
def f_St_wake_b12 : Nat → Hp → Nat → Int32 → Option Hp
  | 0, _, _, _ => none
  | nn + 1, G, l0, l1 => f_St_wake_b12_k (f_St_wake_b12 nn) G l0 l1
def f_St_wake (G : Hp) (l0 : Nat) : Option Hp :=
  gI G 6 5 l0 fun x1 =>
  pI G 6 5 l0 (x1 + (1 : Int32)) fun G2 =>
  f_St_wake_b12  FU G2 l0 (0 : Int32)
def f_St_valueNow (G : Hp) (l0 : Nat) (l1 : Int32) : Option Int32 :=
  gI G 6 5 l0 fun x1 =>
  vP G 6 l0 (f_St_valueOn G l0 l1 x1) fun x2 =>
  some x2
def f_St_areAlike_b68 (G : Hp) (s0 : Int32) : Option Int32 :=
  zR s0 <|
  some s0
def f_St_areAlike_b67 (G : Hp) : Option Int32 :=
  f_St_areAlike_b68 G  (0 : Int32)
def f_St_areAlike (G : Hp) (l0 : Nat) (l1 : Int32) (l2 : Int32) : Option Int32 :=
  gR G 6 1 l0 fun x1 =>
  vP G 7 x1 (f_Ta_at G x1 l1 (1 : Int32)) fun x2 =>
  gR G 6 1 l0 fun x3 =>
  vP G 7 x3 (f_Ta_at G x3 l2 (1 : Int32)) fun x4 =>
  if x2 = x4 then
    gR G 6 1 l0 fun x5 =>
    vP G 7 x5 (f_Ta_at G x5 l1 (2 : Int32)) fun x6 =>
    gR G 6 1 l0 fun x7 =>
    vP G 7 x7 (f_Ta_at G x7 l2 (2 : Int32)) fun x8 =>
    if x6 = x8 then
      gR G 6 1 l0 fun x9 =>
      vP G 7 x9 (f_Ta_at G x9 l1 (3 : Int32)) fun x10 =>
      gR G 6 1 l0 fun x11 =>
      vP G 7 x11 (f_Ta_at G x11 l2 (3 : Int32)) fun x12 =>
      if x10 = x12 then
        f_St_areAlike_b68 G  (1 : Int32)
      else
        f_St_areAlike_b67 G  
    else
      f_St_areAlike_b67 G  
  else
    f_St_areAlike_b67 G  
def f_St_merge (G : Hp) (l0 : Nat) (l1 : Int32) (l2 : Int32) : Option (Int32 × Hp) :=
  gR G 6 1 l0 fun x1 =>
  vP G 7 x1 (f_Ta_at G x1 l1 (4 : Int32)) fun x2 =>
  gR G 6 1 l0 fun x3 =>
  vP G 7 x3 (f_Ta_at G x3 l2 (4 : Int32)) fun x4 =>
  lt (mn (40 : Int32) (x2 + x4)) fun x5 =>
  gR G 6 1 l0 fun x6 =>
  vP G 7 x6 (f_Ta_put G x6 l1 (4 : Int32) x5) fun G7 =>
  gR G7 6 1 l0 fun x8 =>
  gR G7 6 1 l0 fun x9 =>
  vP G7 7 x9 (f_Ta_at G7 x9 l1 (5 : Int32)) fun x10 =>
  gR G7 6 1 l0 fun x11 =>
  vP G7 7 x11 (f_Ta_at G7 x11 l2 (5 : Int32)) fun x12 =>
  vP G7 7 x8 (f_Ta_put G7 x8 l1 (5 : Int32) (mn x10 x12)) fun G13 =>
  gR G13 6 1 l0 fun x14 =>
  vP G13 7 x14 (f_Ta_put G13 x14 l2 (2 : Int32) (-1 : Int32)) fun G15 =>
  some (x5, G15)
def f_St_cheapest_b88 (G : Hp) (k5 : Nat → Int32 → Int32 → Int32 → Int32 → Option Int32) (l0 : Nat) (l1 : Int32) (l2 : Int32) (l3 : Int32) (l4 : Int32) : Option Int32 :=
  k5 l0 l1 l2 l3 (l4 + 1)
def f_St_cheapest_b85 (G : Hp) (k5 : Nat → Int32 → Int32 → Int32 → Int32 → Option Int32) (l0 : Nat) (l1 : Int32) (l2 : Int32) (l4 : Int32) : Option Int32 :=
  f_St_cheapest_b88 G k5 l0 l1 l2 l4 l4
def f_St_cheapest_b59 (G : Hp) (k5 : Nat → Int32 → Int32 → Int32 → Int32 → Option Int32) (l0 : Nat) (l1 : Int32) (l2 : Int32) (l3 : Int32) (l4 : Int32) (s0 : Int32) : Option Int32 :=
  if s0 = 0 then
    f_St_cheapest_b88 G k5 l0 l1 l2 l3 l4
  else
    if l3 = (-1 : Int32) then
      f_St_cheapest_b85 G k5 l0 l1 l2 l4
    else
      vP G 6 l0 (f_St_valueNow G l0 l4) fun x1 =>
      vP G 6 l0 (f_St_valueNow G l0 l3) fun x2 =>
      if x2 ≤ x1 then
        f_St_cheapest_b88 G k5 l0 l1 l2 l3 l4
      else
        f_St_cheapest_b85 G k5 l0 l1 l2 l4
def f_St_cheapest_b58 (G : Hp) (k5 : Nat → Int32 → Int32 → Int32 → Int32 → Option Int32) (l0 : Nat) (l1 : Int32) (l2 : Int32) (l3 : Int32) (l4 : Int32) : Option Int32 :=
  f_St_cheapest_b59 G k5 l0 l1 l2 l3 l4 (0 : Int32)
def f_St_cheapest_b5_k (G : Hp) (k5 : Nat → Int32 → Int32 → Int32 → Int32 → Option Int32) (l0 : Nat) (l1 : Int32) (l2 : Int32) (l3 : Int32) (l4 : Int32) : Option Int32 :=
  gR G 6 1 l0 fun x1 =>
  gI G 7 2 x1 fun x2 =>
  if x2 ≤ l4 then
    some l3
  else
    gR G 6 1 l0 fun x3 =>
    vP G 7 x3 (f_Ta_at G x3 l4 (1 : Int32)) fun x4 =>
    if x4 = l1 then
      gR G 6 1 l0 fun x5 =>
      vP G 7 x5 (f_Ta_at G x5 l4 (2 : Int32)) fun x6 =>
      if x6 = l2 then
        vP G 6 l0 (f_St_valueNow G l0 l4) fun x7 =>
        if x7 ≤ 0 then
          f_St_cheapest_b58 G k5 l0 l1 l2 l3 l4
        else
          f_St_cheapest_b59 G k5 l0 l1 l2 l3 l4 (1 : Int32)
      else
        f_St_cheapest_b58 G k5 l0 l1 l2 l3 l4
    else
      f_St_cheapest_b58 G k5 l0 l1 l2 l3 l4
def f_St_cheapest_b5 (G : Hp) : Nat → Nat → Int32 → Int32 → Int32 → Int32 → Option Int32
  | 0, _, _, _, _, _ => none
  | nn + 1, l0, l1, l2, l3, l4 => f_St_cheapest_b5_k G (f_St_cheapest_b5 G nn) l0 l1 l2 l3 l4
def f_St_cheapest (G : Hp) (l0 : Nat) (l1 : Int32) (l2 : Int32) : Option Int32 :=
  f_St_cheapest_b5 G  FU l0 l1 l2 (-1 : Int32) (0 : Int32)
def f_St_holderAhead_b81 (G : Hp) (k23 : Nat → Int32 → Int32 → Int32 → Int32 → Option Int32) (l0 : Nat) (l1 : Int32) (l2 : Int32) (l3 : Int32) (l4 : Int32) : Option Int32 :=
  k23 l0 l1 l2 l3 (l4 + 1)
def f_St_holderAhead_b80 (G : Hp) (k23 : Nat → Int32 → Int32 → Int32 → Int32 → Option Int32) (l0 : Nat) (l1 : Int32) (l2 : Int32) (l4 : Int32) (s0 : Int32) : Option Int32 :=
  f_St_holderAhead_b81 G k23 l0 l1 l2 s0 l4
def f_St_holderAhead_b23_k (G : Hp) (k23 : Nat → Int32 → Int32 → Int32 → Int32 → Option Int32) (l0 : Nat) (l1 : Int32) (l2 : Int32) (l3 : Int32) (l4 : Int32) : Option Int32 :=
  if l1 ≤ l4 then
    some l3
  else
    gR G 6 3 l0 fun x1 =>
    vP G 7 x1 (f_Ta_at G x1 l4 (0 : Int32)) fun x2 =>
    if x2 = l2 then
      if l3 = (-1 : Int32) then
        f_St_holderAhead_b81 G k23 l0 l1 l2 l3 l4
      else
        gR G 6 3 l0 fun x3 =>
        vP G 7 x3 (f_Ta_at G x3 l4 (2 : Int32)) fun x4 =>
        gR G 6 1 l0 fun x5 =>
        vP G 7 x5 (f_Ta_at G x5 l2 (1 : Int32)) fun x6 =>
        if x4 = x6 then
          f_St_holderAhead_b80 G k23 l0 l1 l2 l4 (-1 : Int32)
        else
          f_St_holderAhead_b80 G k23 l0 l1 l2 l4 x4
    else
      f_St_holderAhead_b81 G k23 l0 l1 l2 l3 l4
def f_St_holderAhead_b23 (G : Hp) : Nat → Nat → Int32 → Int32 → Int32 → Int32 → Option Int32
  | 0, _, _, _, _, _ => none
  | nn + 1, l0, l1, l2, l3, l4 => f_St_holderAhead_b23_k G (f_St_holderAhead_b23 G nn) l0 l1 l2 l3 l4
def f_St_holderAhead (G : Hp) (l0 : Nat) (l1 : Int32) : Option Int32 :=
  gR G 6 3 l0 fun x1 =>
  vP G 7 x1 (f_Ta_at G x1 l1 (0 : Int32)) fun x2 =>
  gR G 6 1 l0 fun x3 =>
  vP G 7 x3 (f_Ta_at G x3 x2 (2 : Int32)) fun x4 =>
  f_St_holderAhead_b23 G  FU l0 l1 x2 x4 (0 : Int32)
def f_St_rateNow (G : Hp) (l0 : Nat) (l1 : Int32) : Option Int32 :=
  gR G 6 4 l0 fun x1 =>
  vP G 7 x1 (f_Ta_at G x1 l1 (0 : Int32)) fun x2 =>
  some x2
def f_St_setRate (G : Hp) (l0 : Nat) (l1 : Int32) (l2 : Int32) : Option Hp :=
  gR G 6 4 l0 fun x1 =>
  vP G 7 x1 (f_Ta_put G x1 l1 (0 : Int32) l2) fun G2 =>
  some G2
def f_St_drift_b31 (G : Hp) (k4 : Nat → Int32 → Int32 → Int32 → Option Int32) (l0 : Nat) (l1 : Int32) (l2 : Int32) (l3 : Int32) : Option Int32 :=
  k4 l0 l1 l2 (l3 + 1)
def f_St_drift_b74 (G : Hp) (k39 : Nat → Int32 → Int32 → Int32 → Option Int32) (l0 : Nat) (l1 : Int32) (l2 : Int32) (l3 : Int32) : Option Int32 :=
  k39 l0 l1 l2 (l3 + 1)
def f_St_drift_b39_k (G : Hp) (k39 : Nat → Int32 → Int32 → Int32 → Option Int32) (l0 : Nat) (l1 : Int32) (l2 : Int32) (l3 : Int32) : Option Int32 :=
  gR G 6 1 l0 fun x1 =>
  gI G 7 2 x1 fun x2 =>
  if x2 ≤ l3 then
    some l2
  else
    gR G 6 1 l0 fun x3 =>
    vP G 7 x3 (f_Ta_at G x3 l3 (3 : Int32)) fun x4 =>
    if x4 = l1 then
      vP G 6 l0 (f_St_valueNow G l0 l3) fun x5 =>
      if x5 ≤ 0 then
        f_St_drift_b74 G k39 l0 l1 l2 l3
      else
        f_St_drift_b74 G k39 l0 l1 (l2 + (-1)) l3
    else
      f_St_drift_b74 G k39 l0 l1 l2 l3
def f_St_drift_b39 (G : Hp) : Nat → Nat → Int32 → Int32 → Int32 → Option Int32
  | 0, _, _, _, _ => none
  | nn + 1, l0, l1, l2, l3 => f_St_drift_b39_k G (f_St_drift_b39 G nn) l0 l1 l2 l3
def f_St_drift_b4_k (G : Hp) (k4 : Nat → Int32 → Int32 → Int32 → Option Int32) (l0 : Nat) (l1 : Int32) (l2 : Int32) (l3 : Int32) : Option Int32 :=
  gR G 6 2 l0 fun x1 =>
  gI G 7 2 x1 fun x2 =>
  if x2 ≤ l3 then
    f_St_drift_b39 G  FU l0 l1 l2 (0 : Int32)
  else
    gR G 6 2 l0 fun x3 =>
    vP G 7 x3 (f_Ta_at G x3 l3 (1 : Int32)) fun x4 =>
    if x4 = l1 then
      f_St_drift_b31 G k4 l0 l1 (l2 + 1) l3
    else
      f_St_drift_b31 G k4 l0 l1 l2 l3
def f_St_drift_b4 (G : Hp) : Nat → Nat → Int32 → Int32 → Int32 → Option Int32
  | 0, _, _, _, _ => none
  | nn + 1, l0, l1, l2, l3 => f_St_drift_b4_k G (f_St_drift_b4 G nn) l0 l1 l2 l3
def f_St_drift (G : Hp) (l0 : Nat) (l1 : Int32) : Option Int32 :=
  f_St_drift_b4 G  FU l0 l1 (0 : Int32) (0 : Int32)
def f_Ta_has_b17 (G : Hp) (s0 : Int32) : Option Int32 :=
  zR s0 <|
  some s0
def f_Ta_has_b16 (G : Hp) : Option Int32 :=
  f_Ta_has_b17 G  (0 : Int32)
def f_Ta_has (G : Hp) (l0 : Nat) (l1 : Int32) : Option Int32 :=
  if l1 < 0 then
    f_Ta_has_b16 G  
  else
    gI G 7 2 l0 fun x1 =>
    if x1 ≤ l1 then
      f_Ta_has_b16 G  
    else
      f_Ta_has_b17 G  (1 : Int32)
def f_Ta_mixedInto_b21_k (G : Hp) (k21 : Nat → Int64 → Int32 → Int32 → Option Int64) (l0 : Nat) (l1 : Int64) (l3 : Int32) (l4 : Int32) : Option Int64 :=
  if l3 ≤ l4 then
    some l1
  else
    gR G 7 1 l0 fun x1 =>
    aI G 11 x1 l4 fun x2 =>
    lt (((31 : Int64) * l1) + x2.toInt64) fun x3 =>
    k21 l0 x3 l3 (l4 + 1)
def f_Ta_mixedInto_b21 (G : Hp) : Nat → Nat → Int64 → Int32 → Int32 → Option Int64
  | 0, _, _, _, _ => none
  | nn + 1, l0, l1, l3, l4 => f_Ta_mixedInto_b21_k G (f_Ta_mixedInto_b21 G nn) l0 l1 l3 l4
def f_Ta_mixedInto (G : Hp) (l0 : Nat) (l1 : Int64) : Option Int64 :=
  gI G 7 2 l0 fun x1 =>
  gI G 7 0 l0 fun x2 =>
  gR G 7 1 l0 fun x3 =>
  aL G x3 fun x4 =>
  lt (mn (x1 * x2) x4) fun x5 =>
  f_Ta_mixedInto_b21 G  FU l0 l1 x5 (0 : Int32)
def f_Te_add_b39 (G : Hp) : Option Hp :=
  some G
def f_Te_add (G : Hp) (l0 : Nat) (l1 : Int32) : Option Hp :=
  gI G 8 1 l0 fun x1 =>
  if x1 < 0 then
    f_Te_add_b39  G 
  else
    gI G 8 1 l0 fun x2 =>
    gR G 8 0 l0 fun x3 =>
    aL G x3 fun x4 =>
    if x4 ≤ x2 then
      f_Te_add_b39  G 
    else
      gR G 8 0 l0 fun x5 =>
      gI G 8 1 l0 fun x6 =>
      sI G 11 x5 x6 l1 fun G7 =>
      gI G7 8 1 l0 fun x8 =>
      pI G7 8 1 l0 (x8 + (1 : Int32)) fun G9 =>
      f_Te_add_b39  G9 
def f_Fa_init_b124_k (k124 : Hp → Nat → Int32 → Option Hp) (G : Hp) (l0 : Nat) (l1 : Int32) : Option Hp :=
  if (4 : Int32) ≤ l1 then
    some G
  else
    gR G 9 3 l0 fun x1 =>
    vP G 6 x1 (f_St_setRate G x1 l1 (10 : Int32)) fun G2 =>
    k124 G2 l0 (l1 + 1)
def f_Fa_init_b124 : Nat → Hp → Nat → Int32 → Option Hp
  | 0, _, _, _ => none
  | nn + 1, G, l0, l1 => f_Fa_init_b124_k (f_Fa_init_b124 nn) G l0 l1
def f_Fa_init (G : Hp) (l0 : Nat) : Option Hp :=
  nO G 3 fun a2 G1 =>
  cP (f_Hi_init G1 a2) fun G3 =>
  pR G3 9 0 l0 a2 fun G4 =>
  nO G4 3 fun a6 G5 =>
  cP (f_Hi_init G5 a6) fun G7 =>
  pR G7 9 1 l0 a6 fun G8 =>
  nO G8 3 fun a10 G9 =>
  cP (f_Hi_init G9 a10) fun G11 =>
  pR G11 9 2 l0 a10 fun G12 =>
  gR G12 9 0 l0 fun x13 =>
  gR G12 3 0 x13 fun x14 =>
  pR G12 9 3 l0 x14 fun G15 =>
  nO G15 5 fun a17 G16 =>
  cP (f_Re_init G16 a17) fun G18 =>
  pR G18 9 4 l0 a17 fun G19 =>
  gR G19 9 4 l0 fun x20 =>
  gR G19 5 0 x20 fun x21 =>
  pR G19 9 5 l0 x21 fun G22 =>
  nO G22 1 fun a24 G23 =>
  cP (f_De_init G23 a24) fun G25 =>
  pR G25 9 6 l0 a24 fun G26 =>
  nO G26 0 fun a28 G27 =>
  cP (f_Ci_init G27 a28) fun G29 =>
  pR G29 9 7 l0 a28 fun G30 =>
  nO G30 4 fun a32 G31 =>
  cP (f_Pl_init G31 a32) fun G33 =>
  pR G33 9 8 l0 a32 fun G34 =>
  nO G34 2 fun a36 G35 =>
  cP (f_Fr_init G35 a36) fun G37 =>
  pR G37 9 9 l0 a36 fun G38 =>
  gR G38 9 3 l0 fun x39 =>
  vP G38 6 x39 (f_St_open G38 x39 (4 : Int32)) fun G40 =>
  f_Fa_init_b124  FU G40 l0 (0 : Int32)
def f_Fa_bad (G : Hp) (l0 : Nat) (l1 : Int32) : Option (Int32 × Hp) :=
  gI G 9 10 l0 fun x1 =>
  pI G 9 10 l0 (x1 + (1 : Int32)) fun G2 =>
  some (l1, G2)
def f_Fa_people (G : Hp) (l0 : Nat) (l1 : Int32) : Option (Int32 × Hp) :=
  cP (f_Fa_isWithin G l1 (2 : Int32) (6 : Int32)) fun x1 =>
  if x1 = 0 then
    vH G 9 l0 (f_Fa_bad G l0 (-2 : Int32)) fun x11 G12 =>
    some (x11, G12)
  else
    gR G 9 3 l0 fun x2 =>
    gR G 6 0 x2 fun x3 =>
    gI G 7 2 x3 fun x4 =>
    gR G 9 3 l0 fun x5 =>
    vP G 6 x5 (f_St_open G x5 l1) fun G6 =>
    gR G6 9 0 l0 fun x7 =>
    pI G6 3 3 x7 (0 : Int32) fun G8 =>
    gR G8 9 8 l0 fun x9 =>
    pI G8 4 0 x9 (1 : Int32) fun G10 =>
    some (x4, G10)
def f_Fa_strong_b24 (G : Hp) (l0 : Nat) : Option (Int32 × Hp) :=
  vH G 9 l0 (f_Fa_bad G l0 (-2 : Int32)) fun x1 G2 =>
  some (x1, G2)
def f_Fa_strong (G : Hp) (l0 : Nat) (l1 : Int32) (l2 : Int32) : Option (Int32 × Hp) :=
  gR G 9 3 l0 fun x1 =>
  gR G 6 0 x1 fun x2 =>
  vP G 7 x2 (f_Ta_has G x2 l1) fun x3 =>
  if x3 = 0 then
    f_Fa_strong_b24  G l0
  else
    cP (f_Fa_isWithin G l2 (0 : Int32) (99 : Int32)) fun x4 =>
    if x4 = 0 then
      f_Fa_strong_b24  G l0
    else
      gR G 9 3 l0 fun x5 =>
      gR G 6 0 x5 fun x6 =>
      vP G 7 x6 (f_Ta_at G x6 l1 (0 : Int32)) fun x7 =>
      gR G 9 3 l0 fun x8 =>
      gR G 6 0 x8 fun x9 =>
      vP G 7 x9 (f_Ta_put G x9 l1 (0 : Int32) l2) fun G10 =>
      gR G10 9 8 l0 fun x11 =>
      pI G10 4 0 x11 (1 : Int32) fun G12 =>
      some (x7, G12)
def f_Fa_isThing (G : Hp) (l0 : Int32) : Option Int32 :=
  cP (f_Fa_isWithin G l0 (0 : Int32) (3 : Int32)) fun x1 =>
  zR x1 <|
  some x1
def f_Fa_isDay (G : Hp) (l0 : Int32) : Option Int32 :=
  cP (f_Fa_isWithin G l0 (0 : Int32) (99 : Int32)) fun x1 =>
  zR x1 <|
  some x1
def f_Fa_full (G : Hp) (l0 : Nat) : Option (Int32 × Hp) :=
  gI G 9 12 l0 fun x1 =>
  pI G 9 12 l0 (x1 + (1 : Int32)) fun G2 =>
  some ((-4 : Int32), G2)
def f_Fa_favour_b81 (G : Hp) (l0 : Nat) : Option (Int32 × Hp) :=
  vH G 9 l0 (f_Fa_bad G l0 (-2 : Int32)) fun x1 G2 =>
  some (x1, G2)
def f_Fa_favour_b38 (G : Hp) (l0 : Nat) (l1 : Int32) (l2 : Int32) (l3 : Int32) (l4 : Int32) (l5 : Int32) (l6 : Int32) (s0 : Int32) : Option (Int32 × Hp) :=
  if s0 = 0 then
    f_Fa_favour_b81  G l0
  else
    cP (f_Fa_isWithin G l1 (0 : Int32) (4 : Int32)) fun x1 =>
    if x1 = 0 then
      f_Fa_favour_b81  G l0
    else
      cP (f_Fa_isThing G l4) fun x2 =>
      if x2 = 0 then
        f_Fa_favour_b81  G l0
      else
        cP (f_Fa_isWithin G l5 (1 : Int32) (40 : Int32)) fun x3 =>
        if x3 = 0 then
          f_Fa_favour_b81  G l0
        else
          cP (f_Fa_isDay G l6) fun x4 =>
          if x4 = 0 then
            f_Fa_favour_b81  G l0
          else
            gR G 9 3 l0 fun x5 =>
            gR G 6 1 x5 fun x6 =>
            vP G 7 x6 (f_Ta_isFull G x6) fun x7 =>
            if x7 = 0 then
              gR G 9 8 l0 fun x8 =>
              pI G 4 0 x8 (1 : Int32) fun G9 =>
              gR G9 9 3 l0 fun x10 =>
              vH G9 6 x10 (f_St_addFavour G9 x10 l1 l2 l3 l4 l5 l6) fun x11 G12 =>
              some (x11, G12)
            else
              vH G 9 l0 (f_Fa_full G l0) fun x13 G14 =>
              some (x13, G14)
def f_Fa_favour_b37 (G : Hp) (l0 : Nat) (l1 : Int32) (l2 : Int32) (l3 : Int32) (l4 : Int32) (l5 : Int32) (l6 : Int32) : Option (Int32 × Hp) :=
  f_Fa_favour_b38  G l0 l1 l2 l3 l4 l5 l6 (0 : Int32)
def f_Fa_favour (G : Hp) (l0 : Nat) (l1 : Int32) (l2 : Int32) (l3 : Int32) (l4 : Int32) (l5 : Int32) (l6 : Int32) : Option (Int32 × Hp) :=
  gR G 9 3 l0 fun x1 =>
  gR G 6 0 x1 fun x2 =>
  vP G 7 x2 (f_Ta_has G x2 l2) fun x3 =>
  if x3 = 0 then
    f_Fa_favour_b37  G l0 l1 l2 l3 l4 l5 l6
  else
    gR G 9 3 l0 fun x4 =>
    gR G 6 0 x4 fun x5 =>
    vP G 7 x5 (f_Ta_has G x5 l3) fun x6 =>
    if x6 = 0 then
      f_Fa_favour_b37  G l0 l1 l2 l3 l4 l5 l6
    else
      if l2 = l3 then
        f_Fa_favour_b37  G l0 l1 l2 l3 l4 l5 l6
      else
        f_Fa_favour_b38  G l0 l1 l2 l3 l4 l5 l6 (1 : Int32)
def f_Fa_isDayToCome (G : Hp) (l0 : Nat) (l1 : Int32) : Option Int32 :=
  gR G 9 3 l0 fun x1 =>
  gI G 6 5 x1 fun x2 =>
  cP (f_Fa_isWithin G l1 x2 (99 : Int32)) fun x3 =>
  zR x3 <|
  some x3
def f_Fa_need_b40 (G : Hp) (l0 : Nat) : Option (Int32 × Hp) :=
  vH G 9 l0 (f_Fa_bad G l0 (-2 : Int32)) fun x1 G2 =>
  some (x1, G2)
def f_Fa_need (G : Hp) (l0 : Nat) (l1 : Int32) (l2 : Int32) (l3 : Int32) (l4 : Int32) : Option (Int32 × Hp) :=
  gR G 9 3 l0 fun x1 =>
  gR G 6 0 x1 fun x2 =>
  vP G 7 x2 (f_Ta_has G x2 l1) fun x3 =>
  if x3 = 0 then
    f_Fa_need_b40  G l0
  else
    cP (f_Fa_isThing G l2) fun x4 =>
    if x4 = 0 then
      f_Fa_need_b40  G l0
    else
      cP (f_Fa_isWithin G l3 (1 : Int32) (40 : Int32)) fun x5 =>
      if x5 = 0 then
        f_Fa_need_b40  G l0
      else
        vP G 9 l0 (f_Fa_isDayToCome G l0 l4) fun x6 =>
        if x6 = 0 then
          f_Fa_need_b40  G l0
        else
          gR G 9 3 l0 fun x7 =>
          gR G 6 2 x7 fun x8 =>
          vP G 7 x8 (f_Ta_isFull G x8) fun x9 =>
          if x9 = 0 then
            gR G 9 8 l0 fun x10 =>
            pI G 4 0 x10 (1 : Int32) fun G11 =>
            gR G11 9 3 l0 fun x12 =>
            vH G11 6 x12 (f_St_addNeed G11 x12 l1 l2 l3 l4) fun x13 G14 =>
            some (x13, G14)
          else
            vH G 9 l0 (f_Fa_full G l0) fun x15 G16 =>
            some (x15, G16)
def f_Fa_contented (G : Hp) (l0 : Nat) : Option (Int32 × Hp) :=
  gR G 9 8 l0 fun x1 =>
  pI G 4 0 x1 (1 : Int32) fun G2 =>
  gR G2 9 3 l0 fun x3 =>
  gR G2 6 2 x3 fun x4 =>
  vH G2 7 x4 (f_Ta_empty G2 x4) fun x5 G6 =>
  some (x5, G6)
def f_Fa_type_b42_k (k42 : Hp → Nat → Int64 → Int32 → Option (Int32 × Hp)) (G : Hp) (l0 : Nat) (l1 : Int64) (l4 : Int32) : Option (Int32 × Hp) :=
  if l4 < 0 then
    gR G 9 5 l0 fun x1 =>
    gI G 8 1 x1 fun x2 =>
    some (x2, G)
  else
    gR G 9 5 l0 fun x3 =>
    vP G 8 x3 (f_Te_add G x3 (((ushrL l1 ((8 : Int32) * l4)).toInt32) &&& (255 : Int32))) fun G4 =>
    k42 G4 l0 l1 (l4 + (-1))
def f_Fa_type_b42 : Nat → Hp → Nat → Int64 → Int32 → Option (Int32 × Hp)
  | 0, _, _, _, _ => none
  | nn + 1, G, l0, l1, l4 => f_Fa_type_b42_k (f_Fa_type_b42 nn) G l0 l1 l4
def f_Fa_type (G : Hp) (l0 : Nat) (l1 : Int64) (l3 : Int32) : Option (Int32 × Hp) :=
  cP (f_Fa_isWithin G l3 (1 : Int32) (8 : Int32)) fun x1 =>
  if x1 = 0 then
    vH G 9 l0 (f_Fa_bad G l0 (-2 : Int32)) fun x7 G8 =>
    some (x7, G8)
  else
    gR G 9 5 l0 fun x2 =>
    gI G 8 1 x2 fun x3 =>
    if (x3 + l3) ≤ (250 : Int32) then
      lt (l3 - (1 : Int32)) fun x4 =>
      f_Fa_type_b42  FU G l0 l1 x4
    else
      vH G 9 l0 (f_Fa_full G l0) fun x5 G6 =>
      some (x5, G6)
def f_Fa_clear (G : Hp) (l0 : Nat) : Option (Int32 × Hp) :=
  gR G 9 5 l0 fun x1 =>
  gI G 8 1 x1 fun x2 =>
  gR G 9 5 l0 fun x3 =>
  pI G 8 1 x3 (0 : Int32) fun G4 =>
  some (x2, G4)
def f_Fa_read (G : Hp) (l0 : Nat) : Option (Int32 × Hp) :=
  gR G 9 4 l0 fun x1 =>
  vH G 5 x1 (f_Re_readStreet G x1) fun x2 G3 =>
  gR G3 9 4 l0 fun x4 =>
  gI G3 5 2 x4 fun x5 =>
  if x5 = (-1 : Int32) then
    gR G3 9 3 l0 fun x6 =>
    gR G3 9 4 l0 fun x7 =>
    gR G3 5 1 x7 fun x8 =>
    vP G3 6 x6 (f_St_takeAllButRates G3 x6 x8) fun G9 =>
    gR G9 9 0 l0 fun x10 =>
    pI G9 3 3 x10 (0 : Int32) fun G11 =>
    gR G11 9 8 l0 fun x12 =>
    pI G11 4 0 x12 (1 : Int32) fun G13 =>
    some (x2, G13)
  else
    gR G3 9 4 l0 fun x14 =>
    gI G3 5 2 x14 fun x15 =>
    some (((-10 : Int32) - x15), G3)
def f_Fa_value_b21 (G : Hp) (l0 : Nat) : Option (Int32 × Hp) :=
  vH G 9 l0 (f_Fa_bad G l0 (-2 : Int32)) fun x1 G2 =>
  some (x1, G2)
def f_Fa_value (G : Hp) (l0 : Nat) (l1 : Int32) (l2 : Int32) : Option (Int32 × Hp) :=
  gR G 9 3 l0 fun x1 =>
  gR G 6 1 x1 fun x2 =>
  vP G 7 x2 (f_Ta_has G x2 l1) fun x3 =>
  if x3 = 0 then
    f_Fa_value_b21  G l0
  else
    cP (f_Fa_isDay G l2) fun x4 =>
    if x4 = 0 then
      f_Fa_value_b21  G l0
    else
      gR G 9 3 l0 fun x5 =>
      vP G 6 x5 (f_St_valueOn G x5 l1 l2) fun x6 =>
      some (x6, G)
def f_Fa_of (G : Hp) (l0 : Nat) (l1 : Int32) : Option (Int32 × Hp) :=
  gR G 9 3 l0 fun x1 =>
  gR G 6 1 x1 fun x2 =>
  vP G 7 x2 (f_Ta_has G x2 l1) fun x3 =>
  if x3 = 0 then
    vH G 9 l0 (f_Fa_bad G l0 (-2 : Int32)) fun x7 G8 =>
    some (x7, G8)
  else
    gR G 9 3 l0 fun x4 =>
    gR G 6 1 x4 fun x5 =>
    vP G 7 x5 (f_Ta_at G x5 l1 (2 : Int32)) fun x6 =>
    some (x6, G)
def f_Fa_no (G : Hp) (l0 : Nat) (l1 : Int32) : Option (Int32 × Hp) :=
  gI G 9 11 l0 fun x1 =>
  pI G 9 11 l0 (x1 + (1 : Int32)) fun G2 =>
  some (l1, G2)
def f_Fa_pass_b44 (G : Hp) (l0 : Nat) : Option (Int32 × Hp) :=
  vH G 9 l0 (f_Fa_bad G l0 (-10 : Int32)) fun x1 G2 =>
  some (x1, G2)
def f_Fa_pass_b78 (G : Hp) (l0 : Nat) : Option (Int32 × Hp) :=
  vH G 9 l0 (f_Fa_no G l0 (-20 : Int32)) fun x1 G2 =>
  some (x1, G2)
def f_Fa_pass_b145 (G : Hp) (s0 : Int32) : Option (Int32 × Hp) :=
  some (s0, G)
def f_Fa_pass_b125 (G : Hp) (l0 : Nat) (l3 : Int32) (s0 : Nat) (s1 : Int32) (s2 : Int32) (s3 : Int32) : Option (Int32 × Hp) :=
  vP G 7 s0 (f_Ta_put G s0 s1 s2 s3) fun G1 =>
  gR G1 9 8 l0 fun x2 =>
  pI G1 4 0 x2 (1 : Int32) fun G3 =>
  if l3 = 0 then
    f_Fa_pass_b145  G3 (1 : Int32)
  else
    f_Fa_pass_b145  G3 (0 : Int32)
def f_Fa_pass_b106 (G : Hp) (l0 : Nat) (l1 : Int32) (l2 : Int32) (s0 : Int32) : Option (Int32 × Hp) :=
  gR G 9 3 l0 fun x1 =>
  gR G 6 1 x1 fun x2 =>
  if s0 = 0 then
    f_Fa_pass_b125  G l0 s0 x2 l1 (2 : Int32) l2
  else
    f_Fa_pass_b125  G l0 s0 x2 l1 (2 : Int32) (-1 : Int32)
def f_Fa_pass (G : Hp) (l0 : Nat) (l1 : Int32) (l2 : Int32) : Option (Int32 × Hp) :=
  gR G 9 3 l0 fun x1 =>
  gR G 6 1 x1 fun x2 =>
  vP G 7 x2 (f_Ta_has G x2 l1) fun x3 =>
  if x3 = 0 then
    f_Fa_pass_b44  G l0
  else
    gR G 9 3 l0 fun x4 =>
    gR G 6 0 x4 fun x5 =>
    vP G 7 x5 (f_Ta_has G x5 l2) fun x6 =>
    if x6 = 0 then
      f_Fa_pass_b44  G l0
    else
      gR G 9 3 l0 fun x7 =>
      gR G 6 1 x7 fun x8 =>
      vP G 7 x8 (f_Ta_at G x8 l1 (2 : Int32)) fun x9 =>
      if x9 = l2 then
        f_Fa_pass_b44  G l0
      else
        gR G 9 3 l0 fun x10 =>
        vP G 6 x10 (f_St_valueNow G x10 l1) fun x11 =>
        if x11 = 0 then
          f_Fa_pass_b78  G l0
        else
          gR G 9 3 l0 fun x12 =>
          gR G 6 1 x12 fun x13 =>
          vP G 7 x13 (f_Ta_at G x13 l1 (0 : Int32)) fun x14 =>
          if x14 = (2 : Int32) then
            f_Fa_pass_b78  G l0
          else
            gR G 9 3 l0 fun x15 =>
            gR G 6 1 x15 fun x16 =>
            vP G 7 x16 (f_Ta_at G x16 l1 (1 : Int32)) fun x17 =>
            if x17 = l2 then
              f_Fa_pass_b106  G l0 l1 l2 (1 : Int32)
            else
              f_Fa_pass_b106  G l0 l1 l2 (0 : Int32)
def f_Fa_join_b33 (G : Hp) (l0 : Nat) : Option (Int32 × Hp) :=
  vH G 9 l0 (f_Fa_bad G l0 (-2 : Int32)) fun x1 G2 =>
  some (x1, G2)
def f_Fa_join_b74 (G : Hp) (l0 : Nat) : Option (Int32 × Hp) :=
  vH G 9 l0 (f_Fa_no G l0 (-3 : Int32)) fun x1 G2 =>
  some (x1, G2)
def f_Fa_join (G : Hp) (l0 : Nat) (l1 : Int32) (l2 : Int32) : Option (Int32 × Hp) :=
  gR G 9 3 l0 fun x1 =>
  gR G 6 1 x1 fun x2 =>
  vP G 7 x2 (f_Ta_has G x2 l1) fun x3 =>
  if x3 = 0 then
    f_Fa_join_b33  G l0
  else
    gR G 9 3 l0 fun x4 =>
    gR G 6 1 x4 fun x5 =>
    vP G 7 x5 (f_Ta_has G x5 l2) fun x6 =>
    if x6 = 0 then
      f_Fa_join_b33  G l0
    else
      if l1 = l2 then
        f_Fa_join_b33  G l0
      else
        gR G 9 3 l0 fun x7 =>
        vP G 6 x7 (f_St_areAlike G x7 l1 l2) fun x8 =>
        if x8 = 0 then
          f_Fa_join_b74  G l0
        else
          gR G 9 3 l0 fun x9 =>
          vP G 6 x9 (f_St_valueNow G x9 l1) fun x10 =>
          if x10 = 0 then
            f_Fa_join_b74  G l0
          else
            gR G 9 3 l0 fun x11 =>
            vP G 6 x11 (f_St_valueNow G x11 l2) fun x12 =>
            if x12 = 0 then
              f_Fa_join_b74  G l0
            else
              gR G 9 8 l0 fun x13 =>
              pI G 4 0 x13 (1 : Int32) fun G14 =>
              gR G14 9 3 l0 fun x15 =>
              vH G14 6 x15 (f_St_merge G14 x15 l1 l2) fun x16 G17 =>
              some (x16, G17)
def f_Fa_ask_b80 (G : Hp) (l0 : Nat) : Option (Int32 × Hp) :=
  vH G 9 l0 (f_Fa_no G l0 (-3 : Int32)) fun x1 G2 =>
  some (x1, G2)
def f_Fa_ask (G : Hp) (l0 : Nat) (l1 : Int32) : Option (Int32 × Hp) :=
  gR G 9 3 l0 fun x1 =>
  gR G 6 1 x1 fun x2 =>
  vP G 7 x2 (f_Ta_has G x2 l1) fun x3 =>
  if x3 = 0 then
    vH G 9 l0 (f_Fa_bad G l0 (-2 : Int32)) fun x24 G25 =>
    some (x24, G25)
  else
    gR G 9 3 l0 fun x4 =>
    vP G 6 x4 (f_St_valueNow G x4 l1) fun x5 =>
    gR G 9 3 l0 fun x6 =>
    gR G 6 1 x6 fun x7 =>
    vP G 7 x7 (f_Ta_at G x7 l1 (1 : Int32)) fun x8 =>
    gR G 9 3 l0 fun x9 =>
    gR G 6 0 x9 fun x10 =>
    vP G 7 x10 (f_Ta_at G x10 x8 (1 : Int32)) fun x11 =>
    lt (x11 + x5) fun x12 =>
    if x5 = 0 then
      f_Fa_ask_b80  G l0
    else
      gR G 9 3 l0 fun x13 =>
      gR G 6 0 x13 fun x14 =>
      vP G 7 x14 (f_Ta_at G x14 x8 (0 : Int32)) fun x15 =>
      if x12 ≤ x15 then
        gR G 9 3 l0 fun x16 =>
        gR G 6 0 x16 fun x17 =>
        vP G 7 x17 (f_Ta_put G x17 x8 (1 : Int32) x12) fun G18 =>
        gR G18 9 3 l0 fun x19 =>
        gR G18 6 1 x19 fun x20 =>
        vP G18 7 x20 (f_Ta_put G18 x20 l1 (2 : Int32) (-1 : Int32)) fun G21 =>
        gR G21 9 8 l0 fun x22 =>
        pI G21 4 0 x22 (1 : Int32) fun G23 =>
        some (x5, G23)
      else
        f_Fa_ask_b80  G l0
def f_Fa_night (G : Hp) (l0 : Nat) : Option (Int32 × Hp) :=
  gR G 9 3 l0 fun x1 =>
  gI G 6 5 x1 fun x2 =>
  if x2 < (99 : Int32) then
    gR G 9 0 l0 fun x3 =>
    vP G 3 x3 (f_Hi_keepNight G x3) fun G4 =>
    gR G4 9 3 l0 fun x5 =>
    vP G4 6 x5 (f_St_wake G4 x5) fun G6 =>
    gR G6 9 3 l0 fun x7 =>
    gI G6 6 5 x7 fun x8 =>
    some (x8, G6)
  else
    vH G 9 l0 (f_Fa_no G l0 (-3 : Int32)) fun x9 G10 =>
    some (x9, G10)
def f_Fa_undo (G : Hp) (l0 : Nat) : Option (Int32 × Hp) :=
  gR G 9 0 l0 fun x1 =>
  gI G 3 3 x1 fun x2 =>
  if x2 = 0 then
    vH G 9 l0 (f_Fa_no G l0 (-3 : Int32)) fun x7 G8 =>
    some (x7, G8)
  else
    gR G 9 0 l0 fun x3 =>
    vP G 3 x3 (f_Hi_goBack G x3) fun G4 =>
    gR G4 9 8 l0 fun x5 =>
    pI G4 4 0 x5 (1 : Int32) fun G6 =>
    some ((1 : Int32), G6)
def f_Fa_owes_b33 (G : Hp) (l0 : Nat) : Option (Int32 × Hp) :=
  vH G 9 l0 (f_Fa_bad G l0 (-1000 : Int32)) fun x1 G2 =>
  some (x1, G2)
def f_Fa_owes (G : Hp) (l0 : Nat) (l1 : Int32) (l2 : Int32) : Option (Int32 × Hp) :=
  gR G 9 3 l0 fun x1 =>
  gR G 6 0 x1 fun x2 =>
  vP G 7 x2 (f_Ta_has G x2 l1) fun x3 =>
  if x3 = 0 then
    f_Fa_owes_b33  G l0
  else
    gR G 9 3 l0 fun x4 =>
    gR G 6 0 x4 fun x5 =>
    vP G 7 x5 (f_Ta_has G x5 l2) fun x6 =>
    if x6 = 0 then
      f_Fa_owes_b33  G l0
    else
      if l1 = l2 then
        f_Fa_owes_b33  G l0
      else
        gR G 9 6 l0 fun x7 =>
        gR G 9 3 l0 fun x8 =>
        gR G 9 3 l0 fun x9 =>
        gI G 6 5 x9 fun x10 =>
        vP G 1 x7 (f_De_addUp G x7 x8 x10) fun G11 =>
        gR G11 9 6 l0 fun x12 =>
        vP G11 1 x12 (f_De_between G11 x12 l1 l2) fun x13 =>
        some (x13, G11)
def f_Fa_findRing (G : Hp) (l0 : Nat) : Option Hp :=
  gR G 9 6 l0 fun x1 =>
  gR G 9 3 l0 fun x2 =>
  gR G 9 3 l0 fun x3 =>
  gI G 6 5 x3 fun x4 =>
  vP G 1 x1 (f_De_addUp G x1 x2 x4) fun G5 =>
  gR G5 9 7 l0 fun x6 =>
  gR G5 9 6 l0 fun x7 =>
  vP G5 0 x6 (f_Ci_find G5 x6 x7) fun G8 =>
  some G8
def f_Fa_ring_b53 (G : Hp) (s0 : Int32) : Option (Int32 × Hp) :=
  some (s0, G)
def f_Fa_ring (G : Hp) (l0 : Nat) (l1 : Int32) : Option (Int32 × Hp) :=
  if (-1 : Int32) ≤ l1 then
    vP G 9 l0 (f_Fa_findRing G l0) fun G1 =>
    if l1 = (-1 : Int32) then
      gR G1 9 7 l0 fun x6 =>
      gI G1 0 1 x6 fun x7 =>
      some (x7, G1)
    else
      gR G1 9 7 l0 fun x2 =>
      gI G1 0 1 x2 fun x3 =>
      if x3 ≤ l1 then
        f_Fa_ring_b53  G1 (-5 : Int32)
      else
        gR G1 9 7 l0 fun x4 =>
        vP G1 0 x4 (f_Ci_member G1 x4 l1) fun x5 =>
        f_Fa_ring_b53  G1 x5
  else
    vH G 9 l0 (f_Fa_bad G l0 (-10 : Int32)) fun x8 G9 =>
    some (x8, G9)
def f_Fa_cancel_b105 (k25 : Hp → Nat → Int32 → Int32 → Option (Int32 × Hp)) (G : Hp) (l0 : Nat) (l1 : Int32) (l2 : Int32) : Option (Int32 × Hp) :=
  k25 G l0 l1 (l2 + 1)
def f_Fa_cancel_b56 (k25 : Hp → Nat → Int32 → Int32 → Option (Int32 × Hp)) (G : Hp) (l0 : Nat) (l1 : Int32) (l2 : Int32) (s0 : Int32) : Option (Int32 × Hp) :=
  gR G 9 3 l0 fun x1 =>
  gR G 9 7 l0 fun x2 =>
  vP G 0 x2 (f_Ci_member G x2 l2) fun x3 =>
  gR G 9 7 l0 fun x4 =>
  vP G 0 x4 (f_Ci_member G x4 s0) fun x5 =>
  vP G 6 x1 (f_St_cheapest G x1 x3 x5) fun x6 =>
  if x6 = (-1 : Int32) then
    f_Fa_cancel_b105 k25 G l0 l1 l2
  else
    gR G 9 3 l0 fun x7 =>
    gR G 6 1 x7 fun x8 =>
    vP G 7 x8 (f_Ta_put G x8 x6 (2 : Int32) (-1 : Int32)) fun G9 =>
    f_Fa_cancel_b105 k25 G9 l0 (l1 + 1) l2
def f_Fa_cancel_b25_k (k25 : Hp → Nat → Int32 → Int32 → Option (Int32 × Hp)) (G : Hp) (l0 : Nat) (l1 : Int32) (l2 : Int32) : Option (Int32 × Hp) :=
  gR G 9 7 l0 fun x1 =>
  gI G 0 1 x1 fun x2 =>
  if x2 ≤ l2 then
    gR G 9 8 l0 fun x3 =>
    pI G 4 0 x3 (1 : Int32) fun G4 =>
    some (l1, G4)
  else
    gR G 9 7 l0 fun x5 =>
    gI G 0 1 x5 fun x6 =>
    if x6 ≤ (l2 + (1 : Int32)) then
      f_Fa_cancel_b56 k25 G l0 l1 l2 (0 : Int32)
    else
      f_Fa_cancel_b56 k25 G l0 l1 l2 (l2 + (1 : Int32))
def f_Fa_cancel_b25 : Nat → Hp → Nat → Int32 → Int32 → Option (Int32 × Hp)
  | 0, _, _, _, _ => none
  | nn + 1, G, l0, l1, l2 => f_Fa_cancel_b25_k (f_Fa_cancel_b25 nn) G l0 l1 l2
def f_Fa_cancel (G : Hp) (l0 : Nat) : Option (Int32 × Hp) :=
  vP G 9 l0 (f_Fa_findRing G l0) fun G1 =>
  gR G1 9 7 l0 fun x2 =>
  gI G1 0 1 x2 fun x3 =>
  if x3 = 0 then
    vH G1 9 l0 (f_Fa_no G1 l0 (-3 : Int32)) fun x4 G5 =>
    some (x4, G5)
  else
    f_Fa_cancel_b25  FU G1 l0 (0 : Int32) (0 : Int32)
def f_Fa_net (G : Hp) (l0 : Nat) (l1 : Int32) : Option (Int32 × Hp) :=
  gR G 9 3 l0 fun x1 =>
  gR G 6 0 x1 fun x2 =>
  vP G 7 x2 (f_Ta_has G x2 l1) fun x3 =>
  if x3 = 0 then
    vH G 9 l0 (f_Fa_bad G l0 (-10000 : Int32)) fun x11 G12 =>
    some (x11, G12)
  else
    gR G 9 6 l0 fun x4 =>
    gR G 9 3 l0 fun x5 =>
    gR G 9 3 l0 fun x6 =>
    gI G 6 5 x6 fun x7 =>
    vP G 1 x4 (f_De_addUp G x4 x5 x7) fun G8 =>
    gR G8 9 6 l0 fun x9 =>
    vP G8 1 x9 (f_De_balance G8 x9 l1) fun x10 =>
    some (x10, G8)
def f_Fa_fewest (G : Hp) (l0 : Nat) : Option (Int32 × Hp) :=
  gR G 9 6 l0 fun x1 =>
  gR G 9 3 l0 fun x2 =>
  gR G 9 3 l0 fun x3 =>
  gI G 6 5 x3 fun x4 =>
  vP G 1 x1 (f_De_addUp G x1 x2 x4) fun G5 =>
  gR G5 9 6 l0 fun x6 =>
  vH G5 1 x6 (f_De_fewestPayments G5 x6) fun x7 G8 =>
  some (x7, G8)
def f_Fa_met_b48 (G : Hp) (s0 : Int32) : Option (Int32 × Hp) :=
  some (s0, G)
def f_Fa_met (G : Hp) (l0 : Nat) (l1 : Int32) : Option (Int32 × Hp) :=
  cP (f_Fa_isWithin G l1 (0 : Int32) (1 : Int32)) fun x1 =>
  if x1 = 0 then
    vH G 9 l0 (f_Fa_bad G l0 (-2 : Int32)) fun x9 G10 =>
    some (x9, G10)
  else
    gR G 9 8 l0 fun x2 =>
    gR G 9 3 l0 fun x3 =>
    vP G 4 x2 (f_Pl_make G x2 x3) fun G4 =>
    if l1 = 0 then
      gR G4 9 8 l0 fun x7 =>
      gI G4 4 1 x7 fun x8 =>
      f_Fa_met_b48  G4 x8
    else
      gR G4 9 8 l0 fun x5 =>
      gI G4 4 2 x5 fun x6 =>
      f_Fa_met_b48  G4 x6
def f_Fa_plan (G : Hp) (l0 : Nat) (l1 : Int32) : Option (Int32 × Hp) :=
  gR G 9 3 l0 fun x1 =>
  gR G 6 2 x1 fun x2 =>
  vP G 7 x2 (f_Ta_has G x2 l1) fun x3 =>
  if x3 = 0 then
    vH G 9 l0 (f_Fa_bad G l0 (-2 : Int32)) fun x9 G10 =>
    some (x9, G10)
  else
    gR G 9 8 l0 fun x4 =>
    gR G 9 3 l0 fun x5 =>
    vP G 4 x4 (f_Pl_make G x4 x5) fun G6 =>
    gR G6 9 8 l0 fun x7 =>
    vP G6 4 x7 (f_Pl_favourOf G6 x7 l1) fun x8 =>
    some (x8, G6)
def f_Fa_fire_b16 (G : Hp) (l0 : Nat) : Option (Int32 × Hp) :=
  vH G 9 l0 (f_Fa_bad G l0 (-2 : Int32)) fun x1 G2 =>
  some (x1, G2)
def f_Fa_fire_b70 (G : Hp) (s0 : Int32) : Option (Int32 × Hp) :=
  some (s0, G)
def f_Fa_fire (G : Hp) (l0 : Nat) (l1 : Int32) (l2 : Int32) : Option (Int32 × Hp) :=
  cP (f_Fa_isDay G l1) fun x1 =>
  if x1 = 0 then
    f_Fa_fire_b16  G l0
  else
    cP (f_Fa_isWithin G l2 (0 : Int32) (1 : Int32)) fun x2 =>
    if x2 = 0 then
      f_Fa_fire_b16  G l0
    else
      gR G 9 6 l0 fun x3 =>
      gR G 9 3 l0 fun x4 =>
      vP G 1 x3 (f_De_addUp G x3 x4 l1) fun G5 =>
      gR G5 9 6 l0 fun x6 =>
      gR G5 9 3 l0 fun x7 =>
      gR G5 6 0 x7 fun x8 =>
      vP G5 1 x6 (f_De_callAllIn G5 x6 x8) fun G9 =>
      if l2 = 0 then
        gR G9 9 6 l0 fun x12 =>
        gI G9 1 4 x12 fun x13 =>
        f_Fa_fire_b70  G9 x13
      else
        gR G9 9 6 l0 fun x10 =>
        gI G9 1 5 x10 fun x11 =>
        f_Fa_fire_b70  G9 x11
def f_Fa_heldRate (G : Hp) (l0 : Int32) : Option Int32 :=
  some (mx (1 : Int32) (mn (99 : Int32) l0))
def f_Fa_rate_b17 (G : Hp) (l0 : Nat) : Option (Int32 × Hp) :=
  vH G 9 l0 (f_Fa_bad G l0 (-2 : Int32)) fun x1 G2 =>
  some (x1, G2)
def f_Fa_rate (G : Hp) (l0 : Nat) (l1 : Int32) (l2 : Int32) : Option (Int32 × Hp) :=
  cP (f_Fa_isThing G l1) fun x1 =>
  if x1 = 0 then
    f_Fa_rate_b17  G l0
  else
    cP (f_Fa_isWithin G l2 (0 : Int32) (99 : Int32)) fun x2 =>
    if x2 = 0 then
      f_Fa_rate_b17  G l0
    else
      gR G 9 3 l0 fun x3 =>
      vP G 6 x3 (f_St_rateNow G x3 l1) fun x4 =>
      gR G 9 3 l0 fun x5 =>
      vP G 6 x5 (f_St_drift G x5 l1) fun x6 =>
      cP (f_Fa_heldRate G (x4 + (l2 * x6))) fun x7 =>
      some (x7, G)
def f_Fa_set_b17 (G : Hp) (l0 : Nat) : Option (Int32 × Hp) :=
  vH G 9 l0 (f_Fa_bad G l0 (-2 : Int32)) fun x1 G2 =>
  some (x1, G2)
def f_Fa_set (G : Hp) (l0 : Nat) (l1 : Int32) (l2 : Int32) : Option (Int32 × Hp) :=
  cP (f_Fa_isThing G l1) fun x1 =>
  if x1 = 0 then
    f_Fa_set_b17  G l0
  else
    cP (f_Fa_isWithin G l2 (1 : Int32) (99 : Int32)) fun x2 =>
    if x2 = 0 then
      f_Fa_set_b17  G l0
    else
      gR G 9 3 l0 fun x3 =>
      vP G 6 x3 (f_St_rateNow G x3 l1) fun x4 =>
      gR G 9 3 l0 fun x5 =>
      vP G 6 x5 (f_St_setRate G x5 l1 l2) fun G6 =>
      some (x4, G6)
def f_Fa_lastChange_b2_k (G : Hp) (k2 : Int32 → Int32 → Int32 → Option Int32) (l0 : Int32) (l1 : Int32) (l2 : Int32) : Option Int32 :=
  if (99 : Int32) < l2 then
    some (-1 : Int32)
  else
    cP (f_Fa_heldRate G (l0 + (l2 * l1))) fun x1 =>
    cP (f_Fa_heldRate G (l0 + ((l2 + (1 : Int32)) * l1))) fun x2 =>
    if x1 = x2 then
      some l2
    else
      k2 l0 l1 (l2 + 1)
def f_Fa_lastChange_b2 (G : Hp) : Nat → Int32 → Int32 → Int32 → Option Int32
  | 0, _, _, _ => none
  | nn + 1, l0, l1, l2 => f_Fa_lastChange_b2_k G (f_Fa_lastChange_b2 G nn) l0 l1 l2
def f_Fa_lastChange (G : Hp) (l0 : Int32) (l1 : Int32) : Option Int32 :=
  f_Fa_lastChange_b2 G  FU l0 l1 (0 : Int32)
def f_Fa_settles_b4_k (G : Hp) (k4 : Nat → Int32 → Int32 → Option Int32) (l0 : Nat) (l1 : Int32) (l2 : Int32) : Option Int32 :=
  if (4 : Int32) ≤ l2 then
    some l1
  else
    gR G 9 3 l0 fun x1 =>
    vP G 6 x1 (f_St_rateNow G x1 l2) fun x2 =>
    gR G 9 3 l0 fun x3 =>
    vP G 6 x3 (f_St_drift G x3 l2) fun x4 =>
    cP (f_Fa_lastChange G x2 x4) fun x5 =>
    if x5 = (-1 : Int32) then
      some (-1 : Int32)
    else
      lt (mx l1 x5) fun x6 =>
      k4 l0 x6 (l2 + 1)
def f_Fa_settles_b4 (G : Hp) : Nat → Nat → Int32 → Int32 → Option Int32
  | 0, _, _, _ => none
  | nn + 1, l0, l1, l2 => f_Fa_settles_b4_k G (f_Fa_settles_b4 G nn) l0 l1 l2
def f_Fa_settles (G : Hp) (l0 : Nat) : Option Int32 :=
  f_Fa_settles_b4 G  FU l0 (0 : Int32) (0 : Int32)
def f_Fa_told_b47 (G : Hp) (l0 : Nat) : Option (Int32 × Hp) :=
  vH G 9 l0 (f_Fa_bad G l0 (-2 : Int32)) fun x1 G2 =>
  some (x1, G2)
def f_Fa_told (G : Hp) (l0 : Nat) (l1 : Int32) (l2 : Int32) (l3 : Int32) : Option (Int32 × Hp) :=
  gR G 9 3 l0 fun x1 =>
  gR G 6 1 x1 fun x2 =>
  vP G 7 x2 (f_Ta_has G x2 l1) fun x3 =>
  if x3 = 0 then
    f_Fa_told_b47  G l0
  else
    gR G 9 3 l0 fun x4 =>
    gR G 6 0 x4 fun x5 =>
    vP G 7 x5 (f_Ta_has G x5 l2) fun x6 =>
    if x6 = 0 then
      f_Fa_told_b47  G l0
    else
      gR G 9 3 l0 fun x7 =>
      gR G 6 0 x7 fun x8 =>
      vP G 7 x8 (f_Ta_has G x8 l3) fun x9 =>
      if x9 = 0 then
        f_Fa_told_b47  G l0
      else
        if l2 = l3 then
          f_Fa_told_b47  G l0
        else
          gR G 9 3 l0 fun x10 =>
          gR G 6 3 x10 fun x11 =>
          vP G 7 x11 (f_Ta_isFull G x11) fun x12 =>
          if x12 = 0 then
            gR G 9 3 l0 fun x13 =>
            vH G 6 x13 (f_St_addPass G x13 l1 l2 l3) fun x14 G15 =>
            some (x14, G15)
          else
            vH G 9 l0 (f_Fa_full G l0) fun x16 G17 =>
            some (x16, G17)
def f_Fa_forged_b2_k (G : Hp) (k2 : Nat → Int32 → Option Int32) (l0 : Nat) (l1 : Int32) : Option Int32 :=
  gR G 9 3 l0 fun x1 =>
  gR G 6 3 x1 fun x2 =>
  gI G 7 2 x2 fun x3 =>
  if x3 ≤ l1 then
    some (-1 : Int32)
  else
    gR G 9 3 l0 fun x4 =>
    gR G 6 3 x4 fun x5 =>
    vP G 7 x5 (f_Ta_at G x5 l1 (1 : Int32)) fun x6 =>
    gR G 9 3 l0 fun x7 =>
    vP G 6 x7 (f_St_holderAhead G x7 l1) fun x8 =>
    if x6 = x8 then
      k2 l0 (l1 + 1)
    else
      some l1
def f_Fa_forged_b2 (G : Hp) : Nat → Nat → Int32 → Option Int32
  | 0, _, _ => none
  | nn + 1, l0, l1 => f_Fa_forged_b2_k G (f_Fa_forged_b2 G nn) l0 l1
def f_Fa_forged (G : Hp) (l0 : Nat) : Option Int32 :=
  f_Fa_forged_b2 G  FU l0 (0 : Int32)
def f_Fa_forget (G : Hp) (l0 : Nat) : Option (Int32 × Hp) :=
  gR G 9 3 l0 fun x1 =>
  gR G 6 3 x1 fun x2 =>
  vH G 7 x2 (f_Ta_empty G x2) fun x3 G4 =>
  some (x3, G4)
def f_Fa_goesOff_b19_k (k19 : Hp → Nat → Int32 → Int32 → Int32 → Option (Int32 × Hp)) (G : Hp) (l0 : Nat) (l1 : Int32) (l2 : Int32) (l3 : Int32) : Option (Int32 × Hp) :=
  gR G 9 3 l0 fun x1 =>
  gR G 6 1 x1 fun x2 =>
  gI G 7 2 x2 fun x3 =>
  if x3 ≤ l3 then
    some (l2, G)
  else
    gR G 9 3 l0 fun x4 =>
    vP G 6 x4 (f_St_valueNow G x4 l3) fun x5 =>
    gR G 9 3 l0 fun x6 =>
    vP G 6 x6 (f_St_valueOn G x6 l3 l1) fun x7 =>
    lt (l2 + (mx (0 : Int32) (x5 - x7))) fun x8 =>
    k19 G l0 l1 x8 (l3 + 1)
def f_Fa_goesOff_b19 : Nat → Hp → Nat → Int32 → Int32 → Int32 → Option (Int32 × Hp)
  | 0, _, _, _, _, _ => none
  | nn + 1, G, l0, l1, l2, l3 => f_Fa_goesOff_b19_k (f_Fa_goesOff_b19 nn) G l0 l1 l2 l3
def f_Fa_goesOff (G : Hp) (l0 : Nat) (l1 : Int32) : Option (Int32 × Hp) :=
  vP G 9 l0 (f_Fa_isDayToCome G l0 l1) fun x1 =>
  if x1 = 0 then
    vH G 9 l0 (f_Fa_bad G l0 (-2 : Int32)) fun x2 G3 =>
    some (x2, G3)
  else
    f_Fa_goesOff_b19  FU G l0 l1 (0 : Int32) (0 : Int32)
def f_Fa_choices_b5_k (G : Hp) (k5 : Int32 → Int32 → Int64 → Int32 → Option Int64) (l0 : Int32) (l1 : Int32) (l2 : Int64) (l4 : Int32) : Option Int64 :=
  if l1 < l4 then
    some l2
  else
    dL l4.toInt64 <|
    lt ((l2 * (((l0 - l1) + l4).toInt64)) / l4.toInt64) fun x1 =>
    k5 l0 l1 x1 (l4 + 1)
def f_Fa_choices_b5 (G : Hp) : Nat → Int32 → Int32 → Int64 → Int32 → Option Int64
  | 0, _, _, _, _ => none
  | nn + 1, l0, l1, l2, l4 => f_Fa_choices_b5_k G (f_Fa_choices_b5 G nn) l0 l1 l2 l4
def f_Fa_choices (G : Hp) (l0 : Int32) (l1 : Int32) : Option Int64 :=
  f_Fa_choices_b5 G  FU l0 l1 (1 : Int64) (1 : Int32)
def f_Fa_power_b5_k (G : Hp) (k5 : Int32 → Int32 → Int64 → Int32 → Option Int64) (l0 : Int32) (l1 : Int32) (l2 : Int64) (l4 : Int32) : Option Int64 :=
  if l1 ≤ l4 then
    some l2
  else
    lt (l2 * l0.toInt64) fun x1 =>
    k5 l0 l1 x1 (l4 + 1)
def f_Fa_power_b5 (G : Hp) : Nat → Int32 → Int32 → Int64 → Int32 → Option Int64
  | 0, _, _, _, _ => none
  | nn + 1, l0, l1, l2, l4 => f_Fa_power_b5_k G (f_Fa_power_b5 G nn) l0 l1 l2 l4
def f_Fa_power (G : Hp) (l0 : Int32) (l1 : Int32) : Option Int64 :=
  f_Fa_power_b5 G  FU l0 l1 (1 : Int64) (0 : Int32)
def f_Fa_kept_b19 (G : Hp) (l0 : Nat) : Option (Int32 × Hp) :=
  vH G 9 l0 (f_Fa_bad G l0 (-2 : Int32)) fun x1 G2 =>
  some (x1, G2)
def f_Fa_kept_b51_k (k51 : Hp → Nat → Int32 → Int32 → Int64 → Int32 → Option (Int32 × Hp)) (G : Hp) (l0 : Nat) (l1 : Int32) (l3 : Int32) (l4 : Int64) (l6 : Int32) : Option (Int32 × Hp) :=
  if l3 < l6 then
    gR G 9 9 l0 fun x1 =>
    cP (f_Fa_power G (10 : Int32) l3) fun x2 =>
    vP G 2 x1 (f_Fr_become G x1 l4 x2) fun G3 =>
    some ((1 : Int32), G3)
  else
    cP (f_Fa_choices G l3 l6) fun x4 =>
    cP (f_Fa_power G l1 l6) fun x5 =>
    cP (f_Fa_power G ((10 : Int32) - l1) (l3 - l6)) fun x6 =>
    lt (l4 + ((x4 * x5) * x6)) fun x7 =>
    k51 G l0 l1 l3 x7 (l6 + 1)
def f_Fa_kept_b51 : Nat → Hp → Nat → Int32 → Int32 → Int64 → Int32 → Option (Int32 × Hp)
  | 0, _, _, _, _, _, _ => none
  | nn + 1, G, l0, l1, l3, l4, l6 => f_Fa_kept_b51_k (f_Fa_kept_b51 nn) G l0 l1 l3 l4 l6
def f_Fa_kept (G : Hp) (l0 : Nat) (l1 : Int32) (l2 : Int32) : Option (Int32 × Hp) :=
  cP (f_Fa_isWithin G l1 (0 : Int32) (10 : Int32)) fun x1 =>
  if x1 = 0 then
    f_Fa_kept_b19  G l0
  else
    cP (f_Fa_isWithin G l2 (0 : Int32) (5 : Int32)) fun x2 =>
    if x2 = 0 then
      f_Fa_kept_b19  G l0
    else
      gR G 9 8 l0 fun x3 =>
      gR G 9 3 l0 fun x4 =>
      vP G 4 x3 (f_Pl_make G x3 x4) fun G5 =>
      gR G5 9 8 l0 fun x6 =>
      gI G5 4 1 x6 fun x7 =>
      f_Fa_kept_b51  FU G5 l0 l1 x7 (0 : Int64) l2
def f_Fa_part_b38 (G : Hp) (s0 : Int64) : Option (Int64 × Hp) :=
  some (s0, G)
def f_Fa_part (G : Hp) (l0 : Nat) (l1 : Int32) : Option (Int64 × Hp) :=
  cP (f_Fa_isWithin G l1 (0 : Int32) (1 : Int32)) fun x1 =>
  if x1 = 0 then
    vH G 9 l0 (f_Fa_bad G l0 (-2 : Int32)) fun x6 G7 =>
    some (x6.toInt64, G7)
  else
    if l1 = 0 then
      gR G 9 9 l0 fun x4 =>
      gL G 2 0 x4 fun x5 =>
      f_Fa_part_b38  G x5
    else
      gR G 9 9 l0 fun x2 =>
      gL G 2 1 x2 fun x3 =>
      f_Fa_part_b38  G x3
def f_Fa_imageAt_b15 (G : Hp) (s0 : Nat) : Option Nat :=
  some s0
def f_Fa_imageAt (G : Hp) (l0 : Nat) (l1 : Int32) : Option Nat :=
  if l1 = 0 then
    gR G 9 1 l0 fun x2 =>
    f_Fa_imageAt_b15 G  x2
  else
    gR G 9 2 l0 fun x1 =>
    f_Fa_imageAt_b15 G  x1
def f_Fa_image (G : Hp) (l0 : Nat) (l1 : Int32) : Option (Int32 × Hp) :=
  cP (f_Fa_isWithin G l1 (0 : Int32) (1 : Int32)) fun x1 =>
  if x1 = 0 then
    vH G 9 l0 (f_Fa_bad G l0 (-2 : Int32)) fun x7 G8 =>
    some (x7, G8)
  else
    vP G 9 l0 (f_Fa_imageAt G l0 l1) fun x2 =>
    gR G 9 0 l0 fun x3 =>
    vP G 3 x2 (f_Hi_copyFrom G x2 x3) fun G4 =>
    vP G4 9 l0 (f_Fa_imageAt G4 l0 l1) fun x5 =>
    pI G4 3 4 x5 (1 : Int32) fun G6 =>
    some ((1 : Int32), G6)
def f_Fa_from (G : Hp) (l0 : Nat) (l1 : Int32) : Option (Int32 × Hp) :=
  cP (f_Fa_isWithin G l1 (0 : Int32) (1 : Int32)) fun x1 =>
  if x1 = 0 then
    vH G 9 l0 (f_Fa_bad G l0 (-2 : Int32)) fun x11 G12 =>
    some (x11, G12)
  else
    vP G 9 l0 (f_Fa_imageAt G l0 l1) fun x2 =>
    gI G 3 4 x2 fun x3 =>
    if x3 = 0 then
      vH G 9 l0 (f_Fa_no G l0 (-3 : Int32)) fun x9 G10 =>
      some (x9, G10)
    else
      gR G 9 0 l0 fun x4 =>
      vP G 9 l0 (f_Fa_imageAt G l0 l1) fun x5 =>
      vP G 3 x4 (f_Hi_copyFrom G x4 x5) fun G6 =>
      gR G6 9 8 l0 fun x7 =>
      pI G6 4 0 x7 (1 : Int32) fun G8 =>
      some ((1 : Int32), G8)
def f_Fa_status (G : Hp) (l0 : Nat) (l1 : Int32) : Option (Int32 × Hp) :=
  if l1 = 0 then
    gI G 9 10 l0 fun x1 =>
    some (x1, G)
  else
    if l1 = 1 then
      gI G 9 11 l0 fun x2 =>
      some (x2, G)
    else
      if l1 = 2 then
        gI G 9 12 l0 fun x3 =>
        some (x3, G)
      else
        vH G 9 l0 (f_Fa_bad G l0 (-1 : Int32)) fun x4 G5 =>
        some (x4, G5)
def f_Fa_howMany (G : Hp) (l0 : Nat) (l1 : Int32) : Option Int32 :=
  if l1 = 0 then
    gR G 9 3 l0 fun x1 =>
    gR G 6 0 x1 fun x2 =>
    gI G 7 2 x2 fun x3 =>
    some x3
  else
    if l1 = 1 then
      gR G 9 3 l0 fun x4 =>
      gR G 6 1 x4 fun x5 =>
      gI G 7 2 x5 fun x6 =>
      some x6
    else
      if l1 = 2 then
        gR G 9 3 l0 fun x7 =>
        gR G 6 2 x7 fun x8 =>
        gI G 7 2 x8 fun x9 =>
        some x9
      else
        if l1 = 3 then
          gR G 9 3 l0 fun x10 =>
          gR G 6 3 x10 fun x11 =>
          gI G 7 2 x11 fun x12 =>
          some x12
        else
          if l1 = 4 then
            gR G 9 3 l0 fun x13 =>
            gI G 6 5 x13 fun x14 =>
            some x14
          else
            if l1 = 5 then
              gR G 9 0 l0 fun x15 =>
              gI G 3 3 x15 fun x16 =>
              some x16
            else
              gR G 9 5 l0 fun x17 =>
              gI G 8 1 x17 fun x18 =>
              some x18
def f_Fa_count_b24 (G : Hp) (s0 : Int32) : Option (Int32 × Hp) :=
  some (s0, G)
def f_Fa_count (G : Hp) (l0 : Nat) (l1 : Int32) : Option (Int32 × Hp) :=
  cP (f_Fa_isWithin G l1 (0 : Int32) (6 : Int32)) fun x1 =>
  if x1 = 0 then
    vH G 9 l0 (f_Fa_bad G l0 (-2 : Int32)) fun x2 G3 =>
    f_Fa_count_b24  G3 x2
  else
    vP G 9 l0 (f_Fa_howMany G l0 l1) fun x4 =>
    f_Fa_count_b24  G x4
def f_Fa_digest_b81_k (G : Hp) (k81 : Nat → Int64 → Int32 → Option Int64) (l0 : Nat) (l1 : Int64) (l3 : Int32) : Option Int64 :=
  if (4 : Int32) ≤ l3 then
    gR G 9 9 l0 fun x1 =>
    gL G 2 0 x1 fun x2 =>
    lt (((31 : Int64) * l1) + x2) fun x3 =>
    gR G 9 9 l0 fun x4 =>
    gL G 2 1 x4 fun x5 =>
    some (((31 : Int64) * x3) + x5)
  else
    gR G 9 3 l0 fun x6 =>
    vP G 6 x6 (f_St_rateNow G x6 l3) fun x7 =>
    lt (((31 : Int64) * l1) + x7.toInt64) fun x8 =>
    k81 l0 x8 (l3 + 1)
def f_Fa_digest_b81 (G : Hp) : Nat → Nat → Int64 → Int32 → Option Int64
  | 0, _, _, _ => none
  | nn + 1, l0, l1, l3 => f_Fa_digest_b81_k G (f_Fa_digest_b81 G nn) l0 l1 l3
def f_Fa_digest_b6_k (G : Hp) (k6 : Nat → Int64 → Int32 → Option Int64) (l0 : Nat) (l1 : Int64) (l3 : Int32) : Option Int64 :=
  if (6 : Int32) < l3 then
    gR G 9 3 l0 fun x1 =>
    gR G 6 0 x1 fun x2 =>
    vP G 7 x2 (f_Ta_mixedInto G x2 l1) fun x3 =>
    gR G 9 3 l0 fun x4 =>
    gR G 6 1 x4 fun x5 =>
    vP G 7 x5 (f_Ta_mixedInto G x5 x3) fun x6 =>
    gR G 9 3 l0 fun x7 =>
    gR G 6 2 x7 fun x8 =>
    vP G 7 x8 (f_Ta_mixedInto G x8 x6) fun x9 =>
    gR G 9 3 l0 fun x10 =>
    gR G 6 3 x10 fun x11 =>
    vP G 7 x11 (f_Ta_mixedInto G x11 x9) fun x12 =>
    f_Fa_digest_b81 G  FU l0 x12 (0 : Int32)
  else
    vP G 9 l0 (f_Fa_howMany G l0 l3) fun x13 =>
    lt (((31 : Int64) * l1) + x13.toInt64) fun x14 =>
    k6 l0 x14 (l3 + 1)
def f_Fa_digest_b6 (G : Hp) : Nat → Nat → Int64 → Int32 → Option Int64
  | 0, _, _, _ => none
  | nn + 1, l0, l1, l3 => f_Fa_digest_b6_k G (f_Fa_digest_b6 G nn) l0 l1 l3
def f_Fa_digest (G : Hp) (l0 : Nat) : Option Int64 :=
  f_Fa_digest_b6 G  FU l0 (683 : Int64) (0 : Int32)
def f_Mo_begin_b10_k (k10 : Hp → Nat → Int32 → Option Hp) (G : Hp) (l0 : Nat) (l2 : Int32) : Option Hp :=
  if (6 : Int32) ≤ l2 then
    sI G 11 l0 (158 : Int32) (0 : Int32) fun G1 =>
    sI G1 11 l0 (159 : Int32) (0 : Int32) fun G2 =>
    sI G2 11 l0 (160 : Int32) (0 : Int32) fun G3 =>
    some G3
  else
    sI G 11 l0 ((2 : Int32) + l2) (20 : Int32) fun G4 =>
    sI G4 11 l0 ((8 : Int32) + l2) (0 : Int32) fun G5 =>
    k10 G5 l0 (l2 + 1)
def f_Mo_begin_b10 : Nat → Hp → Nat → Int32 → Option Hp
  | 0, _, _, _ => none
  | nn + 1, G, l0, l2 => f_Mo_begin_b10_k (f_Mo_begin_b10 nn) G l0 l2
def f_Mo_begin (G : Hp) (l0 : Nat) (l1 : Int32) : Option Hp :=
  sI G 11 l0 (0 : Int32) (0 : Int32) fun G1 =>
  sI G1 11 l0 (1 : Int32) l1 fun G2 =>
  f_Mo_begin_b10  FU G2 l0 (0 : Int32)
def f_Mo_init_b122_k (k122 : Hp → Nat → Int32 → Option Hp) (G : Hp) (l0 : Nat) (l1 : Int32) : Option Hp :=
  if (4 : Int32) ≤ l1 then
    gR G 10 0 l0 fun x1 =>
    cP (f_Mo_begin G x1 (4 : Int32)) fun G2 =>
    some G2
  else
    gR G 10 0 l0 fun x3 =>
    sI G 11 x3 ((154 : Int32) + l1) (10 : Int32) fun G4 =>
    k122 G4 l0 (l1 + 1)
def f_Mo_init_b122 : Nat → Hp → Nat → Int32 → Option Hp
  | 0, _, _, _ => none
  | nn + 1, G, l0, l1 => f_Mo_init_b122_k (f_Mo_init_b122 nn) G l0 l1
def f_Mo_init (G : Hp) (l0 : Nat) : Option Hp :=
  nA G 11 (484 : Int32) fun a2 G1 =>
  pR G1 10 0 l0 a2 fun G3 =>
  nA G3 11 (968 : Int32) fun a5 G4 =>
  pR G4 10 1 l0 a5 fun G6 =>
  nA G6 12 (2 : Int32) fun a8 G7 =>
  pR G7 10 2 l0 a8 fun G9 =>
  nA G9 11 (3 : Int32) fun a11 G10 =>
  pR G10 10 3 l0 a11 fun G12 =>
  pL G12 10 5 l0 (1 : Int64) fun G13 =>
  nA G13 11 (6 : Int32) fun a15 G14 =>
  pR G14 10 6 l0 a15 fun G16 =>
  nA G16 11 (64 : Int32) fun a18 G17 =>
  pR G17 10 8 l0 a18 fun G19 =>
  nA G19 11 (64 : Int32) fun a21 G20 =>
  pR G20 10 9 l0 a21 fun G22 =>
  nA G22 11 (5 : Int32) fun a24 G23 =>
  pR G23 10 10 l0 a24 fun G25 =>
  nA G25 11 (5 : Int32) fun a27 G26 =>
  pR G26 10 11 l0 a27 fun G28 =>
  nA G28 11 (4 : Int32) fun a30 G29 =>
  pR G29 10 14 l0 a30 fun G31 =>
  nA G31 11 (12 : Int32) fun a33 G32 =>
  pR G32 10 15 l0 a33 fun G34 =>
  nA G34 11 (250 : Int32) fun a36 G35 =>
  pR G35 10 16 l0 a36 fun G37 =>
  nA G37 11 (161 : Int32) fun a39 G38 =>
  pR G38 10 22 l0 a39 fun G40 =>
  nA G40 11 (6 : Int32) fun a42 G41 =>
  pR G41 10 23 l0 a42 fun G43 =>
  f_Mo_init_b122  FU G43 l0 (0 : Int32)
def f_Mo_in_b18 (G : Hp) (s0 : Int32) : Option Int32 :=
  zR s0 <|
  some s0
def f_Mo_in_b17 (G : Hp) : Option Int32 :=
  f_Mo_in_b18 G  (0 : Int32)
def f_Mo_in (G : Hp) (l0 : Int64) (l2 : Int64) (l4 : Int64) : Option Int32 :=
  if (lg_cmp l0 l2) < 0 then
    f_Mo_in_b17 G  
  else
    if 0 < (lg_cmp l0 l4) then
      f_Mo_in_b17 G  
    else
      f_Mo_in_b18 G  (1 : Int32)
def f_Mo_bad (G : Hp) (l0 : Nat) (l1 : Int32) : Option (Int32 × Hp) :=
  gR G 10 3 l0 fun x1 =>
  aI G 11 x1 (0 : Int32) fun x2 =>
  sI G 11 x1 (0 : Int32) (x2 + (1 : Int32)) fun G3 =>
  some (l1, G3)
def f_Mo_no (G : Hp) (l0 : Nat) (l1 : Int32) : Option (Int32 × Hp) :=
  gR G 10 3 l0 fun x1 =>
  aI G 11 x1 (1 : Int32) fun x2 =>
  sI G 11 x1 (1 : Int32) (x2 + (1 : Int32)) fun G3 =>
  some (l1, G3)
def f_Mo_full (G : Hp) (l0 : Nat) : Option (Int32 × Hp) :=
  gR G 10 3 l0 fun x1 =>
  aI G 11 x1 (2 : Int32) fun x2 =>
  sI G 11 x1 (2 : Int32) (x2 + (1 : Int32)) fun G3 =>
  some ((-4 : Int32), G3)
def f_Mo_tells_b6_k (k6 : Hp → Nat → Int64 → Int64 → Int64 → Int64 → Option (Int32 × Hp)) (G : Hp) (l0 : Nat) (l1 : Int64) (l3 : Int64) (l5 : Int64) (l7 : Int64) : Option (Int32 × Hp) :=
  if (lg_cmp l7 (0 : Int64)) = 0 then
    dL l5 <|
    pL G 10 4 l0 (l1 / l5) fun G1 =>
    dL l5 <|
    pL G1 10 5 l0 (l3 / l5) fun G2 =>
    some ((1 : Int32), G2)
  else
    dL l7 <|
    lt (l5 - l5 / l7 * l7) fun x3 =>
    k6 G l0 l1 l3 l7 x3
def f_Mo_tells_b6 : Nat → Hp → Nat → Int64 → Int64 → Int64 → Int64 → Option (Int32 × Hp)
  | 0, _, _, _, _, _, _ => none
  | nn + 1, G, l0, l1, l3, l5, l7 => f_Mo_tells_b6_k (f_Mo_tells_b6 nn) G l0 l1 l3 l5 l7
def f_Mo_tells (G : Hp) (l0 : Nat) (l1 : Int64) (l3 : Int64) : Option (Int32 × Hp) :=
  f_Mo_tells_b6  FU G l0 l1 l3 l1 l3
def f_Mo_day (G : Hp) (l0 : Nat) : Option Int32 :=
  gR G 10 0 l0 fun x1 =>
  aI G 11 x1 (0 : Int32) fun x2 =>
  some x2
def f_Mo_many (G : Hp) (l0 : Nat) : Option Int32 :=
  gR G 10 0 l0 fun x1 =>
  aI G 11 x1 (1 : Int32) fun x2 =>
  some x2
def f_Mo_isOne (G : Hp) (l0 : Nat) (l1 : Int32) : Option Int32 :=
  vP G 10 l0 (f_Mo_many G l0) fun x1 =>
  cP (f_Mo_in G l1.toInt64 (0 : Int64) ((x1 - (1 : Int32)).toInt64)) fun x2 =>
  zR x2 <|
  some x2
def f_Mo_isDay (G : Hp) (l0 : Int32) : Option Int32 :=
  cP (f_Mo_in G l0.toInt64 (0 : Int64) (99 : Int64)) fun x1 =>
  zR x1 <|
  some x1
def f_Mo_isThing (G : Hp) (l0 : Int32) : Option Int32 :=
  cP (f_Mo_in G l0.toInt64 (0 : Int64) (3 : Int64)) fun x1 =>
  zR x1 <|
  some x1
def f_Mo_isFavour (G : Hp) (l0 : Nat) (l1 : Int32) : Option Int32 :=
  gR G 10 0 l0 fun x1 =>
  aI G 11 x1 (158 : Int32) fun x2 =>
  cP (f_Mo_in G l1.toInt64 (0 : Int64) ((x2 - (1 : Int32)).toInt64)) fun x3 =>
  zR x3 <|
  some x3
def f_Mo_told0 (G : Hp) (l0 : Nat) (l1 : Int32) (l2 : Int32) : Option Int32 :=
  gR G 10 0 l0 fun x1 =>
  aI G 11 x1 (((14 : Int32) + ((7 : Int32) * l1)) + l2) fun x2 =>
  some x2
def f_Mo_people (G : Hp) (l0 : Nat) (l1 : Int32) : Option (Int32 × Hp) :=
  cP (f_Mo_in G l1.toInt64 (2 : Int64) (6 : Int64)) fun x1 =>
  if x1 = 0 then
    vH G 10 l0 (f_Mo_bad G l0 (-2 : Int32)) fun x7 G8 =>
    some (x7, G8)
  else
    vP G 10 l0 (f_Mo_many G l0) fun x2 =>
    gR G 10 0 l0 fun x3 =>
    cP (f_Mo_begin G x3 l1) fun G4 =>
    gR G4 10 0 l0 fun x5 =>
    sI G4 11 x5 (161 : Int32) (0 : Int32) fun G6 =>
    some (x2, G6)
def f_Mo_strong_b20 (G : Hp) (l0 : Nat) : Option (Int32 × Hp) :=
  vH G 10 l0 (f_Mo_bad G l0 (-2 : Int32)) fun x1 G2 =>
  some (x1, G2)
def f_Mo_strong (G : Hp) (l0 : Nat) (l1 : Int32) (l2 : Int32) : Option (Int32 × Hp) :=
  vP G 10 l0 (f_Mo_isOne G l0 l1) fun x1 =>
  if x1 = 0 then
    f_Mo_strong_b20  G l0
  else
    cP (f_Mo_in G l2.toInt64 (0 : Int64) (99 : Int64)) fun x2 =>
    if x2 = 0 then
      f_Mo_strong_b20  G l0
    else
      gR G 10 0 l0 fun x3 =>
      aI G 11 x3 ((2 : Int32) + l1) fun x4 =>
      gR G 10 0 l0 fun x5 =>
      sI G 11 x5 ((2 : Int32) + l1) l2 fun G6 =>
      some (x4, G6)
def f_Mo_layFavour (G : Hp) (l0 : Nat) (l1 : Int32) (l2 : Int32) (l3 : Int32) (l4 : Int32) (l5 : Int32) (l6 : Int32) (l7 : Int32) (l8 : Int32) : Option Hp :=
  lt ((14 : Int32) + ((7 : Int32) * l1)) fun x1 =>
  sI G 11 l0 (x1 + (0 : Int32)) l2 fun G2 =>
  sI G2 11 l0 (x1 + (1 : Int32)) l3 fun G3 =>
  sI G3 11 l0 (x1 + (2 : Int32)) l4 fun G4 =>
  sI G4 11 l0 (x1 + (3 : Int32)) l5 fun G5 =>
  sI G5 11 l0 (x1 + (4 : Int32)) l6 fun G6 =>
  sI G6 11 l0 (x1 + (5 : Int32)) l7 fun G7 =>
  sI G7 11 l0 (x1 + (6 : Int32)) l8 fun G8 =>
  some G8
def f_Mo_favour_b62 (G : Hp) (l0 : Nat) : Option (Int32 × Hp) :=
  vH G 10 l0 (f_Mo_bad G l0 (-2 : Int32)) fun x1 G2 =>
  some (x1, G2)
def f_Mo_favour (G : Hp) (l0 : Nat) (l1 : Int32) (l2 : Int32) (l3 : Int32) (l4 : Int32) (l5 : Int32) (l6 : Int32) : Option (Int32 × Hp) :=
  cP (f_Mo_in G l1.toInt64 (0 : Int64) (4 : Int64)) fun x1 =>
  if x1 = 0 then
    f_Mo_favour_b62  G l0
  else
    vP G 10 l0 (f_Mo_isOne G l0 l2) fun x2 =>
    if x2 = 0 then
      f_Mo_favour_b62  G l0
    else
      vP G 10 l0 (f_Mo_isOne G l0 l3) fun x3 =>
      if x3 = 0 then
        f_Mo_favour_b62  G l0
      else
        if l2 = l3 then
          f_Mo_favour_b62  G l0
        else
          cP (f_Mo_isThing G l4) fun x4 =>
          if x4 = 0 then
            f_Mo_favour_b62  G l0
          else
            cP (f_Mo_in G l5.toInt64 (1 : Int64) (40 : Int64)) fun x5 =>
            if x5 = 0 then
              f_Mo_favour_b62  G l0
            else
              cP (f_Mo_isDay G l6) fun x6 =>
              if x6 = 0 then
                f_Mo_favour_b62  G l0
              else
                gR G 10 0 l0 fun x7 =>
                aI G 11 x7 (158 : Int32) fun x8 =>
                if x8 = (12 : Int32) then
                  vH G 10 l0 (f_Mo_full G l0) fun x15 G16 =>
                  some (x15, G16)
                else
                  gR G 10 0 l0 fun x9 =>
                  vP G 10 l0 (f_Mo_day G l0) fun x10 =>
                  cP (f_Mo_layFavour G x9 x8 l1 l2 l3 l4 l5 l6 x10) fun G11 =>
                  gR G11 10 0 l0 fun x12 =>
                  aI G11 11 x12 (158 : Int32) fun x13 =>
                  sI G11 11 x12 (158 : Int32) (x13 + (1 : Int32)) fun G14 =>
                  some (x8, G14)
def f_Mo_layNeed (G : Hp) (l0 : Nat) (l1 : Int32) (l2 : Int32) (l3 : Int32) (l4 : Int32) (l5 : Int32) : Option Hp :=
  sI G 11 l0 ((98 : Int32) + ((4 : Int32) * l1)) l2 fun G1 =>
  sI G1 11 l0 (((98 : Int32) + ((4 : Int32) * l1)) + (1 : Int32)) l3 fun G2 =>
  sI G2 11 l0 (((98 : Int32) + ((4 : Int32) * l1)) + (2 : Int32)) l4 fun G3 =>
  sI G3 11 l0 (((98 : Int32) + ((4 : Int32) * l1)) + (3 : Int32)) l5 fun G4 =>
  some G4
def f_Mo_need_b44 (G : Hp) (l0 : Nat) : Option (Int32 × Hp) :=
  vH G 10 l0 (f_Mo_bad G l0 (-2 : Int32)) fun x1 G2 =>
  some (x1, G2)
def f_Mo_need (G : Hp) (l0 : Nat) (l1 : Int32) (l2 : Int32) (l3 : Int32) (l4 : Int32) : Option (Int32 × Hp) :=
  vP G 10 l0 (f_Mo_isOne G l0 l1) fun x1 =>
  if x1 = 0 then
    f_Mo_need_b44  G l0
  else
    cP (f_Mo_isThing G l2) fun x2 =>
    if x2 = 0 then
      f_Mo_need_b44  G l0
    else
      cP (f_Mo_in G l3.toInt64 (1 : Int64) (40 : Int64)) fun x3 =>
      if x3 = 0 then
        f_Mo_need_b44  G l0
      else
        vP G 10 l0 (f_Mo_day G l0) fun x4 =>
        cP (f_Mo_in G l4.toInt64 x4.toInt64 (99 : Int64)) fun x5 =>
        if x5 = 0 then
          f_Mo_need_b44  G l0
        else
          gR G 10 0 l0 fun x6 =>
          aI G 11 x6 (159 : Int32) fun x7 =>
          if x7 = (5 : Int32) then
            vH G 10 l0 (f_Mo_full G l0) fun x13 G14 =>
            some (x13, G14)
          else
            gR G 10 0 l0 fun x8 =>
            cP (f_Mo_layNeed G x8 x7 l1 l2 l3 l4) fun G9 =>
            gR G9 10 0 l0 fun x10 =>
            aI G9 11 x10 (159 : Int32) fun x11 =>
            sI G9 11 x10 (159 : Int32) (x11 + (1 : Int32)) fun G12 =>
            some (x7, G12)
def f_Mo_contented (G : Hp) (l0 : Nat) : Option (Int32 × Hp) :=
  gR G 10 0 l0 fun x1 =>
  aI G 11 x1 (159 : Int32) fun x2 =>
  gR G 10 0 l0 fun x3 =>
  sI G 11 x3 (159 : Int32) (0 : Int32) fun G4 =>
  some (x2, G4)
def f_Mo_notBelow0_b9 (G : Hp) (s0 : Int32) : Option Int32 :=
  some s0
def f_Mo_notBelow0 (G : Hp) (l0 : Int32) : Option Int32 :=
  if 0 ≤ l0 then
    f_Mo_notBelow0_b9 G  l0
  else
    f_Mo_notBelow0_b9 G  (0 : Int32)
def f_Mo_valueOf_b120 (G : Hp) (s0 : Int32) : Option Int32 :=
  some s0
def f_Mo_valueOf_b132 (G : Hp) (s0 : Int32) : Option Int32 :=
  some s0
def f_Mo_valueOf_b38 (G : Hp) (l0 : Nat) (l1 : Int32) (l2 : Int32) (l3 : Int32) (l4 : Int32) (s0 : Int32) : Option Int32 :=
  vP G 10 l0 (f_Mo_told0 G l0 l1 (6 : Int32)) fun x1 =>
  cP (f_Mo_notBelow0 G (l2 - x1)) fun x2 =>
  vP G 10 l0 (f_Mo_told0 G l0 l1 (0 : Int32)) fun x3 =>
  if x3 = 1 then
    cP (f_Mo_notBelow0 G (s0 - x2)) fun x4 =>
    some x4
  else
    if x3 = 2 then
      if l2 ≤ l4 then
        f_Mo_valueOf_b120 G  l3
      else
        dI (10 : Int32) <|
        f_Mo_valueOf_b120 G  (l3 + ((l2 - l4) / (10 : Int32)))
    else
      if x3 = 3 then
        if l4 ≤ l2 then
          f_Mo_valueOf_b132 G  l3
        else
          f_Mo_valueOf_b132 G  (0 : Int32)
      else
        if x3 = 4 then
          cP (f_Mo_notBelow0 G (s0 - ((2 : Int32) * x2))) fun x5 =>
          some x5
        else
          some s0
def f_Mo_valueOf (G : Hp) (l0 : Nat) (l1 : Int32) (l2 : Int32) : Option Int32 :=
  vP G 10 l0 (f_Mo_told0 G l0 l1 (2 : Int32)) fun x1 =>
  if x1 = (-1 : Int32) then
    some (0 : Int32)
  else
    vP G 10 l0 (f_Mo_told0 G l0 l1 (4 : Int32)) fun x2 =>
    vP G 10 l0 (f_Mo_told0 G l0 l1 (5 : Int32)) fun x3 =>
    if x3 < l2 then
      f_Mo_valueOf_b38 G  l0 l1 l2 x2 x3 (0 : Int32)
    else
      f_Mo_valueOf_b38 G  l0 l1 l2 x2 x3 x2
def f_Mo_valueNow (G : Hp) (l0 : Nat) (l1 : Int32) : Option Int32 :=
  vP G 10 l0 (f_Mo_day G l0) fun x1 =>
  vP G 10 l0 (f_Mo_valueOf G l0 l1 x1) fun x2 =>
  some x2
def f_Mo_value_b30 (G : Hp) (s0 : Int32) : Option (Int32 × Hp) :=
  some (s0, G)
def f_Mo_value_b24 (G : Hp) (l0 : Nat) : Option (Int32 × Hp) :=
  vH G 10 l0 (f_Mo_bad G l0 (-2 : Int32)) fun x1 G2 =>
  f_Mo_value_b30  G2 x1
def f_Mo_value (G : Hp) (l0 : Nat) (l1 : Int32) (l2 : Int32) : Option (Int32 × Hp) :=
  vP G 10 l0 (f_Mo_isFavour G l0 l1) fun x1 =>
  if x1 = 0 then
    f_Mo_value_b24  G l0
  else
    cP (f_Mo_isDay G l2) fun x2 =>
    if x2 = 0 then
      f_Mo_value_b24  G l0
    else
      vP G 10 l0 (f_Mo_valueOf G l0 l1 l2) fun x3 =>
      f_Mo_value_b30  G x3
def f_Mo_of_b23 (G : Hp) (s0 : Int32) : Option (Int32 × Hp) :=
  some (s0, G)
def f_Mo_of (G : Hp) (l0 : Nat) (l1 : Int32) : Option (Int32 × Hp) :=
  vP G 10 l0 (f_Mo_isFavour G l0 l1) fun x1 =>
  if x1 = 0 then
    vH G 10 l0 (f_Mo_bad G l0 (-2 : Int32)) fun x2 G3 =>
    f_Mo_of_b23  G3 x2
  else
    vP G 10 l0 (f_Mo_told0 G l0 l1 (2 : Int32)) fun x4 =>
    f_Mo_of_b23  G x4
def f_Mo_lose (G : Hp) (l0 : Nat) (l1 : Int32) : Option Hp :=
  gR G 10 0 l0 fun x1 =>
  sI G 11 x1 (((14 : Int32) + ((7 : Int32) * l1)) + (2 : Int32)) (-1 : Int32) fun G2 =>
  some G2
def f_Mo_pass_b26 (G : Hp) (l0 : Nat) : Option (Int32 × Hp) :=
  vH G 10 l0 (f_Mo_bad G l0 (-10 : Int32)) fun x1 G2 =>
  some (x1, G2)
def f_Mo_pass_b51 (G : Hp) (l0 : Nat) : Option (Int32 × Hp) :=
  vH G 10 l0 (f_Mo_no G l0 (-20 : Int32)) fun x1 G2 =>
  some (x1, G2)
def f_Mo_pass (G : Hp) (l0 : Nat) (l1 : Int32) (l2 : Int32) : Option (Int32 × Hp) :=
  vP G 10 l0 (f_Mo_isFavour G l0 l1) fun x1 =>
  if x1 = 0 then
    f_Mo_pass_b26  G l0
  else
    vP G 10 l0 (f_Mo_isOne G l0 l2) fun x2 =>
    if x2 = 0 then
      f_Mo_pass_b26  G l0
    else
      vP G 10 l0 (f_Mo_told0 G l0 l1 (2 : Int32)) fun x3 =>
      if x3 = l2 then
        f_Mo_pass_b26  G l0
      else
        vP G 10 l0 (f_Mo_valueNow G l0 l1) fun x4 =>
        if x4 = 0 then
          f_Mo_pass_b51  G l0
        else
          vP G 10 l0 (f_Mo_told0 G l0 l1 (0 : Int32)) fun x5 =>
          if x5 = (2 : Int32) then
            f_Mo_pass_b51  G l0
          else
            vP G 10 l0 (f_Mo_told0 G l0 l1 (1 : Int32)) fun x6 =>
            if x6 = l2 then
              vP G 10 l0 (f_Mo_lose G l0 l1) fun G9 =>
              some ((0 : Int32), G9)
            else
              gR G 10 0 l0 fun x7 =>
              sI G 11 x7 (((14 : Int32) + ((7 : Int32) * l1)) + (2 : Int32)) l2 fun G8 =>
              some ((1 : Int32), G8)
def f_Mo_join_b21 (G : Hp) (l0 : Nat) : Option (Int32 × Hp) :=
  vH G 10 l0 (f_Mo_bad G l0 (-2 : Int32)) fun x1 G2 =>
  some (x1, G2)
def f_Mo_join_b99 (G : Hp) (l0 : Nat) : Option (Int32 × Hp) :=
  vH G 10 l0 (f_Mo_no G l0 (-3 : Int32)) fun x1 G2 =>
  some (x1, G2)
def f_Mo_join_b200 (G : Hp) (l0 : Nat) (l2 : Int32) (l4 : Int32) (s0 : Nat) (s1 : Int32) (s2 : Int32) : Option (Int32 × Hp) :=
  sI G 11 s0 s1 s2 fun G1 =>
  vP G1 10 l0 (f_Mo_lose G1 l0 l2) fun G2 =>
  gR G2 10 0 l0 fun x3 =>
  aI G2 11 x3 (l4 + (4 : Int32)) fun x4 =>
  some (x4, G2)
def f_Mo_join_b155 (G : Hp) (l0 : Nat) (l2 : Int32) (l4 : Int32) (s0 : Nat) (s1 : Int32) (s2 : Int32) : Option (Int32 × Hp) :=
  sI G 11 s0 s1 s2 fun G1 =>
  gR G1 10 0 l0 fun x2 =>
  vP G1 10 l0 (f_Mo_told0 G1 l0 l2 (5 : Int32)) fun x3 =>
  gR G1 10 0 l0 fun x4 =>
  aI G1 11 x4 (l4 + (5 : Int32)) fun x5 =>
  if x5 ≤ x3 then
    gR G1 10 0 l0 fun x6 =>
    aI G1 11 x6 (l4 + (5 : Int32)) fun x7 =>
    f_Mo_join_b200  G1 l0 l2 l4 x2 (l4 + (5 : Int32)) x7
  else
    vP G1 10 l0 (f_Mo_told0 G1 l0 l2 (5 : Int32)) fun x8 =>
    f_Mo_join_b200  G1 l0 l2 l4 x2 (l4 + (5 : Int32)) x8
def f_Mo_join_b78 (G : Hp) (l0 : Nat) (l1 : Int32) (l2 : Int32) (s0 : Int32) : Option (Int32 × Hp) :=
  if s0 = 0 then
    f_Mo_join_b99  G l0
  else
    vP G 10 l0 (f_Mo_valueNow G l0 l1) fun x1 =>
    if x1 = 0 then
      f_Mo_join_b99  G l0
    else
      vP G 10 l0 (f_Mo_valueNow G l0 l2) fun x2 =>
      if x2 = 0 then
        f_Mo_join_b99  G l0
      else
        lt ((14 : Int32) + ((7 : Int32) * l1)) fun x3 =>
        gR G 10 0 l0 fun x4 =>
        aI G 11 x4 (x3 + (4 : Int32)) fun x5 =>
        vP G 10 l0 (f_Mo_told0 G l0 l2 (4 : Int32)) fun x6 =>
        lt (x5 + x6) fun x7 =>
        gR G 10 0 l0 fun x8 =>
        if x7 ≤ (40 : Int32) then
          f_Mo_join_b155  G l0 l2 x3 x8 (x3 + (4 : Int32)) x7
        else
          f_Mo_join_b155  G l0 l2 x3 x8 (x3 + (4 : Int32)) (40 : Int32)
def f_Mo_join_b77 (G : Hp) (l0 : Nat) (l1 : Int32) (l2 : Int32) : Option (Int32 × Hp) :=
  f_Mo_join_b78  G l0 l1 l2 (0 : Int32)
def f_Mo_join (G : Hp) (l0 : Nat) (l1 : Int32) (l2 : Int32) : Option (Int32 × Hp) :=
  vP G 10 l0 (f_Mo_isFavour G l0 l1) fun x1 =>
  if x1 = 0 then
    f_Mo_join_b21  G l0
  else
    vP G 10 l0 (f_Mo_isFavour G l0 l2) fun x2 =>
    if x2 = 0 then
      f_Mo_join_b21  G l0
    else
      if l1 = l2 then
        f_Mo_join_b21  G l0
      else
        vP G 10 l0 (f_Mo_told0 G l0 l1 (1 : Int32)) fun x3 =>
        vP G 10 l0 (f_Mo_told0 G l0 l2 (1 : Int32)) fun x4 =>
        if x3 = x4 then
          vP G 10 l0 (f_Mo_told0 G l0 l1 (2 : Int32)) fun x5 =>
          vP G 10 l0 (f_Mo_told0 G l0 l2 (2 : Int32)) fun x6 =>
          if x5 = x6 then
            vP G 10 l0 (f_Mo_told0 G l0 l1 (3 : Int32)) fun x7 =>
            vP G 10 l0 (f_Mo_told0 G l0 l2 (3 : Int32)) fun x8 =>
            if x7 = x8 then
              f_Mo_join_b78  G l0 l1 l2 (1 : Int32)
            else
              f_Mo_join_b77  G l0 l1 l2
          else
            f_Mo_join_b77  G l0 l1 l2
        else
          f_Mo_join_b77  G l0 l1 l2
def f_Mo_ask_b54 (G : Hp) (l0 : Nat) : Option (Int32 × Hp) :=
  vH G 10 l0 (f_Mo_no G l0 (-3 : Int32)) fun x1 G2 =>
  some (x1, G2)
def f_Mo_ask (G : Hp) (l0 : Nat) (l1 : Int32) : Option (Int32 × Hp) :=
  vP G 10 l0 (f_Mo_isFavour G l0 l1) fun x1 =>
  if x1 = 0 then
    vH G 10 l0 (f_Mo_bad G l0 (-2 : Int32)) fun x12 G13 =>
    some (x12, G13)
  else
    vP G 10 l0 (f_Mo_valueNow G l0 l1) fun x2 =>
    vP G 10 l0 (f_Mo_told0 G l0 l1 (1 : Int32)) fun x3 =>
    if x2 = 0 then
      f_Mo_ask_b54  G l0
    else
      gR G 10 0 l0 fun x4 =>
      aI G 11 x4 ((8 : Int32) + x3) fun x5 =>
      gR G 10 0 l0 fun x6 =>
      aI G 11 x6 ((2 : Int32) + x3) fun x7 =>
      if (x5 + x2) ≤ x7 then
        gR G 10 0 l0 fun x8 =>
        aI G 11 x8 ((8 : Int32) + x3) fun x9 =>
        sI G 11 x8 ((8 : Int32) + x3) (x9 + x2) fun G10 =>
        vP G10 10 l0 (f_Mo_lose G10 l0 l1) fun G11 =>
        some (x2, G11)
      else
        f_Mo_ask_b54  G l0
def f_Mo_night_b140_k (k140 : Hp → Nat → Int32 → Option (Int32 × Hp)) (G : Hp) (l0 : Nat) (l1 : Int32) : Option (Int32 × Hp) :=
  if (6 : Int32) ≤ l1 then
    vP G 10 l0 (f_Mo_day G l0) fun x1 =>
    some (x1, G)
  else
    gR G 10 0 l0 fun x2 =>
    sI G 11 x2 ((8 : Int32) + l1) (0 : Int32) fun G3 =>
    k140 G3 l0 (l1 + 1)
def f_Mo_night_b140 : Nat → Hp → Nat → Int32 → Option (Int32 × Hp)
  | 0, _, _, _ => none
  | nn + 1, G, l0, l1 => f_Mo_night_b140_k (f_Mo_night_b140 nn) G l0 l1
def f_Mo_night_b74_k (k74 : Hp → Nat → Int32 → Option (Int32 × Hp)) (G : Hp) (l0 : Nat) (l1 : Int32) : Option (Int32 × Hp) :=
  if (161 : Int32) ≤ l1 then
    gR G 10 0 l0 fun x1 =>
    aI G 11 x1 (161 : Int32) fun x2 =>
    sI G 11 x1 (161 : Int32) (x2 + (1 : Int32)) fun G3 =>
    gR G3 10 0 l0 fun x4 =>
    aI G3 11 x4 (0 : Int32) fun x5 =>
    sI G3 11 x4 (0 : Int32) (x5 + (1 : Int32)) fun G6 =>
    f_Mo_night_b140  FU G6 l0 (0 : Int32)
  else
    gR G 10 0 l0 fun x7 =>
    gR G 10 0 l0 fun x8 =>
    aI G 11 x8 (161 : Int32) fun x9 =>
    gR G 10 0 l0 fun x10 =>
    aI G 11 x10 l1 fun x11 =>
    sI G 11 x7 (((162 : Int32) + ((161 : Int32) * x9)) + l1) x11 fun G12 =>
    k74 G12 l0 (l1 + 1)
def f_Mo_night_b74 : Nat → Hp → Nat → Int32 → Option (Int32 × Hp)
  | 0, _, _, _ => none
  | nn + 1, G, l0, l1 => f_Mo_night_b74_k (f_Mo_night_b74 nn) G l0 l1
def f_Mo_night_b72 (G : Hp) (l0 : Nat) : Option (Int32 × Hp) :=
  f_Mo_night_b74  FU G l0 (0 : Int32)
def f_Mo_night_b30_k (k30 : Hp → Nat → Int32 → Option (Int32 × Hp)) (G : Hp) (l0 : Nat) (l1 : Int32) : Option (Int32 × Hp) :=
  if (161 : Int32) ≤ l1 then
    gR G 10 0 l0 fun x1 =>
    sI G 11 x1 (161 : Int32) (1 : Int32) fun G2 =>
    f_Mo_night_b72  G2 l0
  else
    gR G 10 0 l0 fun x3 =>
    gR G 10 0 l0 fun x4 =>
    aI G 11 x4 ((323 : Int32) + l1) fun x5 =>
    sI G 11 x3 ((162 : Int32) + l1) x5 fun G6 =>
    k30 G6 l0 (l1 + 1)
def f_Mo_night_b30 : Nat → Hp → Nat → Int32 → Option (Int32 × Hp)
  | 0, _, _, _ => none
  | nn + 1, G, l0, l1 => f_Mo_night_b30_k (f_Mo_night_b30 nn) G l0 l1
def f_Mo_night (G : Hp) (l0 : Nat) : Option (Int32 × Hp) :=
  vP G 10 l0 (f_Mo_day G l0) fun x1 =>
  if x1 = (99 : Int32) then
    vH G 10 l0 (f_Mo_no G l0 (-3 : Int32)) fun x4 G5 =>
    some (x4, G5)
  else
    gR G 10 0 l0 fun x2 =>
    aI G 11 x2 (161 : Int32) fun x3 =>
    if x3 = (2 : Int32) then
      f_Mo_night_b30  FU G l0 (0 : Int32)
    else
      f_Mo_night_b72  G l0
def f_Mo_undo_b32_k (k32 : Hp → Nat → Int32 → Option (Int32 × Hp)) (G : Hp) (l0 : Nat) (l1 : Int32) : Option (Int32 × Hp) :=
  if (161 : Int32) ≤ l1 then
    some ((1 : Int32), G)
  else
    gR G 10 0 l0 fun x1 =>
    gR G 10 0 l0 fun x2 =>
    gR G 10 0 l0 fun x3 =>
    aI G 11 x3 (161 : Int32) fun x4 =>
    aI G 11 x2 (((162 : Int32) + ((161 : Int32) * x4)) + l1) fun x5 =>
    sI G 11 x1 l1 x5 fun G6 =>
    k32 G6 l0 (l1 + 1)
def f_Mo_undo_b32 : Nat → Hp → Nat → Int32 → Option (Int32 × Hp)
  | 0, _, _, _ => none
  | nn + 1, G, l0, l1 => f_Mo_undo_b32_k (f_Mo_undo_b32 nn) G l0 l1
def f_Mo_undo (G : Hp) (l0 : Nat) : Option (Int32 × Hp) :=
  gR G 10 0 l0 fun x1 =>
  aI G 11 x1 (161 : Int32) fun x2 =>
  if x2 = 0 then
    vH G 10 l0 (f_Mo_no G l0 (-3 : Int32)) fun x6 G7 =>
    some (x6, G7)
  else
    gR G 10 0 l0 fun x3 =>
    aI G 11 x3 (161 : Int32) fun x4 =>
    sI G 11 x3 (161 : Int32) (x4 - (1 : Int32)) fun G5 =>
    f_Mo_undo_b32  FU G5 l0 (0 : Int32)
def f_Mo_owesTo_b51 (G : Hp) (k5 : Nat → Int32 → Int32 → Int32 → Int32 → Option Int32) (l0 : Nat) (l1 : Int32) (l2 : Int32) (l4 : Int32) (s0 : Int32) (s1 : Int32) : Option Int32 :=
  lt (s0 + s1) fun x1 =>
  k5 l0 l1 l2 x1 (l4 + 1)
def f_Mo_owesTo_b50 (G : Hp) (k5 : Nat → Int32 → Int32 → Int32 → Int32 → Option Int32) (l0 : Nat) (l1 : Int32) (l2 : Int32) (l4 : Int32) (s0 : Int32) : Option Int32 :=
  f_Mo_owesTo_b51 G k5 l0 l1 l2 l4 s0 (0 : Int32)
def f_Mo_owesTo_b5_k (G : Hp) (k5 : Nat → Int32 → Int32 → Int32 → Int32 → Option Int32) (l0 : Nat) (l1 : Int32) (l2 : Int32) (l3 : Int32) (l4 : Int32) : Option Int32 :=
  gR G 10 0 l0 fun x1 =>
  aI G 11 x1 (158 : Int32) fun x2 =>
  if x2 ≤ l4 then
    some l3
  else
    vP G 10 l0 (f_Mo_told0 G l0 l4 (1 : Int32)) fun x3 =>
    if x3 = l1 then
      vP G 10 l0 (f_Mo_told0 G l0 l4 (2 : Int32)) fun x4 =>
      if x4 = l2 then
        vP G 10 l0 (f_Mo_valueNow G l0 l4) fun x5 =>
        f_Mo_owesTo_b51 G k5 l0 l1 l2 l4 l3 x5
      else
        f_Mo_owesTo_b50 G k5 l0 l1 l2 l4 l3
    else
      f_Mo_owesTo_b50 G k5 l0 l1 l2 l4 l3
def f_Mo_owesTo_b5 (G : Hp) : Nat → Nat → Int32 → Int32 → Int32 → Int32 → Option Int32
  | 0, _, _, _, _, _ => none
  | nn + 1, l0, l1, l2, l3, l4 => f_Mo_owesTo_b5_k G (f_Mo_owesTo_b5 G nn) l0 l1 l2 l3 l4
def f_Mo_owesTo (G : Hp) (l0 : Nat) (l1 : Int32) (l2 : Int32) : Option Int32 :=
  f_Mo_owesTo_b5 G  FU l0 l1 l2 (0 : Int32) (0 : Int32)
def f_Mo_owes_b37 (G : Hp) (s0 : Int32) : Option (Int32 × Hp) :=
  some (s0, G)
def f_Mo_owes_b30 (G : Hp) (l0 : Nat) : Option (Int32 × Hp) :=
  vH G 10 l0 (f_Mo_bad G l0 (-1000 : Int32)) fun x1 G2 =>
  f_Mo_owes_b37  G2 x1
def f_Mo_owes (G : Hp) (l0 : Nat) (l1 : Int32) (l2 : Int32) : Option (Int32 × Hp) :=
  vP G 10 l0 (f_Mo_isOne G l0 l1) fun x1 =>
  if x1 = 0 then
    f_Mo_owes_b30  G l0
  else
    vP G 10 l0 (f_Mo_isOne G l0 l2) fun x2 =>
    if x2 = 0 then
      f_Mo_owes_b30  G l0
    else
      if l1 = l2 then
        f_Mo_owes_b30  G l0
      else
        vP G 10 l0 (f_Mo_owesTo G l0 l1 l2) fun x3 =>
        f_Mo_owes_b37  G x3
def f_Mo_layRing_b92 (k44 : Hp → Nat → Int32 → Int32 → Int32 → Option (Int32 × Hp)) (k58 : Hp → Nat → Int32 → Int32 → Int32 → Int32 → Option (Int32 × Hp)) (G : Hp) (l0 : Nat) (l2 : Int32) (l5 : Int32) (l6 : Int32) (s0 : Int32) : Option (Int32 × Hp) :=
  k58 G l0 l2 s0 l5 (l6 + 1)
def f_Mo_layRing_b91 (k44 : Hp → Nat → Int32 → Int32 → Int32 → Option (Int32 × Hp)) (k58 : Hp → Nat → Int32 → Int32 → Int32 → Int32 → Option (Int32 × Hp)) (G : Hp) (l0 : Nat) (l2 : Int32) (l5 : Int32) (l6 : Int32) : Option (Int32 × Hp) :=
  f_Mo_layRing_b92 k44 k58 G l0 l2 l5 l6 (0 : Int32)
def f_Mo_layRing_b151 (k44 : Hp → Nat → Int32 → Int32 → Int32 → Option (Int32 × Hp)) (G : Hp) (l0 : Nat) (l2 : Int32) (l5 : Int32) (s0 : Int32) : Option (Int32 × Hp) :=
  k44 G l0 l2 s0 (l5 + 1)
def f_Mo_layRing_b150 (k44 : Hp → Nat → Int32 → Int32 → Int32 → Option (Int32 × Hp)) (G : Hp) (l0 : Nat) (l2 : Int32) (l5 : Int32) : Option (Int32 × Hp) :=
  f_Mo_layRing_b151 k44 G l0 l2 l5 (0 : Int32)
def f_Mo_layRing_b58_k (k44 : Hp → Nat → Int32 → Int32 → Int32 → Option (Int32 × Hp)) (k58 : Hp → Nat → Int32 → Int32 → Int32 → Int32 → Option (Int32 × Hp)) (G : Hp) (l0 : Nat) (l2 : Int32) (l4 : Int32) (l5 : Int32) (l6 : Int32) : Option (Int32 × Hp) :=
  if l5 ≤ l6 then
    if l4 = 0 then
      f_Mo_layRing_b150 k44 G l0 l2 l5
    else
      gR G 10 6 l0 fun x1 =>
      aI G 11 x1 (0 : Int32) fun x2 =>
      gR G 10 6 l0 fun x3 =>
      aI G 11 x3 l5 fun x4 =>
      if x4 < x2 then
        f_Mo_layRing_b150 k44 G l0 l2 l5
      else
        gR G 10 6 l0 fun x5 =>
        aI G 11 x5 l5 fun x6 =>
        gR G 10 6 l0 fun x7 =>
        dI l2 <|
        aI G 11 x7 ((l5 + (1 : Int32)) - (l5 + (1 : Int32)) / l2 * l2) fun x8 =>
        vP G 10 l0 (f_Mo_owesTo G l0 x6 x8) fun x9 =>
        if x9 ≤ 0 then
          f_Mo_layRing_b150 k44 G l0 l2 l5
        else
          f_Mo_layRing_b151 k44 G l0 l2 l5 (1 : Int32)
  else
    if l4 = 0 then
      f_Mo_layRing_b91 k44 k58 G l0 l2 l5 l6
    else
      gR G 10 6 l0 fun x10 =>
      aI G 11 x10 l6 fun x11 =>
      gR G 10 6 l0 fun x12 =>
      aI G 11 x12 l5 fun x13 =>
      if x11 = x13 then
        f_Mo_layRing_b91 k44 k58 G l0 l2 l5 l6
      else
        f_Mo_layRing_b92 k44 k58 G l0 l2 l5 l6 (1 : Int32)
def f_Mo_layRing_b58 (k44 : Hp → Nat → Int32 → Int32 → Int32 → Option (Int32 × Hp)) : Nat → Hp → Nat → Int32 → Int32 → Int32 → Int32 → Option (Int32 × Hp)
  | 0, _, _, _, _, _, _ => none
  | nn + 1, G, l0, l2, l4, l5, l6 => f_Mo_layRing_b58_k k44 (f_Mo_layRing_b58 k44 nn) G l0 l2 l4 l5 l6
def f_Mo_layRing_b159 (G : Hp) (l4 : Int32) : Option (Int32 × Hp) :=
  zR l4 <|
  some (l4, G)
def f_Mo_layRing_b44_k (k44 : Hp → Nat → Int32 → Int32 → Int32 → Option (Int32 × Hp)) (G : Hp) (l0 : Nat) (l2 : Int32) (l4 : Int32) (l5 : Int32) : Option (Int32 × Hp) :=
  if l2 ≤ l5 then
    f_Mo_layRing_b159  G l4
  else
    if l4 = 0 then
      f_Mo_layRing_b159  G l4
    else
      f_Mo_layRing_b58 k44 FU G l0 l2 l4 l5 (0 : Int32)
def f_Mo_layRing_b44 : Nat → Hp → Nat → Int32 → Int32 → Int32 → Option (Int32 × Hp)
  | 0, _, _, _, _, _ => none
  | nn + 1, G, l0, l2, l4, l5 => f_Mo_layRing_b44_k (f_Mo_layRing_b44 nn) G l0 l2 l4 l5
def f_Mo_layRing_b7_k (k7 : Hp → Nat → Int32 → Int32 → Int32 → Option (Int32 × Hp)) (G : Hp) (l0 : Nat) (l2 : Int32) (l3 : Int32) (l4 : Int32) : Option (Int32 × Hp) :=
  if l4 < 0 then
    f_Mo_layRing_b44  FU G l0 l2 (1 : Int32) (0 : Int32)
  else
    gR G 10 6 l0 fun x1 =>
    vP G 10 l0 (f_Mo_many G l0) fun x2 =>
    dI x2 <|
    sI G 11 x1 l4 (l3 - l3 / x2 * x2) fun G3 =>
    vP G3 10 l0 (f_Mo_many G3 l0) fun x4 =>
    dI x4 <|
    lt (l3 / x4) fun x5 =>
    k7 G3 l0 l2 x5 (l4 + (-1))
def f_Mo_layRing_b7 : Nat → Hp → Nat → Int32 → Int32 → Int32 → Option (Int32 × Hp)
  | 0, _, _, _, _, _ => none
  | nn + 1, G, l0, l2, l3, l4 => f_Mo_layRing_b7_k (f_Mo_layRing_b7 nn) G l0 l2 l3 l4
def f_Mo_layRing (G : Hp) (l0 : Nat) (l1 : Int32) (l2 : Int32) : Option (Int32 × Hp) :=
  lt (l2 - (1 : Int32)) fun x1 =>
  f_Mo_layRing_b7  FU G l0 l2 l1 x1
def f_Mo_findRing_b63 (k12 : Hp → Nat → Int32 → Int32 → Option Hp) (k36 : Hp → Nat → Int32 → Int32 → Int32 → Option Hp) (G : Hp) (l0 : Nat) (l1 : Int32) (l2 : Int32) (l3 : Int32) (s0 : Nat) (s1 : Int32) : Option Hp :=
  pI G 10 7 s0 s1 fun G1 =>
  k36 G1 l0 l1 l2 (l3 + 1)
def f_Mo_findRing_b72 (k12 : Hp → Nat → Int32 → Int32 → Option Hp) (G : Hp) (l0 : Nat) (l1 : Int32) (l2 : Int32) : Option Hp :=
  k12 G l0 l1 (l2 + 1)
def f_Mo_findRing_b36_k (k12 : Hp → Nat → Int32 → Int32 → Option Hp) (k36 : Hp → Nat → Int32 → Int32 → Int32 → Option Hp) (G : Hp) (l0 : Nat) (l1 : Int32) (l2 : Int32) (l3 : Int32) : Option Hp :=
  if l1 ≤ l3 then
    f_Mo_findRing_b72 k12 G l0 l1 l2
  else
    gI G 10 7 l0 fun x1 =>
    if x1 = 0 then
      vH G 10 l0 (f_Mo_layRing G l0 l3 l2) fun x2 G3 =>
      if x2 = 0 then
        f_Mo_findRing_b63 k12 k36 G3 l0 l1 l2 l3 l0 (0 : Int32)
      else
        f_Mo_findRing_b63 k12 k36 G3 l0 l1 l2 l3 l0 l2
    else
      f_Mo_findRing_b72 k12 G l0 l1 l2
def f_Mo_findRing_b36 (k12 : Hp → Nat → Int32 → Int32 → Option Hp) : Nat → Hp → Nat → Int32 → Int32 → Int32 → Option Hp
  | 0, _, _, _, _, _ => none
  | nn + 1, G, l0, l1, l2, l3 => f_Mo_findRing_b36_k k12 (f_Mo_findRing_b36 k12 nn) G l0 l1 l2 l3
def f_Mo_findRing_b78 (G : Hp) : Option Hp :=
  some G
def f_Mo_findRing_b12_k (k12 : Hp → Nat → Int32 → Int32 → Option Hp) (G : Hp) (l0 : Nat) (l1 : Int32) (l2 : Int32) : Option Hp :=
  vP G 10 l0 (f_Mo_many G l0) fun x1 =>
  if x1 < l2 then
    f_Mo_findRing_b78  G 
  else
    gI G 10 7 l0 fun x2 =>
    if x2 = 0 then
      vP G 10 l0 (f_Mo_many G l0) fun x3 =>
      lt (l1 * x3) fun x4 =>
      f_Mo_findRing_b36 k12 FU G l0 x4 l2 (0 : Int32)
    else
      f_Mo_findRing_b78  G 
def f_Mo_findRing_b12 : Nat → Hp → Nat → Int32 → Int32 → Option Hp
  | 0, _, _, _, _ => none
  | nn + 1, G, l0, l1, l2 => f_Mo_findRing_b12_k (f_Mo_findRing_b12 nn) G l0 l1 l2
def f_Mo_findRing (G : Hp) (l0 : Nat) : Option Hp :=
  pI G 10 7 l0 (0 : Int32) fun G1 =>
  vP G1 10 l0 (f_Mo_many G1 l0) fun x2 =>
  f_Mo_findRing_b12  FU G1 l0 x2 (2 : Int32)
def f_Mo_ring_b47 (G : Hp) (s0 : Int32) : Option (Int32 × Hp) :=
  some (s0, G)
def f_Mo_ring (G : Hp) (l0 : Nat) (l1 : Int32) : Option (Int32 × Hp) :=
  if (-1 : Int32) ≤ l1 then
    vP G 10 l0 (f_Mo_findRing G l0) fun G1 =>
    if l1 = (-1 : Int32) then
      gI G1 10 7 l0 fun x5 =>
      f_Mo_ring_b47  G1 x5
    else
      gI G1 10 7 l0 fun x2 =>
      if x2 ≤ l1 then
        f_Mo_ring_b47  G1 (-5 : Int32)
      else
        gR G1 10 6 l0 fun x3 =>
        aI G1 11 x3 l1 fun x4 =>
        f_Mo_ring_b47  G1 x4
  else
    vH G 10 l0 (f_Mo_bad G l0 (-10 : Int32)) fun x6 G7 =>
    some (x6, G7)
def f_Mo_leastOf_b86 (G : Hp) (k5 : Nat → Int32 → Int32 → Int32 → Int32 → Option Int32) (l0 : Nat) (l1 : Int32) (l2 : Int32) (l4 : Int32) (s0 : Int32) : Option Int32 :=
  k5 l0 l1 l2 s0 (l4 + 1)
def f_Mo_leastOf_b80 (G : Hp) (k5 : Nat → Int32 → Int32 → Int32 → Int32 → Option Int32) (l0 : Nat) (l1 : Int32) (l2 : Int32) (l4 : Int32) : Option Int32 :=
  f_Mo_leastOf_b86 G k5 l0 l1 l2 l4 l4
def f_Mo_leastOf_b85 (G : Hp) (k5 : Nat → Int32 → Int32 → Int32 → Int32 → Option Int32) (l0 : Nat) (l1 : Int32) (l2 : Int32) (l3 : Int32) (l4 : Int32) : Option Int32 :=
  f_Mo_leastOf_b86 G k5 l0 l1 l2 l4 l3
def f_Mo_leastOf_b54 (G : Hp) (k5 : Nat → Int32 → Int32 → Int32 → Int32 → Option Int32) (l0 : Nat) (l1 : Int32) (l2 : Int32) (l3 : Int32) (l4 : Int32) (s0 : Int32) : Option Int32 :=
  if s0 = 0 then
    f_Mo_leastOf_b85 G k5 l0 l1 l2 l3 l4
  else
    if l3 = (-1 : Int32) then
      f_Mo_leastOf_b80 G k5 l0 l1 l2 l4
    else
      vP G 10 l0 (f_Mo_valueNow G l0 l4) fun x1 =>
      vP G 10 l0 (f_Mo_valueNow G l0 l3) fun x2 =>
      if x2 ≤ x1 then
        f_Mo_leastOf_b85 G k5 l0 l1 l2 l3 l4
      else
        f_Mo_leastOf_b80 G k5 l0 l1 l2 l4
def f_Mo_leastOf_b53 (G : Hp) (k5 : Nat → Int32 → Int32 → Int32 → Int32 → Option Int32) (l0 : Nat) (l1 : Int32) (l2 : Int32) (l3 : Int32) (l4 : Int32) : Option Int32 :=
  f_Mo_leastOf_b54 G k5 l0 l1 l2 l3 l4 (0 : Int32)
def f_Mo_leastOf_b5_k (G : Hp) (k5 : Nat → Int32 → Int32 → Int32 → Int32 → Option Int32) (l0 : Nat) (l1 : Int32) (l2 : Int32) (l3 : Int32) (l4 : Int32) : Option Int32 :=
  gR G 10 0 l0 fun x1 =>
  aI G 11 x1 (158 : Int32) fun x2 =>
  if x2 ≤ l4 then
    some l3
  else
    vP G 10 l0 (f_Mo_told0 G l0 l4 (1 : Int32)) fun x3 =>
    if x3 = l1 then
      vP G 10 l0 (f_Mo_told0 G l0 l4 (2 : Int32)) fun x4 =>
      if x4 = l2 then
        vP G 10 l0 (f_Mo_valueNow G l0 l4) fun x5 =>
        if x5 ≤ 0 then
          f_Mo_leastOf_b53 G k5 l0 l1 l2 l3 l4
        else
          f_Mo_leastOf_b54 G k5 l0 l1 l2 l3 l4 (1 : Int32)
      else
        f_Mo_leastOf_b53 G k5 l0 l1 l2 l3 l4
    else
      f_Mo_leastOf_b53 G k5 l0 l1 l2 l3 l4
def f_Mo_leastOf_b5 (G : Hp) : Nat → Nat → Int32 → Int32 → Int32 → Int32 → Option Int32
  | 0, _, _, _, _, _ => none
  | nn + 1, l0, l1, l2, l3, l4 => f_Mo_leastOf_b5_k G (f_Mo_leastOf_b5 G nn) l0 l1 l2 l3 l4
def f_Mo_leastOf (G : Hp) (l0 : Nat) (l1 : Int32) (l2 : Int32) : Option Int32 :=
  f_Mo_leastOf_b5 G  FU l0 l1 l2 (-1 : Int32) (0 : Int32)
def f_Mo_cancel_b20_k (k20 : Hp → Nat → Int32 → Option (Int32 × Hp)) (G : Hp) (l0 : Nat) (l1 : Int32) : Option (Int32 × Hp) :=
  gI G 10 7 l0 fun x1 =>
  if x1 ≤ l1 then
    gI G 10 7 l0 fun x2 =>
    some (x2, G)
  else
    gR G 10 6 l0 fun x3 =>
    aI G 11 x3 l1 fun x4 =>
    gR G 10 6 l0 fun x5 =>
    gI G 10 7 l0 fun x6 =>
    dI x6 <|
    aI G 11 x5 ((l1 + (1 : Int32)) - (l1 + (1 : Int32)) / x6 * x6) fun x7 =>
    vP G 10 l0 (f_Mo_leastOf G l0 x4 x7) fun x8 =>
    vP G 10 l0 (f_Mo_lose G l0 x8) fun G9 =>
    k20 G9 l0 (l1 + 1)
def f_Mo_cancel_b20 : Nat → Hp → Nat → Int32 → Option (Int32 × Hp)
  | 0, _, _, _ => none
  | nn + 1, G, l0, l1 => f_Mo_cancel_b20_k (f_Mo_cancel_b20 nn) G l0 l1
def f_Mo_cancel (G : Hp) (l0 : Nat) : Option (Int32 × Hp) :=
  vP G 10 l0 (f_Mo_findRing G l0) fun G1 =>
  gI G1 10 7 l0 fun x2 =>
  if x2 = 0 then
    vH G1 10 l0 (f_Mo_no G1 l0 (-3 : Int32)) fun x3 G4 =>
    some (x3, G4)
  else
    f_Mo_cancel_b20  FU G1 l0 (0 : Int32)
def f_Mo_netOf_b35 (G : Hp) (k4 : Nat → Int32 → Int32 → Int32 → Option Int32) (l0 : Nat) (l1 : Int32) (l3 : Int32) (s0 : Int32) (s1 : Int32) : Option Int32 :=
  lt (s0 + s1) fun x1 =>
  k4 l0 l1 x1 (l3 + 1)
def f_Mo_netOf_b4_k (G : Hp) (k4 : Nat → Int32 → Int32 → Int32 → Option Int32) (l0 : Nat) (l1 : Int32) (l2 : Int32) (l3 : Int32) : Option Int32 :=
  vP G 10 l0 (f_Mo_many G l0) fun x1 =>
  if x1 ≤ l3 then
    some l2
  else
    if l3 = l1 then
      f_Mo_netOf_b35 G k4 l0 l1 l3 l2 (0 : Int32)
    else
      vP G 10 l0 (f_Mo_owesTo G l0 l3 l1) fun x2 =>
      vP G 10 l0 (f_Mo_owesTo G l0 l1 l3) fun x3 =>
      f_Mo_netOf_b35 G k4 l0 l1 l3 l2 (x2 - x3)
def f_Mo_netOf_b4 (G : Hp) : Nat → Nat → Int32 → Int32 → Int32 → Option Int32
  | 0, _, _, _, _ => none
  | nn + 1, l0, l1, l2, l3 => f_Mo_netOf_b4_k G (f_Mo_netOf_b4 G nn) l0 l1 l2 l3
def f_Mo_netOf (G : Hp) (l0 : Nat) (l1 : Int32) : Option Int32 :=
  f_Mo_netOf_b4 G  FU l0 l1 (0 : Int32) (0 : Int32)
def f_Mo_net_b23 (G : Hp) (s0 : Int32) : Option (Int32 × Hp) :=
  some (s0, G)
def f_Mo_net (G : Hp) (l0 : Nat) (l1 : Int32) : Option (Int32 × Hp) :=
  vP G 10 l0 (f_Mo_isOne G l0 l1) fun x1 =>
  if x1 = 0 then
    vH G 10 l0 (f_Mo_bad G l0 (-10000 : Int32)) fun x2 G3 =>
    f_Mo_net_b23  G3 x2
  else
    vP G 10 l0 (f_Mo_netOf G l0 l1) fun x4 =>
    f_Mo_net_b23  G x4
def f_Mo_fewest_b58 (k11 : Hp → Nat → Int32 → Int32 → Option (Int32 × Hp)) (k25 : Hp → Nat → Int32 → Int32 → Int32 → Option (Int32 × Hp)) (G : Hp) (l0 : Nat) (l1 : Int32) (l2 : Int32) (l3 : Int32) (s0 : Nat) (s1 : Int32) (s2 : Int32) (s3 : Int32) : Option (Int32 × Hp) :=
  sI G 11 s0 s1 (s2 + s3) fun G1 =>
  k25 G1 l0 l1 l2 (l3 + 1)
def f_Mo_fewest_b25_k (k11 : Hp → Nat → Int32 → Int32 → Option (Int32 × Hp)) (k25 : Hp → Nat → Int32 → Int32 → Int32 → Option (Int32 × Hp)) (G : Hp) (l0 : Nat) (l1 : Int32) (l2 : Int32) (l3 : Int32) : Option (Int32 × Hp) :=
  vP G 10 l0 (f_Mo_many G l0) fun x1 =>
  if x1 ≤ l3 then
    k11 G l0 l1 (l2 + 1)
  else
    gR G 10 8 l0 fun x2 =>
    aI G 11 x2 l2 fun x3 =>
    if ((l2 >>> (l3 &&& 31)) &&& (1 : Int32)) = (1 : Int32) then
      vP G 10 l0 (f_Mo_netOf G l0 l3) fun x4 =>
      f_Mo_fewest_b58 k11 k25 G l0 l1 l2 l3 x2 l2 x3 x4
    else
      f_Mo_fewest_b58 k11 k25 G l0 l1 l2 l3 x2 l2 x3 (0 : Int32)
def f_Mo_fewest_b25 (k11 : Hp → Nat → Int32 → Int32 → Option (Int32 × Hp)) : Nat → Hp → Nat → Int32 → Int32 → Int32 → Option (Int32 × Hp)
  | 0, _, _, _, _, _ => none
  | nn + 1, G, l0, l1, l2, l3 => f_Mo_fewest_b25_k k11 (f_Mo_fewest_b25 k11 nn) G l0 l1 l2 l3
def f_Mo_fewest_b147 (k81 : Hp → Nat → Int32 → Int32 → Option (Int32 × Hp)) (k91 : Hp → Nat → Int32 → Int32 → Int32 → Int32 → Option (Int32 × Hp)) (G : Hp) (l0 : Nat) (l1 : Int32) (l2 : Int32) (l4 : Int32) (s0 : Int32) : Option (Int32 × Hp) :=
  k91 G l0 l1 l2 s0 (l4 + 1)
def f_Mo_fewest_b133 (k81 : Hp → Nat → Int32 → Int32 → Option (Int32 × Hp)) (k91 : Hp → Nat → Int32 → Int32 → Int32 → Int32 → Option (Int32 × Hp)) (G : Hp) (l0 : Nat) (l1 : Int32) (l2 : Int32) (l3 : Int32) (l4 : Int32) (s0 : Int32) : Option (Int32 × Hp) :=
  if s0 ≤ l3 then
    f_Mo_fewest_b147 k81 k91 G l0 l1 l2 l4 l3
  else
    f_Mo_fewest_b147 k81 k91 G l0 l1 l2 l4 s0
def f_Mo_fewest_b132 (k81 : Hp → Nat → Int32 → Int32 → Option (Int32 × Hp)) (k91 : Hp → Nat → Int32 → Int32 → Int32 → Int32 → Option (Int32 × Hp)) (G : Hp) (l0 : Nat) (l1 : Int32) (l2 : Int32) (l3 : Int32) (l4 : Int32) : Option (Int32 × Hp) :=
  f_Mo_fewest_b133 k81 k91 G l0 l1 l2 l3 l4 (0 : Int32)
def f_Mo_fewest_b91_k (k81 : Hp → Nat → Int32 → Int32 → Option (Int32 × Hp)) (k91 : Hp → Nat → Int32 → Int32 → Int32 → Int32 → Option (Int32 × Hp)) (G : Hp) (l0 : Nat) (l1 : Int32) (l2 : Int32) (l3 : Int32) (l4 : Int32) : Option (Int32 × Hp) :=
  if l2 < l4 then
    gR G 10 9 l0 fun x1 =>
    sI G 11 x1 l2 l3 fun G2 =>
    k81 G2 l0 l1 (l2 + 1)
  else
    if (l4 &&& (l2 ^^^ (-1 : Int32))) = 0 then
      gR G 10 8 l0 fun x3 =>
      aI G 11 x3 l4 fun x4 =>
      if x4 = 0 then
        gR G 10 9 l0 fun x5 =>
        aI G 11 x5 (l2 &&& (l4 ^^^ (-1 : Int32))) fun x6 =>
        f_Mo_fewest_b133 k81 k91 G l0 l1 l2 l3 l4 (x6 + (1 : Int32))
      else
        f_Mo_fewest_b132 k81 k91 G l0 l1 l2 l3 l4
    else
      f_Mo_fewest_b132 k81 k91 G l0 l1 l2 l3 l4
def f_Mo_fewest_b91 (k81 : Hp → Nat → Int32 → Int32 → Option (Int32 × Hp)) : Nat → Hp → Nat → Int32 → Int32 → Int32 → Int32 → Option (Int32 × Hp)
  | 0, _, _, _, _, _, _ => none
  | nn + 1, G, l0, l1, l2, l3, l4 => f_Mo_fewest_b91_k k81 (f_Mo_fewest_b91 k81 nn) G l0 l1 l2 l3 l4
def f_Mo_fewest_b81_k (k81 : Hp → Nat → Int32 → Int32 → Option (Int32 × Hp)) (G : Hp) (l0 : Nat) (l1 : Int32) (l2 : Int32) : Option (Int32 × Hp) :=
  if l1 < l2 then
    vP G 10 l0 (f_Mo_many G l0) fun x1 =>
    gR G 10 9 l0 fun x2 =>
    aI G 11 x2 l1 fun x3 =>
    some ((x1 - x3), G)
  else
    f_Mo_fewest_b91 k81 FU G l0 l1 l2 (0 : Int32) (1 : Int32)
def f_Mo_fewest_b81 : Nat → Hp → Nat → Int32 → Int32 → Option (Int32 × Hp)
  | 0, _, _, _, _ => none
  | nn + 1, G, l0, l1, l2 => f_Mo_fewest_b81_k (f_Mo_fewest_b81 nn) G l0 l1 l2
def f_Mo_fewest_b11_k (k11 : Hp → Nat → Int32 → Int32 → Option (Int32 × Hp)) (G : Hp) (l0 : Nat) (l1 : Int32) (l2 : Int32) : Option (Int32 × Hp) :=
  if l1 < l2 then
    gR G 10 9 l0 fun x1 =>
    sI G 11 x1 (0 : Int32) (0 : Int32) fun G2 =>
    f_Mo_fewest_b81  FU G2 l0 l1 (1 : Int32)
  else
    gR G 10 8 l0 fun x3 =>
    sI G 11 x3 l2 (0 : Int32) fun G4 =>
    f_Mo_fewest_b25 k11 FU G4 l0 l1 l2 (0 : Int32)
def f_Mo_fewest_b11 : Nat → Hp → Nat → Int32 → Int32 → Option (Int32 × Hp)
  | 0, _, _, _, _ => none
  | nn + 1, G, l0, l1, l2 => f_Mo_fewest_b11_k (f_Mo_fewest_b11 nn) G l0 l1 l2
def f_Mo_fewest (G : Hp) (l0 : Nat) : Option (Int32 × Hp) :=
  vP G 10 l0 (f_Mo_many G l0) fun x1 =>
  lt (((1 : Int32) <<< (x1 &&& 31)) - (1 : Int32)) fun x2 =>
  f_Mo_fewest_b11  FU G l0 x2 (0 : Int32)
def f_Mo_need0 (G : Hp) (l0 : Nat) (l1 : Int32) (l2 : Int32) : Option Int32 :=
  gR G 10 0 l0 fun x1 =>
  aI G 11 x1 (((98 : Int32) + ((4 : Int32) * l1)) + l2) fun x2 =>
  some x2
def f_Mo_mayMeet_b65 (G : Hp) (s0 : Int32) : Option Int32 :=
  zR s0 <|
  some s0
def f_Mo_mayMeet_b64 (G : Hp) : Option Int32 :=
  f_Mo_mayMeet_b65 G  (0 : Int32)
def f_Mo_mayMeet_b35 (G : Hp) (l0 : Nat) (l1 : Int32) (l2 : Int32) (s0 : Int32) : Option Int32 :=
  if s0 = 0 then
    f_Mo_mayMeet_b64 G  
  else
    vP G 10 l0 (f_Mo_need0 G l0 l1 (3 : Int32)) fun x1 =>
    vP G 10 l0 (f_Mo_valueOf G l0 l2 x1) fun x2 =>
    vP G 10 l0 (f_Mo_need0 G l0 l1 (2 : Int32)) fun x3 =>
    if x2 < x3 then
      f_Mo_mayMeet_b64 G  
    else
      f_Mo_mayMeet_b65 G  (1 : Int32)
def f_Mo_mayMeet_b34 (G : Hp) (l0 : Nat) (l1 : Int32) (l2 : Int32) : Option Int32 :=
  f_Mo_mayMeet_b35 G  l0 l1 l2 (0 : Int32)
def f_Mo_mayMeet (G : Hp) (l0 : Nat) (l1 : Int32) (l2 : Int32) : Option Int32 :=
  vP G 10 l0 (f_Mo_told0 G l0 l2 (2 : Int32)) fun x1 =>
  vP G 10 l0 (f_Mo_need0 G l0 l1 (0 : Int32)) fun x2 =>
  if x1 = x2 then
    vP G 10 l0 (f_Mo_told0 G l0 l2 (3 : Int32)) fun x3 =>
    vP G 10 l0 (f_Mo_need0 G l0 l1 (1 : Int32)) fun x4 =>
    if x3 = x4 then
      f_Mo_mayMeet_b35 G  l0 l1 l2 (1 : Int32)
    else
      f_Mo_mayMeet_b34 G  l0 l1 l2
  else
    f_Mo_mayMeet_b34 G  l0 l1 l2
def f_Mo_fits_b125 (G : Hp) (k50 : Nat → Int32 → Int32 → Int32 → Int32 → Int32 → Option Int32) (l0 : Nat) (l1 : Int32) (l2 : Int32) (l3 : Int32) (l4 : Int32) (l5 : Int32) : Option Int32 :=
  k50 l0 l1 l2 l3 l4 (l5 + 1)
def f_Mo_fits_b154 (G : Hp) (s0 : Int32) : Option Int32 :=
  zR s0 <|
  some s0
def f_Mo_fits_b50_k (G : Hp) (k50 : Nat → Int32 → Int32 → Int32 → Int32 → Int32 → Option Int32) (l0 : Nat) (l1 : Int32) (l2 : Int32) (l3 : Int32) (l4 : Int32) (l5 : Int32) : Option Int32 :=
  if l1 ≤ l5 then
    gR G 10 0 l0 fun x1 =>
    vP G 10 l0 (f_Mo_told0 G l0 l2 (1 : Int32)) fun x2 =>
    aI G 11 x1 ((2 : Int32) + x2) fun x3 =>
    if x3 < l4 then
      f_Mo_fits_b154 G  (0 : Int32)
    else
      f_Mo_fits_b154 G  (1 : Int32)
  else
    gR G 10 10 l0 fun x4 =>
    aI G 11 x4 l5 fun x5 =>
    if x5 = l2 then
      some (0 : Int32)
    else
      gR G 10 0 l0 fun x6 =>
      aI G 11 x6 (158 : Int32) fun x7 =>
      if x7 ≤ x5 then
        f_Mo_fits_b125 G k50 l0 l1 l2 l3 l4 l5
      else
        vP G 10 l0 (f_Mo_need0 G l0 l5 (3 : Int32)) fun x8 =>
        if x8 = l3 then
          vP G 10 l0 (f_Mo_told0 G l0 x5 (1 : Int32)) fun x9 =>
          vP G 10 l0 (f_Mo_told0 G l0 l2 (1 : Int32)) fun x10 =>
          if x9 = x10 then
            vP G 10 l0 (f_Mo_valueOf G l0 x5 l3) fun x11 =>
            lt (l4 + x11) fun x12 =>
            f_Mo_fits_b125 G k50 l0 l1 l2 l3 x12 l5
          else
            f_Mo_fits_b125 G k50 l0 l1 l2 l3 l4 l5
        else
          f_Mo_fits_b125 G k50 l0 l1 l2 l3 l4 l5
def f_Mo_fits_b50 (G : Hp) : Nat → Nat → Int32 → Int32 → Int32 → Int32 → Int32 → Option Int32
  | 0, _, _, _, _, _, _ => none
  | nn + 1, l0, l1, l2, l3, l4, l5 => f_Mo_fits_b50_k G (f_Mo_fits_b50 G nn) l0 l1 l2 l3 l4 l5
def f_Mo_fits (G : Hp) (l0 : Nat) (l1 : Int32) : Option Int32 :=
  gR G 10 10 l0 fun x1 =>
  aI G 11 x1 l1 fun x2 =>
  gR G 10 0 l0 fun x3 =>
  aI G 11 x3 (158 : Int32) fun x4 =>
  if x2 = x4 then
    some (1 : Int32)
  else
    vP G 10 l0 (f_Mo_mayMeet G l0 l1 x2) fun x5 =>
    if x5 = 0 then
      some (0 : Int32)
    else
      vP G 10 l0 (f_Mo_need0 G l0 l1 (3 : Int32)) fun x6 =>
      vP G 10 l0 (f_Mo_valueOf G l0 x2 x6) fun x7 =>
      f_Mo_fits_b50 G  FU l0 l1 x2 x6 x7 (0 : Int32)
def f_Mo_look_b57 (k6 : Hp → Nat → Int32 → Int32 → Int32 → Option Hp) (G : Hp) (l0 : Nat) (l1 : Int32) (l2 : Int32) (l3 : Int32) : Option Hp :=
  k6 G l0 l1 l2 (l3 + 1)
def f_Mo_look_b122 (G : Hp) : Option Hp :=
  some G
def f_Mo_look_b99_k (k99 : Hp → Nat → Int32 → Option Hp) (G : Hp) (l0 : Nat) (l3 : Int32) : Option Hp :=
  if (5 : Int32) ≤ l3 then
    f_Mo_look_b122  G 
  else
    gR G 10 11 l0 fun x1 =>
    gR G 10 10 l0 fun x2 =>
    aI G 11 x2 l3 fun x3 =>
    sI G 11 x1 l3 x3 fun G4 =>
    k99 G4 l0 (l3 + 1)
def f_Mo_look_b99 : Nat → Hp → Nat → Int32 → Option Hp
  | 0, _, _, _ => none
  | nn + 1, G, l0, l3 => f_Mo_look_b99_k (f_Mo_look_b99 nn) G l0 l3
def f_Mo_look_b87 (G : Hp) (l0 : Nat) (l1 : Int32) (l2 : Int32) : Option Hp :=
  pI G 10 12 l0 l1 fun G1 =>
  pI G1 10 13 l0 l2 fun G2 =>
  f_Mo_look_b99  FU G2 l0 (0 : Int32)
def f_Mo_look_b6_k (k6 : Hp → Nat → Int32 → Int32 → Int32 → Option Hp) (G : Hp) (l0 : Nat) (l1 : Int32) (l2 : Int32) (l3 : Int32) : Option Hp :=
  gR G 10 0 l0 fun x1 =>
  aI G 11 x1 (159 : Int32) fun x2 =>
  if x2 ≤ l3 then
    gI G 10 12 l0 fun x3 =>
    if x3 < l1 then
      f_Mo_look_b87  G l0 l1 l2
    else
      gI G 10 12 l0 fun x4 =>
      if l1 = x4 then
        gI G 10 13 l0 fun x5 =>
        if x5 ≤ l2 then
          f_Mo_look_b122  G 
        else
          f_Mo_look_b87  G l0 l1 l2
      else
        f_Mo_look_b122  G 
  else
    gR G 10 10 l0 fun x6 =>
    aI G 11 x6 l3 fun x7 =>
    gR G 10 0 l0 fun x8 =>
    aI G 11 x8 (158 : Int32) fun x9 =>
    if x9 ≤ x7 then
      f_Mo_look_b57 k6 G l0 l1 l2 l3
    else
      gR G 10 10 l0 fun x10 =>
      aI G 11 x10 l3 fun x11 =>
      vP G 10 l0 (f_Mo_need0 G l0 l3 (3 : Int32)) fun x12 =>
      vP G 10 l0 (f_Mo_valueOf G l0 x11 x12) fun x13 =>
      lt (l2 + x13) fun x14 =>
      f_Mo_look_b57 k6 G l0 (l1 + 1) x14 l3
def f_Mo_look_b6 : Nat → Hp → Nat → Int32 → Int32 → Int32 → Option Hp
  | 0, _, _, _, _, _ => none
  | nn + 1, G, l0, l1, l2, l3 => f_Mo_look_b6_k (f_Mo_look_b6 nn) G l0 l1 l2 l3
def f_Mo_look (G : Hp) (l0 : Nat) : Option Hp :=
  f_Mo_look_b6  FU G l0 (0 : Int32) (0 : Int32) (0 : Int32)
def f_Mo_findMet_b38_k (k38 : Hp → Nat → Int32 → Int32 → Option Hp) (G : Hp) (l0 : Nat) (l1 : Int32) (l2 : Int32) : Option Hp :=
  if l2 < 0 then
    some G
  else
    gR G 10 10 l0 fun x1 =>
    aI G 11 x1 l2 fun x2 =>
    sI G 11 x1 l2 (x2 + (1 : Int32)) fun G3 =>
    gR G3 10 10 l0 fun x4 =>
    aI G3 11 x4 l2 fun x5 =>
    gR G3 10 0 l0 fun x6 =>
    aI G3 11 x6 (158 : Int32) fun x7 =>
    if x5 ≤ x7 then
      vP G3 10 l0 (f_Mo_fits G3 l0 l2) fun x8 =>
      if x8 = 0 then
        k38 G3 l0 l1 l2
      else
        if l2 = (l1 - (1 : Int32)) then
          vP G3 10 l0 (f_Mo_look G3 l0) fun G11 =>
          k38 G11 l0 l1 l2
        else
          gR G3 10 10 l0 fun x9 =>
          sI G3 11 x9 (l2 + 1) (-1 : Int32) fun G10 =>
          k38 G10 l0 l1 (l2 + 1)
    else
      k38 G3 l0 l1 (l2 + (-1))
def f_Mo_findMet_b38 : Nat → Hp → Nat → Int32 → Int32 → Option Hp
  | 0, _, _, _, _ => none
  | nn + 1, G, l0, l1, l2 => f_Mo_findMet_b38_k (f_Mo_findMet_b38 nn) G l0 l1 l2
def f_Mo_findMet (G : Hp) (l0 : Nat) : Option Hp :=
  pI G 10 12 l0 (-1 : Int32) fun G1 =>
  pI G1 10 13 l0 (0 : Int32) fun G2 =>
  gR G2 10 0 l0 fun x3 =>
  aI G2 11 x3 (159 : Int32) fun x4 =>
  if x4 = 0 then
    pI G2 10 12 l0 (0 : Int32) fun G7 =>
    some G7
  else
    gR G2 10 10 l0 fun x5 =>
    sI G2 11 x5 (0 : Int32) (-1 : Int32) fun G6 =>
    f_Mo_findMet_b38  FU G6 l0 x4 (0 : Int32)
def f_Mo_met_b36 (G : Hp) (s0 : Int32) : Option (Int32 × Hp) :=
  some (s0, G)
def f_Mo_met (G : Hp) (l0 : Nat) (l1 : Int32) : Option (Int32 × Hp) :=
  cP (f_Mo_in G l1.toInt64 (0 : Int64) (1 : Int64)) fun x1 =>
  if x1 = 0 then
    vH G 10 l0 (f_Mo_bad G l0 (-2 : Int32)) fun x5 G6 =>
    some (x5, G6)
  else
    vP G 10 l0 (f_Mo_findMet G l0) fun G2 =>
    if l1 = 0 then
      gI G2 10 12 l0 fun x4 =>
      f_Mo_met_b36  G2 x4
    else
      gI G2 10 13 l0 fun x3 =>
      f_Mo_met_b36  G2 x3
def f_Mo_plan_b58 (G : Hp) (s0 : Int32) : Option (Int32 × Hp) :=
  some (s0, G)
def f_Mo_plan (G : Hp) (l0 : Nat) (l1 : Int32) : Option (Int32 × Hp) :=
  gR G 10 0 l0 fun x1 =>
  aI G 11 x1 (159 : Int32) fun x2 =>
  cP (f_Mo_in G l1.toInt64 (0 : Int64) ((x2 - (1 : Int32)).toInt64)) fun x3 =>
  if x3 = 0 then
    vH G 10 l0 (f_Mo_bad G l0 (-2 : Int32)) fun x11 G12 =>
    some (x11, G12)
  else
    vP G 10 l0 (f_Mo_findMet G l0) fun G4 =>
    gR G4 10 11 l0 fun x5 =>
    aI G4 11 x5 l1 fun x6 =>
    gR G4 10 0 l0 fun x7 =>
    aI G4 11 x7 (158 : Int32) fun x8 =>
    if x6 = x8 then
      f_Mo_plan_b58  G4 (-1 : Int32)
    else
      gR G4 10 11 l0 fun x9 =>
      aI G4 11 x9 l1 fun x10 =>
      f_Mo_plan_b58  G4 x10
def f_Mo_toDo_b41 (G : Hp) (k5 : Nat → Int32 → Int32 → Int32 → Int32 → Option Int32) (l0 : Nat) (l1 : Int32) (l2 : Int32) (l4 : Int32) (s0 : Int32) (s1 : Int32) : Option Int32 :=
  lt (s0 + s1) fun x1 =>
  k5 l0 l1 l2 x1 (l4 + 1)
def f_Mo_toDo_b5_k (G : Hp) (k5 : Nat → Int32 → Int32 → Int32 → Int32 → Option Int32) (l0 : Nat) (l1 : Int32) (l2 : Int32) (l3 : Int32) (l4 : Int32) : Option Int32 :=
  gR G 10 0 l0 fun x1 =>
  aI G 11 x1 (158 : Int32) fun x2 =>
  if x2 ≤ l4 then
    some l3
  else
    vP G 10 l0 (f_Mo_told0 G l0 l4 (1 : Int32)) fun x3 =>
    if x3 = l1 then
      vP G 10 l0 (f_Mo_valueOf G l0 l4 l2) fun x4 =>
      f_Mo_toDo_b41 G k5 l0 l1 l2 l4 l3 x4
    else
      f_Mo_toDo_b41 G k5 l0 l1 l2 l4 l3 (0 : Int32)
def f_Mo_toDo_b5 (G : Hp) : Nat → Nat → Int32 → Int32 → Int32 → Int32 → Option Int32
  | 0, _, _, _, _, _ => none
  | nn + 1, l0, l1, l2, l3, l4 => f_Mo_toDo_b5_k G (f_Mo_toDo_b5 G nn) l0 l1 l2 l3 l4
def f_Mo_toDo (G : Hp) (l0 : Nat) (l1 : Int32) (l2 : Int32) : Option Int32 :=
  f_Mo_toDo_b5 G  FU l0 l1 l2 (0 : Int32) (0 : Int32)
def f_Mo_doneFor_b57 (G : Hp) (k6 : Nat → Int32 → Int32 → Int32 → Int32 → Int32 → Option Int32) (l0 : Nat) (l1 : Int32) (l2 : Int32) (l3 : Int32) (l5 : Int32) (s0 : Int32) (s1 : Int32) : Option Int32 :=
  lt (s0 + s1) fun x1 =>
  k6 l0 l1 l2 l3 x1 (l5 + 1)
def f_Mo_doneFor_b56 (G : Hp) (k6 : Nat → Int32 → Int32 → Int32 → Int32 → Int32 → Option Int32) (l0 : Nat) (l1 : Int32) (l2 : Int32) (l3 : Int32) (l5 : Int32) (s0 : Int32) : Option Int32 :=
  f_Mo_doneFor_b57 G k6 l0 l1 l2 l3 l5 s0 (0 : Int32)
def f_Mo_doneFor_b6_k (G : Hp) (k6 : Nat → Int32 → Int32 → Int32 → Int32 → Int32 → Option Int32) (l0 : Nat) (l1 : Int32) (l2 : Int32) (l3 : Int32) (l4 : Int32) (l5 : Int32) : Option Int32 :=
  gR G 10 0 l0 fun x1 =>
  aI G 11 x1 (158 : Int32) fun x2 =>
  if x2 ≤ l5 then
    some l4
  else
    vP G 10 l0 (f_Mo_told0 G l0 l5 (2 : Int32)) fun x3 =>
    if x3 = l1 then
      vP G 10 l0 (f_Mo_told0 G l0 l5 (1 : Int32)) fun x4 =>
      if ((l3 >>> (x4 &&& 31)) &&& (1 : Int32)) = 0 then
        vP G 10 l0 (f_Mo_valueOf G l0 l5 l2) fun x5 =>
        f_Mo_doneFor_b57 G k6 l0 l1 l2 l3 l5 l4 x5
      else
        f_Mo_doneFor_b56 G k6 l0 l1 l2 l3 l5 l4
    else
      f_Mo_doneFor_b56 G k6 l0 l1 l2 l3 l5 l4
def f_Mo_doneFor_b6 (G : Hp) : Nat → Nat → Int32 → Int32 → Int32 → Int32 → Int32 → Option Int32
  | 0, _, _, _, _, _, _ => none
  | nn + 1, l0, l1, l2, l3, l4, l5 => f_Mo_doneFor_b6_k G (f_Mo_doneFor_b6 G nn) l0 l1 l2 l3 l4 l5
def f_Mo_doneFor (G : Hp) (l0 : Nat) (l1 : Int32) (l2 : Int32) (l3 : Int32) : Option Int32 :=
  f_Mo_doneFor_b6 G  FU l0 l1 l2 l3 (0 : Int32) (0 : Int32)
def f_Mo_fire_b17 (G : Hp) (l0 : Nat) : Option (Int32 × Hp) :=
  vH G 10 l0 (f_Mo_bad G l0 (-2 : Int32)) fun x1 G2 =>
  some (x1, G2)
def f_Mo_fire_b90 (k32 : Hp → Nat → Int32 → Int32 → Int32 → Int32 → Int32 → Option (Int32 × Hp)) (k43 : Hp → Nat → Int32 → Int32 → Int32 → Int32 → Int32 → Int32 → Option (Int32 × Hp)) (G : Hp) (l0 : Nat) (l1 : Int32) (l2 : Int32) (l3 : Int32) (l4 : Int32) (l7 : Int32) (s0 : Int32) (s1 : Int32) : Option (Int32 × Hp) :=
  lt (s0 ||| s1) fun x1 =>
  k43 G l0 l1 l2 l3 l4 x1 (l7 + 1)
def f_Mo_fire_b124 (k32 : Hp → Nat → Int32 → Int32 → Int32 → Int32 → Int32 → Option (Int32 × Hp)) (G : Hp) (l0 : Nat) (l1 : Int32) (l2 : Int32) (l5 : Int32) (l6 : Int32) (s0 : Int32) (s1 : Int32) : Option (Int32 × Hp) :=
  lt (s0 + s1) fun x1 =>
  k32 G l0 l1 l2 l6 x1 l5
def f_Mo_fire_b110 (k32 : Hp → Nat → Int32 → Int32 → Int32 → Int32 → Int32 → Option (Int32 × Hp)) (G : Hp) (l0 : Nat) (l1 : Int32) (l2 : Int32) (l4 : Int32) (l6 : Int32) (s0 : Int32) : Option (Int32 × Hp) :=
  if s0 = 0 then
    f_Mo_fire_b124 k32 G l0 l1 l2 s0 l6 l4 (0 : Int32)
  else
    f_Mo_fire_b124 k32 G l0 l1 l2 s0 l6 l4 (1 : Int32)
def f_Mo_fire_b43_k (k32 : Hp → Nat → Int32 → Int32 → Int32 → Int32 → Int32 → Option (Int32 × Hp)) (k43 : Hp → Nat → Int32 → Int32 → Int32 → Int32 → Int32 → Int32 → Option (Int32 × Hp)) (G : Hp) (l0 : Nat) (l1 : Int32) (l2 : Int32) (l3 : Int32) (l4 : Int32) (l6 : Int32) (l7 : Int32) : Option (Int32 × Hp) :=
  vP G 10 l0 (f_Mo_many G l0) fun x1 =>
  if x1 ≤ l7 then
    if l6 = l3 then
      f_Mo_fire_b110 k32 G l0 l1 l2 l4 l6 (0 : Int32)
    else
      f_Mo_fire_b110 k32 G l0 l1 l2 l4 l6 (1 : Int32)
  else
    vP G 10 l0 (f_Mo_toDo G l0 l7 l1) fun x2 =>
    gR G 10 0 l0 fun x3 =>
    aI G 11 x3 ((2 : Int32) + l7) fun x4 =>
    vP G 10 l0 (f_Mo_doneFor G l0 l7 l1 l3) fun x5 =>
    if x2 ≤ (x4 + x5) then
      f_Mo_fire_b90 k32 k43 G l0 l1 l2 l3 l4 l7 l6 (0 : Int32)
    else
      f_Mo_fire_b90 k32 k43 G l0 l1 l2 l3 l4 l7 l6 ((1 : Int32) <<< (l7 &&& 31))
def f_Mo_fire_b43 (k32 : Hp → Nat → Int32 → Int32 → Int32 → Int32 → Int32 → Option (Int32 × Hp)) : Nat → Hp → Nat → Int32 → Int32 → Int32 → Int32 → Int32 → Int32 → Option (Int32 × Hp)
  | 0, _, _, _, _, _, _, _, _ => none
  | nn + 1, G, l0, l1, l2, l3, l4, l6, l7 => f_Mo_fire_b43_k k32 (f_Mo_fire_b43 k32 nn) G l0 l1 l2 l3 l4 l6 l7
def f_Mo_fire_b143 (G : Hp) (s0 : Int32) : Option (Int32 × Hp) :=
  some (s0, G)
def f_Mo_fire_b32_k (k32 : Hp → Nat → Int32 → Int32 → Int32 → Int32 → Int32 → Option (Int32 × Hp)) (G : Hp) (l0 : Nat) (l1 : Int32) (l2 : Int32) (l3 : Int32) (l4 : Int32) (l5 : Int32) : Option (Int32 × Hp) :=
  if l5 = 0 then
    if l2 = 0 then
      f_Mo_fire_b143  G l3
    else
      f_Mo_fire_b143  G l4
  else
    f_Mo_fire_b43 k32 FU G l0 l1 l2 l3 l4 l3 (0 : Int32)
def f_Mo_fire_b32 : Nat → Hp → Nat → Int32 → Int32 → Int32 → Int32 → Int32 → Option (Int32 × Hp)
  | 0, _, _, _, _, _, _, _ => none
  | nn + 1, G, l0, l1, l2, l3, l4, l5 => f_Mo_fire_b32_k (f_Mo_fire_b32 nn) G l0 l1 l2 l3 l4 l5
def f_Mo_fire (G : Hp) (l0 : Nat) (l1 : Int32) (l2 : Int32) : Option (Int32 × Hp) :=
  cP (f_Mo_isDay G l1) fun x1 =>
  if x1 = 0 then
    f_Mo_fire_b17  G l0
  else
    cP (f_Mo_in G l2.toInt64 (0 : Int64) (1 : Int64)) fun x2 =>
    if x2 = 0 then
      f_Mo_fire_b17  G l0
    else
      f_Mo_fire_b32  FU G l0 l1 l2 (0 : Int32) (0 : Int32) (1 : Int32)
def f_Mo_ratesBy_b32 (G : Hp) (k4 : Nat → Int32 → Int32 → Int32 → Option Int32) (l0 : Nat) (l1 : Int32) (l3 : Int32) (s0 : Int32) (s1 : Int32) : Option Int32 :=
  lt (s0 + s1) fun x1 =>
  k4 l0 l1 x1 (l3 + 1)
def f_Mo_ratesBy_b78 (G : Hp) (k42 : Nat → Int32 → Int32 → Int32 → Option Int32) (l0 : Nat) (l1 : Int32) (l3 : Int32) (s0 : Int32) (s1 : Int32) : Option Int32 :=
  lt (s0 - s1) fun x1 =>
  k42 l0 l1 x1 (l3 + 1)
def f_Mo_ratesBy_b77 (G : Hp) (k42 : Nat → Int32 → Int32 → Int32 → Option Int32) (l0 : Nat) (l1 : Int32) (l3 : Int32) (s0 : Int32) : Option Int32 :=
  f_Mo_ratesBy_b78 G k42 l0 l1 l3 s0 (0 : Int32)
def f_Mo_ratesBy_b42_k (G : Hp) (k42 : Nat → Int32 → Int32 → Int32 → Option Int32) (l0 : Nat) (l1 : Int32) (l2 : Int32) (l3 : Int32) : Option Int32 :=
  gR G 10 0 l0 fun x1 =>
  aI G 11 x1 (158 : Int32) fun x2 =>
  if x2 ≤ l3 then
    some l2
  else
    vP G 10 l0 (f_Mo_told0 G l0 l3 (3 : Int32)) fun x3 =>
    if x3 = l1 then
      vP G 10 l0 (f_Mo_valueNow G l0 l3) fun x4 =>
      if x4 ≤ 0 then
        f_Mo_ratesBy_b77 G k42 l0 l1 l3 l2
      else
        f_Mo_ratesBy_b78 G k42 l0 l1 l3 l2 (1 : Int32)
    else
      f_Mo_ratesBy_b77 G k42 l0 l1 l3 l2
def f_Mo_ratesBy_b42 (G : Hp) : Nat → Nat → Int32 → Int32 → Int32 → Option Int32
  | 0, _, _, _, _ => none
  | nn + 1, l0, l1, l2, l3 => f_Mo_ratesBy_b42_k G (f_Mo_ratesBy_b42 G nn) l0 l1 l2 l3
def f_Mo_ratesBy_b4_k (G : Hp) (k4 : Nat → Int32 → Int32 → Int32 → Option Int32) (l0 : Nat) (l1 : Int32) (l2 : Int32) (l3 : Int32) : Option Int32 :=
  gR G 10 0 l0 fun x1 =>
  aI G 11 x1 (159 : Int32) fun x2 =>
  if x2 ≤ l3 then
    f_Mo_ratesBy_b42 G  FU l0 l1 l2 (0 : Int32)
  else
    vP G 10 l0 (f_Mo_need0 G l0 l3 (1 : Int32)) fun x3 =>
    if x3 = l1 then
      f_Mo_ratesBy_b32 G k4 l0 l1 l3 l2 (1 : Int32)
    else
      f_Mo_ratesBy_b32 G k4 l0 l1 l3 l2 (0 : Int32)
def f_Mo_ratesBy_b4 (G : Hp) : Nat → Nat → Int32 → Int32 → Int32 → Option Int32
  | 0, _, _, _, _ => none
  | nn + 1, l0, l1, l2, l3 => f_Mo_ratesBy_b4_k G (f_Mo_ratesBy_b4 G nn) l0 l1 l2 l3
def f_Mo_ratesBy (G : Hp) (l0 : Nat) (l1 : Int32) : Option Int32 :=
  f_Mo_ratesBy_b4 G  FU l0 l1 (0 : Int32) (0 : Int32)
def f_Mo_hold_b21 (G : Hp) (s0 : Int32) : Option Int32 :=
  some s0
def f_Mo_hold (G : Hp) (l0 : Int32) : Option Int32 :=
  if (1 : Int32) ≤ l0 then
    if l0 ≤ (99 : Int32) then
      f_Mo_hold_b21 G  l0
    else
      f_Mo_hold_b21 G  (99 : Int32)
  else
    f_Mo_hold_b21 G  (1 : Int32)
def f_Mo_rate_b19 (G : Hp) (l0 : Nat) : Option (Int32 × Hp) :=
  vH G 10 l0 (f_Mo_bad G l0 (-2 : Int32)) fun x1 G2 =>
  some (x1, G2)
def f_Mo_rate_b47_k (k47 : Hp → Int32 → Int32 → Int32 → Int32 → Option (Int32 × Hp)) (G : Hp) (l2 : Int32) (l3 : Int32) (l4 : Int32) (l5 : Int32) : Option (Int32 × Hp) :=
  if l2 ≤ l5 then
    some (l3, G)
  else
    cP (f_Mo_hold G (l3 + l4)) fun x1 =>
    k47 G l2 x1 l4 (l5 + 1)
def f_Mo_rate_b47 : Nat → Hp → Int32 → Int32 → Int32 → Int32 → Option (Int32 × Hp)
  | 0, _, _, _, _, _ => none
  | nn + 1, G, l2, l3, l4, l5 => f_Mo_rate_b47_k (f_Mo_rate_b47 nn) G l2 l3 l4 l5
def f_Mo_rate (G : Hp) (l0 : Nat) (l1 : Int32) (l2 : Int32) : Option (Int32 × Hp) :=
  cP (f_Mo_isThing G l1) fun x1 =>
  if x1 = 0 then
    f_Mo_rate_b19  G l0
  else
    cP (f_Mo_in G l2.toInt64 (0 : Int64) (99 : Int64)) fun x2 =>
    if x2 = 0 then
      f_Mo_rate_b19  G l0
    else
      gR G 10 0 l0 fun x3 =>
      aI G 11 x3 ((154 : Int32) + l1) fun x4 =>
      vP G 10 l0 (f_Mo_ratesBy G l0 l1) fun x5 =>
      f_Mo_rate_b47  FU G l2 x4 x5 (0 : Int32)
def f_Mo_set_b19 (G : Hp) (l0 : Nat) : Option (Int32 × Hp) :=
  vH G 10 l0 (f_Mo_bad G l0 (-2 : Int32)) fun x1 G2 =>
  some (x1, G2)
def f_Mo_set (G : Hp) (l0 : Nat) (l1 : Int32) (l2 : Int32) : Option (Int32 × Hp) :=
  cP (f_Mo_isThing G l1) fun x1 =>
  if x1 = 0 then
    f_Mo_set_b19  G l0
  else
    cP (f_Mo_in G l2.toInt64 (1 : Int64) (99 : Int64)) fun x2 =>
    if x2 = 0 then
      f_Mo_set_b19  G l0
    else
      gR G 10 0 l0 fun x3 =>
      aI G 11 x3 ((154 : Int32) + l1) fun x4 =>
      gR G 10 0 l0 fun x5 =>
      sI G 11 x5 ((154 : Int32) + l1) l2 fun G6 =>
      some (x4, G6)
def f_Mo_settles_b83 (k31 : Hp → Nat → Int32 → Option (Int32 × Hp)) (k41 : Hp → Nat → Int32 → Int32 → Int32 → Option (Int32 × Hp)) (G : Hp) (l0 : Nat) (l1 : Int32) (l3 : Int32) (l4 : Int32) (s0 : Int32) : Option (Int32 × Hp) :=
  gR G 10 14 l0 fun x1 =>
  sI G 11 x1 l3 l4 fun G2 =>
  k41 G2 l0 l1 s0 (l3 + 1)
def f_Mo_settles_b82 (k31 : Hp → Nat → Int32 → Option (Int32 × Hp)) (k41 : Hp → Nat → Int32 → Int32 → Int32 → Option (Int32 × Hp)) (G : Hp) (l0 : Nat) (l1 : Int32) (l3 : Int32) (l4 : Int32) : Option (Int32 × Hp) :=
  f_Mo_settles_b83 k31 k41 G l0 l1 l3 l4 (0 : Int32)
def f_Mo_settles_b41_k (k31 : Hp → Nat → Int32 → Option (Int32 × Hp)) (k41 : Hp → Nat → Int32 → Int32 → Int32 → Option (Int32 × Hp)) (G : Hp) (l0 : Nat) (l1 : Int32) (l2 : Int32) (l3 : Int32) : Option (Int32 × Hp) :=
  if (4 : Int32) ≤ l3 then
    if l2 = 0 then
      k31 G l0 (l1 + 1)
    else
      some (l1, G)
  else
    gR G 10 14 l0 fun x1 =>
    aI G 11 x1 l3 fun x2 =>
    vP G 10 l0 (f_Mo_ratesBy G l0 l3) fun x3 =>
    cP (f_Mo_hold G (x2 + x3)) fun x4 =>
    if l2 = 0 then
      f_Mo_settles_b82 k31 k41 G l0 l1 l3 x4
    else
      gR G 10 14 l0 fun x5 =>
      aI G 11 x5 l3 fun x6 =>
      if x4 = x6 then
        f_Mo_settles_b83 k31 k41 G l0 l1 l3 x4 (1 : Int32)
      else
        f_Mo_settles_b82 k31 k41 G l0 l1 l3 x4
def f_Mo_settles_b41 (k31 : Hp → Nat → Int32 → Option (Int32 × Hp)) : Nat → Hp → Nat → Int32 → Int32 → Int32 → Option (Int32 × Hp)
  | 0, _, _, _, _, _ => none
  | nn + 1, G, l0, l1, l2, l3 => f_Mo_settles_b41_k k31 (f_Mo_settles_b41 k31 nn) G l0 l1 l2 l3
def f_Mo_settles_b31_k (k31 : Hp → Nat → Int32 → Option (Int32 × Hp)) (G : Hp) (l0 : Nat) (l1 : Int32) : Option (Int32 × Hp) :=
  if (99 : Int32) < l1 then
    some ((-1 : Int32), G)
  else
    f_Mo_settles_b41 k31 FU G l0 l1 (1 : Int32) (0 : Int32)
def f_Mo_settles_b31 : Nat → Hp → Nat → Int32 → Option (Int32 × Hp)
  | 0, _, _, _ => none
  | nn + 1, G, l0, l1 => f_Mo_settles_b31_k (f_Mo_settles_b31 nn) G l0 l1
def f_Mo_settles_b2_k (k2 : Hp → Nat → Int32 → Option (Int32 × Hp)) (G : Hp) (l0 : Nat) (l1 : Int32) : Option (Int32 × Hp) :=
  if (4 : Int32) ≤ l1 then
    f_Mo_settles_b31  FU G l0 (0 : Int32)
  else
    gR G 10 14 l0 fun x1 =>
    gR G 10 0 l0 fun x2 =>
    aI G 11 x2 ((154 : Int32) + l1) fun x3 =>
    sI G 11 x1 l1 x3 fun G4 =>
    k2 G4 l0 (l1 + 1)
def f_Mo_settles_b2 : Nat → Hp → Nat → Int32 → Option (Int32 × Hp)
  | 0, _, _, _ => none
  | nn + 1, G, l0, l1 => f_Mo_settles_b2_k (f_Mo_settles_b2 nn) G l0 l1
def f_Mo_settles (G : Hp) (l0 : Nat) : Option (Int32 × Hp) :=
  f_Mo_settles_b2  FU G l0 (0 : Int32)
def f_Mo_told_b29 (G : Hp) (l0 : Nat) : Option (Int32 × Hp) :=
  vH G 10 l0 (f_Mo_bad G l0 (-2 : Int32)) fun x1 G2 =>
  some (x1, G2)
def f_Mo_told (G : Hp) (l0 : Nat) (l1 : Int32) (l2 : Int32) (l3 : Int32) : Option (Int32 × Hp) :=
  vP G 10 l0 (f_Mo_isFavour G l0 l1) fun x1 =>
  if x1 = 0 then
    f_Mo_told_b29  G l0
  else
    vP G 10 l0 (f_Mo_isOne G l0 l2) fun x2 =>
    if x2 = 0 then
      f_Mo_told_b29  G l0
    else
      vP G 10 l0 (f_Mo_isOne G l0 l3) fun x3 =>
      if x3 = 0 then
        f_Mo_told_b29  G l0
      else
        if l2 = l3 then
          f_Mo_told_b29  G l0
        else
          gR G 10 0 l0 fun x4 =>
          aI G 11 x4 (160 : Int32) fun x5 =>
          if x5 = (12 : Int32) then
            vH G 10 l0 (f_Mo_full G l0) fun x15 G16 =>
            some (x15, G16)
          else
            gR G 10 0 l0 fun x6 =>
            sI G 11 x6 ((118 : Int32) + ((3 : Int32) * x5)) l1 fun G7 =>
            gR G7 10 0 l0 fun x8 =>
            sI G7 11 x8 (((118 : Int32) + ((3 : Int32) * x5)) + (1 : Int32)) l2 fun G9 =>
            gR G9 10 0 l0 fun x10 =>
            sI G9 11 x10 (((118 : Int32) + ((3 : Int32) * x5)) + (2 : Int32)) l3 fun G11 =>
            gR G11 10 0 l0 fun x12 =>
            aI G11 11 x12 (160 : Int32) fun x13 =>
            sI G11 11 x12 (160 : Int32) (x13 + (1 : Int32)) fun G14 =>
            some (x5, G14)
def f_Mo_forged_b92 (G : Hp) (l1 : Int32) : Option (Int32 × Hp) :=
  some (l1, G)
def f_Mo_forged_b128 (k34 : Hp → Nat → Int32 → Option (Int32 × Hp)) (G : Hp) (l0 : Nat) (l1 : Int32) (s0 : Nat) (s1 : Int32) (s2 : Int32) : Option (Int32 × Hp) :=
  sI G 11 s0 s1 s2 fun G1 =>
  k34 G1 l0 (l1 + 1)
def f_Mo_forged_b34_k (k34 : Hp → Nat → Int32 → Option (Int32 × Hp)) (G : Hp) (l0 : Nat) (l1 : Int32) : Option (Int32 × Hp) :=
  gR G 10 0 l0 fun x1 =>
  aI G 11 x1 (160 : Int32) fun x2 =>
  if x2 ≤ l1 then
    some ((-1 : Int32), G)
  else
    gR G 10 0 l0 fun x3 =>
    aI G 11 x3 ((118 : Int32) + ((3 : Int32) * l1)) fun x4 =>
    gR G 10 0 l0 fun x5 =>
    aI G 11 x5 (158 : Int32) fun x6 =>
    if x6 ≤ x4 then
      f_Mo_forged_b92  G l1
    else
      gR G 10 15 l0 fun x7 =>
      aI G 11 x7 x4 fun x8 =>
      gR G 10 0 l0 fun x9 =>
      aI G 11 x9 (((118 : Int32) + ((3 : Int32) * l1)) + (1 : Int32)) fun x10 =>
      if x8 = x10 then
        gR G 10 0 l0 fun x11 =>
        aI G 11 x11 (((118 : Int32) + ((3 : Int32) * l1)) + (2 : Int32)) fun x12 =>
        gR G 10 15 l0 fun x13 =>
        vP G 10 l0 (f_Mo_told0 G l0 x4 (1 : Int32)) fun x14 =>
        if x12 = x14 then
          f_Mo_forged_b128 k34 G l0 l1 x13 x4 (-1 : Int32)
        else
          f_Mo_forged_b128 k34 G l0 l1 x13 x4 x12
      else
        f_Mo_forged_b92  G l1
def f_Mo_forged_b34 : Nat → Hp → Nat → Int32 → Option (Int32 × Hp)
  | 0, _, _, _ => none
  | nn + 1, G, l0, l1 => f_Mo_forged_b34_k (f_Mo_forged_b34 nn) G l0 l1
def f_Mo_forged_b2_k (k2 : Hp → Nat → Int32 → Option (Int32 × Hp)) (G : Hp) (l0 : Nat) (l1 : Int32) : Option (Int32 × Hp) :=
  gR G 10 0 l0 fun x1 =>
  aI G 11 x1 (158 : Int32) fun x2 =>
  if x2 ≤ l1 then
    f_Mo_forged_b34  FU G l0 (0 : Int32)
  else
    gR G 10 15 l0 fun x3 =>
    vP G 10 l0 (f_Mo_told0 G l0 l1 (2 : Int32)) fun x4 =>
    sI G 11 x3 l1 x4 fun G5 =>
    k2 G5 l0 (l1 + 1)
def f_Mo_forged_b2 : Nat → Hp → Nat → Int32 → Option (Int32 × Hp)
  | 0, _, _, _ => none
  | nn + 1, G, l0, l1 => f_Mo_forged_b2_k (f_Mo_forged_b2 nn) G l0 l1
def f_Mo_forged (G : Hp) (l0 : Nat) : Option (Int32 × Hp) :=
  f_Mo_forged_b2  FU G l0 (0 : Int32)
def f_Mo_forget (G : Hp) (l0 : Nat) : Option (Int32 × Hp) :=
  gR G 10 0 l0 fun x1 =>
  aI G 11 x1 (160 : Int32) fun x2 =>
  gR G 10 0 l0 fun x3 =>
  sI G 11 x3 (160 : Int32) (0 : Int32) fun G4 =>
  some (x2, G4)
def f_Mo_goesOff_b27_k (k27 : Hp → Nat → Int32 → Int32 → Int32 → Option (Int32 × Hp)) (G : Hp) (l0 : Nat) (l1 : Int32) (l2 : Int32) (l3 : Int32) : Option (Int32 × Hp) :=
  gR G 10 0 l0 fun x1 =>
  aI G 11 x1 (158 : Int32) fun x2 =>
  if x2 ≤ l3 then
    some (l2, G)
  else
    vP G 10 l0 (f_Mo_valueNow G l0 l3) fun x3 =>
    vP G 10 l0 (f_Mo_valueOf G l0 l3 l1) fun x4 =>
    cP (f_Mo_notBelow0 G (x3 - x4)) fun x5 =>
    lt (l2 + x5) fun x6 =>
    k27 G l0 l1 x6 (l3 + 1)
def f_Mo_goesOff_b27 : Nat → Hp → Nat → Int32 → Int32 → Int32 → Option (Int32 × Hp)
  | 0, _, _, _, _, _ => none
  | nn + 1, G, l0, l1, l2, l3 => f_Mo_goesOff_b27_k (f_Mo_goesOff_b27 nn) G l0 l1 l2 l3
def f_Mo_goesOff (G : Hp) (l0 : Nat) (l1 : Int32) : Option (Int32 × Hp) :=
  vP G 10 l0 (f_Mo_day G l0) fun x1 =>
  cP (f_Mo_in G l1.toInt64 x1.toInt64 (99 : Int64)) fun x2 =>
  if x2 = 0 then
    vH G 10 l0 (f_Mo_bad G l0 (-2 : Int32)) fun x3 G4 =>
    some (x3, G4)
  else
    f_Mo_goesOff_b27  FU G l0 l1 (0 : Int32) (0 : Int32)
def f_Mo_kept_b24 (G : Hp) (l0 : Nat) : Option (Int32 × Hp) :=
  vH G 10 l0 (f_Mo_bad G l0 (-2 : Int32)) fun x1 G2 =>
  some (x1, G2)
def f_Mo_kept_b90 (k46 : Hp → Nat → Int32 → Int32 → Int64 → Int64 → Int64 → Int32 → Option (Int32 × Hp)) (k62 : Hp → Nat → Int32 → Int32 → Int64 → Int64 → Int64 → Int32 → Int64 → Int32 → Option (Int32 × Hp)) (G : Hp) (l0 : Nat) (l1 : Int32) (l2 : Int32) (l3 : Int64) (l5 : Int64) (l7 : Int64) (l9 : Int32) (l12 : Int32) (s0 : Int64) (s1 : Int64) : Option (Int32 × Hp) :=
  lt (s0 * s1) fun x1 =>
  k62 G l0 l1 l2 l3 l5 l7 l9 x1 (l12 + 1)
def f_Mo_kept_b151 (k46 : Hp → Nat → Int32 → Int32 → Int64 → Int64 → Int64 → Int32 → Option (Int32 × Hp)) (G : Hp) (l0 : Nat) (l1 : Int32) (l2 : Int32) (l3 : Int64) (l7 : Int64) (l9 : Int32) (s0 : Int64) (s1 : Int64) : Option (Int32 × Hp) :=
  lt (s0 * s1) fun x1 =>
  k46 G l0 l1 l2 l3 x1 l7 (l9 + 1)
def f_Mo_kept_b112 (k46 : Hp → Nat → Int32 → Int32 → Int64 → Int64 → Int64 → Int32 → Option (Int32 × Hp)) (G : Hp) (l0 : Nat) (l1 : Int32) (l2 : Int32) (l5 : Int64) (l7 : Int64) (l9 : Int32) (s0 : Int64) (s1 : Int64) : Option (Int32 × Hp) :=
  lt (s0 + s1) fun x1 =>
  gI G 10 12 l0 fun x2 =>
  dL ((l9 + (1 : Int32)).toInt64) <|
  lt ((l7 * ((x2 - l9).toInt64)) / ((l9 + (1 : Int32)).toInt64)) fun x3 =>
  gI G 10 12 l0 fun x4 =>
  if x4 ≤ l9 then
    f_Mo_kept_b151 k46 G l0 l1 l2 x1 x3 l9 l5 (1 : Int64)
  else
    f_Mo_kept_b151 k46 G l0 l1 l2 x1 x3 l9 l5 (10 : Int64)
def f_Mo_kept_b62_k (k46 : Hp → Nat → Int32 → Int32 → Int64 → Int64 → Int64 → Int32 → Option (Int32 × Hp)) (k62 : Hp → Nat → Int32 → Int32 → Int64 → Int64 → Int64 → Int32 → Int64 → Int32 → Option (Int32 × Hp)) (G : Hp) (l0 : Nat) (l1 : Int32) (l2 : Int32) (l3 : Int64) (l5 : Int64) (l7 : Int64) (l9 : Int32) (l10 : Int64) (l12 : Int32) : Option (Int32 × Hp) :=
  gI G 10 12 l0 fun x1 =>
  if x1 ≤ l12 then
    if l2 ≤ l9 then
      f_Mo_kept_b112 k46 G l0 l1 l2 l5 l7 l9 l3 l10
    else
      f_Mo_kept_b112 k46 G l0 l1 l2 l5 l7 l9 l3 (0 : Int64)
  else
    if l9 ≤ l12 then
      f_Mo_kept_b90 k46 k62 G l0 l1 l2 l3 l5 l7 l9 l12 l10 (((10 : Int32) - l1).toInt64)
    else
      f_Mo_kept_b90 k46 k62 G l0 l1 l2 l3 l5 l7 l9 l12 l10 l1.toInt64
def f_Mo_kept_b62 (k46 : Hp → Nat → Int32 → Int32 → Int64 → Int64 → Int64 → Int32 → Option (Int32 × Hp)) : Nat → Hp → Nat → Int32 → Int32 → Int64 → Int64 → Int64 → Int32 → Int64 → Int32 → Option (Int32 × Hp)
  | 0, _, _, _, _, _, _, _, _, _, _ => none
  | nn + 1, G, l0, l1, l2, l3, l5, l7, l9, l10, l12 => f_Mo_kept_b62_k k46 (f_Mo_kept_b62 k46 nn) G l0 l1 l2 l3 l5 l7 l9 l10 l12
def f_Mo_kept_b46_k (k46 : Hp → Nat → Int32 → Int32 → Int64 → Int64 → Int64 → Int32 → Option (Int32 × Hp)) (G : Hp) (l0 : Nat) (l1 : Int32) (l2 : Int32) (l3 : Int64) (l5 : Int64) (l7 : Int64) (l9 : Int32) : Option (Int32 × Hp) :=
  gI G 10 12 l0 fun x1 =>
  if x1 < l9 then
    vH G 10 l0 (f_Mo_tells G l0 l3 l5) fun x2 G3 =>
    some (x2, G3)
  else
    f_Mo_kept_b62 k46 FU G l0 l1 l2 l3 l5 l7 l9 l7 (0 : Int32)
def f_Mo_kept_b46 : Nat → Hp → Nat → Int32 → Int32 → Int64 → Int64 → Int64 → Int32 → Option (Int32 × Hp)
  | 0, _, _, _, _, _, _, _, _ => none
  | nn + 1, G, l0, l1, l2, l3, l5, l7, l9 => f_Mo_kept_b46_k (f_Mo_kept_b46 nn) G l0 l1 l2 l3 l5 l7 l9
def f_Mo_kept (G : Hp) (l0 : Nat) (l1 : Int32) (l2 : Int32) : Option (Int32 × Hp) :=
  cP (f_Mo_in G l1.toInt64 (0 : Int64) (10 : Int64)) fun x1 =>
  if x1 = 0 then
    f_Mo_kept_b24  G l0
  else
    cP (f_Mo_in G l2.toInt64 (0 : Int64) (5 : Int64)) fun x2 =>
    if x2 = 0 then
      f_Mo_kept_b24  G l0
    else
      vP G 10 l0 (f_Mo_findMet G l0) fun G3 =>
      f_Mo_kept_b46  FU G3 l0 l1 l2 (0 : Int64) (1 : Int64) (1 : Int64) (0 : Int32)
def f_Mo_type_b41_k (k41 : Hp → Nat → Int64 → Int32 → Option (Int32 × Hp)) (G : Hp) (l0 : Nat) (l1 : Int64) (l4 : Int32) : Option (Int32 × Hp) :=
  if l4 < 0 then
    gI G 10 17 l0 fun x1 =>
    some (x1, G)
  else
    gR G 10 16 l0 fun x2 =>
    gI G 10 17 l0 fun x3 =>
    sI G 11 x2 x3 (((ushrL l1 ((8 : Int32) * l4)) &&& (255 : Int64)).toInt32) fun G4 =>
    gI G4 10 17 l0 fun x5 =>
    pI G4 10 17 l0 (x5 + (1 : Int32)) fun G6 =>
    k41 G6 l0 l1 (l4 + (-1))
def f_Mo_type_b41 : Nat → Hp → Nat → Int64 → Int32 → Option (Int32 × Hp)
  | 0, _, _, _, _ => none
  | nn + 1, G, l0, l1, l4 => f_Mo_type_b41_k (f_Mo_type_b41 nn) G l0 l1 l4
def f_Mo_type (G : Hp) (l0 : Nat) (l1 : Int64) (l3 : Int32) : Option (Int32 × Hp) :=
  cP (f_Mo_in G l3.toInt64 (1 : Int64) (8 : Int64)) fun x1 =>
  if x1 = 0 then
    vH G 10 l0 (f_Mo_bad G l0 (-2 : Int32)) fun x6 G7 =>
    some (x6, G7)
  else
    gI G 10 17 l0 fun x2 =>
    if (x2 + l3) ≤ (250 : Int32) then
      lt (l3 - (1 : Int32)) fun x3 =>
      f_Mo_type_b41  FU G l0 l1 x3
    else
      vH G 10 l0 (f_Mo_full G l0) fun x4 G5 =>
      some (x4, G5)
def f_Mo_clear (G : Hp) (l0 : Nat) : Option (Int32 × Hp) :=
  gI G 10 17 l0 fun x1 =>
  pI G 10 17 l0 (0 : Int32) fun G2 =>
  some (x1, G2)
def f_Mo_isSmall (G : Hp) (l0 : Int32) : Option Int32 :=
  cP (f_Mo_in G l0.toInt64 (97 : Int64) (122 : Int64)) fun x1 =>
  zR x1 <|
  some x1
def f_Mo_isFigure (G : Hp) (l0 : Int32) : Option Int32 :=
  cP (f_Mo_in G l0.toInt64 (48 : Int64) (57 : Int64)) fun x1 =>
  zR x1 <|
  some x1
def f_Mo_lookAt_b208 (k136 : Hp → Nat → Int32 → Option Hp) (G : Hp) (l0 : Nat) (l3 : Int32) (s0 : Nat) (s1 : Int32) (s2 : Int32) : Option Hp :=
  pI G 10 19 s0 (s1 + s2) fun G1 =>
  k136 G1 l0 l3
def f_Mo_lookAt_b193 (k136 : Hp → Nat → Int32 → Option Hp) (G : Hp) (l0 : Nat) (s0 : Int32) : Option Hp :=
  gI G 10 19 l0 fun x1 =>
  if s0 = 0 then
    f_Mo_lookAt_b208 k136 G l0 s0 l0 x1 (0 : Int32)
  else
    f_Mo_lookAt_b208 k136 G l0 s0 l0 x1 (1 : Int32)
def f_Mo_lookAt_b299 (G : Hp) (s0 : Nat) (s1 : Int32) : Option Hp :=
  pI G 10 20 s0 s1 fun G1 =>
  some G1
def f_Mo_lookAt_b295 (G : Hp) (l0 : Nat) (s0 : Nat) : Option Hp :=
  gI G 10 20 l0 fun x1 =>
  f_Mo_lookAt_b299  G s0 x1
def f_Mo_lookAt_b274 (G : Hp) (l0 : Nat) : Option Hp :=
  gI G 10 20 l0 fun x1 =>
  if x1 = (2 : Int32) then
    gI G 10 19 l0 fun x2 =>
    if x2 ≤ (2 : Int32) then
      f_Mo_lookAt_b295  G l0 l0
    else
      f_Mo_lookAt_b299  G l0 (4 : Int32)
  else
    f_Mo_lookAt_b295  G l0 l0
def f_Mo_lookAt_b218_k (k218 : Hp → Nat → Int32 → Option Hp) (G : Hp) (l0 : Nat) (l4 : Int32) : Option Hp :=
  gI G 10 19 l0 fun x1 =>
  if x1 ≤ l4 then
    f_Mo_lookAt_b274  G l0
  else
    if (2 : Int32) ≤ l4 then
      f_Mo_lookAt_b274  G l0
    else
      gI G 10 20 l0 fun x2 =>
      if x2 = (2 : Int32) then
        gI G 10 21 l0 fun x3 =>
        gR G 10 16 l0 fun x4 =>
        gI G 10 18 l0 fun x5 =>
        aI G 11 x4 (x5 + l4) fun x6 =>
        pI G 10 21 l0 ((((10 : Int32) * x3) + x6) - (48 : Int32)) fun G7 =>
        k218 G7 l0 (l4 + 1)
      else
        f_Mo_lookAt_b274  G l0
def f_Mo_lookAt_b218 : Nat → Hp → Nat → Int32 → Option Hp
  | 0, _, _, _ => none
  | nn + 1, G, l0, l4 => f_Mo_lookAt_b218_k (f_Mo_lookAt_b218 nn) G l0 l4
def f_Mo_lookAt_b215 (G : Hp) (l0 : Nat) : Option Hp :=
  f_Mo_lookAt_b218  FU G l0 (0 : Int32)
def f_Mo_lookAt_b136_k (k136 : Hp → Nat → Int32 → Option Hp) (G : Hp) (l0 : Nat) (l3 : Int32) : Option Hp :=
  if l3 = 0 then
    f_Mo_lookAt_b215  G l0
  else
    gI G 10 18 l0 fun x1 =>
    gI G 10 19 l0 fun x2 =>
    gI G 10 17 l0 fun x3 =>
    if x3 ≤ (x1 + x2) then
      f_Mo_lookAt_b215  G l0
    else
      gR G 10 16 l0 fun x4 =>
      gI G 10 18 l0 fun x5 =>
      gI G 10 19 l0 fun x6 =>
      aI G 11 x4 (x5 + x6) fun x7 =>
      gI G 10 20 l0 fun x8 =>
      if x8 = (1 : Int32) then
        cP (f_Mo_isSmall G x7) fun x10 =>
        f_Mo_lookAt_b193 k136 G l0 x10
      else
        cP (f_Mo_isFigure G x7) fun x9 =>
        f_Mo_lookAt_b193 k136 G l0 x9
def f_Mo_lookAt_b136 : Nat → Hp → Nat → Int32 → Option Hp
  | 0, _, _, _ => none
  | nn + 1, G, l0, l3 => f_Mo_lookAt_b136_k (f_Mo_lookAt_b136 nn) G l0 l3
def f_Mo_lookAt_b135 (G : Hp) (l0 : Nat) (s0 : Int32) : Option Hp :=
  f_Mo_lookAt_b136  FU G l0 s0
def f_Mo_lookAt_b114 (G : Hp) (l0 : Nat) (s0 : Nat) (s1 : Int32) : Option Hp :=
  pI G 10 20 s0 s1 fun G1 =>
  pI G1 10 19 l0 (1 : Int32) fun G2 =>
  gI G2 10 20 l0 fun x3 =>
  if (3 : Int32) ≤ x3 then
    f_Mo_lookAt_b135  G2 l0 (0 : Int32)
  else
    f_Mo_lookAt_b135  G2 l0 (1 : Int32)
def f_Mo_lookAt_b43 (G : Hp) (l0 : Nat) : Option Hp :=
  pI G 10 19 l0 (0 : Int32) fun G1 =>
  pI G1 10 20 l0 (0 : Int32) fun G2 =>
  pI G2 10 21 l0 (0 : Int32) fun G3 =>
  gI G3 10 18 l0 fun x4 =>
  gI G3 10 17 l0 fun x5 =>
  if x4 = x5 then
    some G3
  else
    gR G3 10 16 l0 fun x6 =>
    gI G3 10 18 l0 fun x7 =>
    aI G3 11 x6 x7 fun x8 =>
    cP (f_Mo_isSmall G3 x8) fun x9 =>
    if x9 = 0 then
      cP (f_Mo_isFigure G3 x8) fun x10 =>
      if x10 = 0 then
        if x8 = (59 : Int32) then
          f_Mo_lookAt_b114  G3 l0 l0 (3 : Int32)
        else
          f_Mo_lookAt_b114  G3 l0 l0 (4 : Int32)
      else
        f_Mo_lookAt_b114  G3 l0 l0 (2 : Int32)
    else
      f_Mo_lookAt_b114  G3 l0 l0 (1 : Int32)
def f_Mo_lookAt_b5_k (k5 : Hp → Nat → Option Hp) (G : Hp) (l0 : Nat) : Option Hp :=
  gI G 10 18 l0 fun x1 =>
  gI G 10 17 l0 fun x2 =>
  if x2 ≤ x1 then
    f_Mo_lookAt_b43  G l0
  else
    gR G 10 16 l0 fun x3 =>
    gI G 10 18 l0 fun x4 =>
    aI G 11 x3 x4 fun x5 =>
    if x5 = (32 : Int32) then
      gI G 10 18 l0 fun x6 =>
      pI G 10 18 l0 (x6 + (1 : Int32)) fun G7 =>
      k5 G7 l0
    else
      f_Mo_lookAt_b43  G l0
def f_Mo_lookAt_b5 : Nat → Hp → Nat → Option Hp
  | 0, _, _ => none
  | nn + 1, G, l0 => f_Mo_lookAt_b5_k (f_Mo_lookAt_b5 nn) G l0
def f_Mo_lookAt (G : Hp) (l0 : Nat) (l1 : Int32) : Option Hp :=
  pI G 10 18 l0 l1 fun G1 =>
  f_Mo_lookAt_b5  FU G1 l0
def f_Mo_goOn (G : Hp) (l0 : Nat) : Option Hp :=
  gI G 10 18 l0 fun x1 =>
  gI G 10 19 l0 fun x2 =>
  vP G 10 l0 (f_Mo_lookAt G l0 (x1 + x2)) fun G3 =>
  some G3
def f_Mo_isWord_b125 (G : Hp) (k40 : Nat → Int32 → Int32 → Int32 → Int32 → Int32 → Int32 → Int32 → Int32 → Int32 → Option Int32) (l0 : Nat) (l1 : Int32) (l2 : Int32) (l3 : Int32) (l4 : Int32) (l5 : Int32) (l6 : Int32) (l7 : Int32) (l9 : Int32) (s0 : Int32) : Option Int32 :=
  k40 l0 l1 l2 l3 l4 l5 l6 l7 s0 (l9 + 1)
def f_Mo_isWord_b117 (G : Hp) (k40 : Nat → Int32 → Int32 → Int32 → Int32 → Int32 → Int32 → Int32 → Int32 → Int32 → Option Int32) (l0 : Nat) (l1 : Int32) (l2 : Int32) (l3 : Int32) (l4 : Int32) (l5 : Int32) (l6 : Int32) (l7 : Int32) (l9 : Int32) (s0 : Int32) (s1 : Int32) : Option Int32 :=
  if s0 = s1 then
    f_Mo_isWord_b125 G k40 l0 l1 l2 l3 l4 l5 l6 l7 l9 (1 : Int32)
  else
    f_Mo_isWord_b125 G k40 l0 l1 l2 l3 l4 l5 l6 l7 l9 (0 : Int32)
def f_Mo_isWord_b133 (G : Hp) (l8 : Int32) : Option Int32 :=
  zR l8 <|
  some l8
def f_Mo_isWord_b40_k (G : Hp) (k40 : Nat → Int32 → Int32 → Int32 → Int32 → Int32 → Int32 → Int32 → Int32 → Int32 → Option Int32) (l0 : Nat) (l1 : Int32) (l2 : Int32) (l3 : Int32) (l4 : Int32) (l5 : Int32) (l6 : Int32) (l7 : Int32) (l8 : Int32) (l9 : Int32) : Option Int32 :=
  if l7 ≤ l9 then
    f_Mo_isWord_b133 G  l8
  else
    if l8 = 0 then
      f_Mo_isWord_b133 G  l8
    else
      gR G 10 16 l0 fun x1 =>
      gI G 10 18 l0 fun x2 =>
      aI G 11 x1 (x2 + l9) fun x3 =>
      if l9 = 0 then
        f_Mo_isWord_b117 G k40 l0 l1 l2 l3 l4 l5 l6 l7 l9 x3 l1
      else
        if l9 = (1 : Int32) then
          f_Mo_isWord_b117 G k40 l0 l1 l2 l3 l4 l5 l6 l7 l9 x3 l2
        else
          if l9 = (2 : Int32) then
            f_Mo_isWord_b117 G k40 l0 l1 l2 l3 l4 l5 l6 l7 l9 x3 l3
          else
            if l9 = (3 : Int32) then
              f_Mo_isWord_b117 G k40 l0 l1 l2 l3 l4 l5 l6 l7 l9 x3 l4
            else
              if l9 = (4 : Int32) then
                f_Mo_isWord_b117 G k40 l0 l1 l2 l3 l4 l5 l6 l7 l9 x3 l5
              else
                f_Mo_isWord_b117 G k40 l0 l1 l2 l3 l4 l5 l6 l7 l9 x3 l6
def f_Mo_isWord_b40 (G : Hp) : Nat → Nat → Int32 → Int32 → Int32 → Int32 → Int32 → Int32 → Int32 → Int32 → Int32 → Option Int32
  | 0, _, _, _, _, _, _, _, _, _, _ => none
  | nn + 1, l0, l1, l2, l3, l4, l5, l6, l7, l8, l9 => f_Mo_isWord_b40_k G (f_Mo_isWord_b40 G nn) l0 l1 l2 l3 l4 l5 l6 l7 l8 l9
def f_Mo_isWord_b35 (G : Hp) (l0 : Nat) (l1 : Int32) (l2 : Int32) (l3 : Int32) (l4 : Int32) (l5 : Int32) (l6 : Int32) (l7 : Int32) (s0 : Int32) : Option Int32 :=
  f_Mo_isWord_b40 G  FU l0 l1 l2 l3 l4 l5 l6 l7 s0 (0 : Int32)
def f_Mo_isWord_b34 (G : Hp) (l0 : Nat) (l1 : Int32) (l2 : Int32) (l3 : Int32) (l4 : Int32) (l5 : Int32) (l6 : Int32) (l7 : Int32) : Option Int32 :=
  f_Mo_isWord_b35 G  l0 l1 l2 l3 l4 l5 l6 l7 (0 : Int32)
def f_Mo_isWord_b11 (G : Hp) (l0 : Nat) (l1 : Int32) (l2 : Int32) (l3 : Int32) (l4 : Int32) (l5 : Int32) (l6 : Int32) (s0 : Int32) : Option Int32 :=
  gI G 10 20 l0 fun x1 =>
  if x1 = (1 : Int32) then
    gI G 10 19 l0 fun x2 =>
    if x2 = s0 then
      f_Mo_isWord_b35 G  l0 l1 l2 l3 l4 l5 l6 s0 (1 : Int32)
    else
      f_Mo_isWord_b34 G  l0 l1 l2 l3 l4 l5 l6 s0
  else
    f_Mo_isWord_b34 G  l0 l1 l2 l3 l4 l5 l6 s0
def f_Mo_isWord (G : Hp) (l0 : Nat) (l1 : Int32) (l2 : Int32) (l3 : Int32) (l4 : Int32) (l5 : Int32) (l6 : Int32) : Option Int32 :=
  if l5 = 0 then
    f_Mo_isWord_b11 G  l0 l1 l2 l3 l4 l5 l6 (4 : Int32)
  else
    f_Mo_isWord_b11 G  l0 l1 l2 l3 l4 l5 l6 (6 : Int32)
def f_Mo_takes_b23 (G : Hp) : Option (Int32 × Hp) :=
  some ((0 : Int32), G)
def f_Mo_takes (G : Hp) (l0 : Nat) (l1 : Int32) (l2 : Int32) (l3 : Int32) : Option (Int32 × Hp) :=
  gI G 10 20 l0 fun x1 =>
  if x1 = (2 : Int32) then
    gI G 10 21 l0 fun x2 =>
    cP (f_Mo_in G x2.toInt64 l2.toInt64 l3.toInt64) fun x3 =>
    if x3 = 0 then
      f_Mo_takes_b23  G 
    else
      gR G 10 23 l0 fun x4 =>
      gI G 10 21 l0 fun x5 =>
      sI G 11 x4 l1 x5 fun G6 =>
      vP G6 10 l0 (f_Mo_goOn G6 l0) fun G7 =>
      some ((1 : Int32), G7)
  else
    f_Mo_takes_b23  G 
def f_Mo_readsStrong_b32 (G : Hp) : Option (Int32 × Hp) :=
  some ((0 : Int32), G)
def f_Mo_readsStrong (G : Hp) (l0 : Nat) : Option (Int32 × Hp) :=
  vP G 10 l0 (f_Mo_goOn G l0) fun G1 =>
  gR G1 10 22 l0 fun x2 =>
  aI G1 11 x2 (1 : Int32) fun x3 =>
  vH G1 10 l0 (f_Mo_takes G1 l0 (0 : Int32) (0 : Int32) (x3 - (1 : Int32))) fun x4 G5 =>
  if x4 = 0 then
    f_Mo_readsStrong_b32  G5 
  else
    vH G5 10 l0 (f_Mo_takes G5 l0 (1 : Int32) (0 : Int32) (99 : Int32)) fun x6 G7 =>
    if x6 = 0 then
      f_Mo_readsStrong_b32  G7 
    else
      gR G7 10 22 l0 fun x8 =>
      gR G7 10 23 l0 fun x9 =>
      aI G7 11 x9 (0 : Int32) fun x10 =>
      gR G7 10 23 l0 fun x11 =>
      aI G7 11 x11 (1 : Int32) fun x12 =>
      sI G7 11 x8 ((2 : Int32) + x10) x12 fun G13 =>
      some ((1 : Int32), G13)
def f_Mo_readsFavour_b48 (G : Hp) : Option (Int32 × Hp) :=
  some ((0 : Int32), G)
def f_Mo_readsFavour_b88 (G : Hp) : Option (Int32 × Hp) :=
  some ((0 : Int32), G)
def f_Mo_readsFavour_b122 (G : Hp) : Option (Int32 × Hp) :=
  some ((0 : Int32), G)
def f_Mo_readsFavour_b71 (G : Hp) (l0 : Nat) (l1 : Int32) : Option (Int32 × Hp) :=
  gR G 10 22 l0 fun x1 =>
  aI G 11 x1 (1 : Int32) fun x2 =>
  vH G 10 l0 (f_Mo_takes G l0 (2 : Int32) (0 : Int32) (x2 - (1 : Int32))) fun x3 G4 =>
  if x3 = 0 then
    f_Mo_readsFavour_b88  G4 
  else
    vH G4 10 l0 (f_Mo_takes G4 l0 (3 : Int32) (0 : Int32) (3 : Int32)) fun x5 G6 =>
    if x5 = 0 then
      f_Mo_readsFavour_b122  G6 
    else
      vH G6 10 l0 (f_Mo_takes G6 l0 (4 : Int32) (1 : Int32) (40 : Int32)) fun x7 G8 =>
      if x7 = 0 then
        f_Mo_readsFavour_b122  G8 
      else
        vH G8 10 l0 (f_Mo_takes G8 l0 (5 : Int32) (0 : Int32) (99 : Int32)) fun x9 G10 =>
        if x9 = 0 then
          f_Mo_readsFavour_b122  G10 
        else
          gR G10 10 22 l0 fun x11 =>
          gR G10 10 23 l0 fun x12 =>
          aI G10 11 x12 (0 : Int32) fun x13 =>
          gR G10 10 23 l0 fun x14 =>
          aI G10 11 x14 (1 : Int32) fun x15 =>
          gR G10 10 23 l0 fun x16 =>
          aI G10 11 x16 (2 : Int32) fun x17 =>
          gR G10 10 23 l0 fun x18 =>
          aI G10 11 x18 (3 : Int32) fun x19 =>
          gR G10 10 23 l0 fun x20 =>
          aI G10 11 x20 (4 : Int32) fun x21 =>
          gR G10 10 23 l0 fun x22 =>
          aI G10 11 x22 (5 : Int32) fun x23 =>
          cP (f_Mo_layFavour G10 x11 l1 x13 x15 x17 x19 x21 x23 (0 : Int32)) fun G24 =>
          gR G24 10 22 l0 fun x25 =>
          aI G24 11 x25 (158 : Int32) fun x26 =>
          sI G24 11 x25 (158 : Int32) (x26 + (1 : Int32)) fun G27 =>
          some ((1 : Int32), G27)
def f_Mo_readsFavour (G : Hp) (l0 : Nat) : Option (Int32 × Hp) :=
  gR G 10 22 l0 fun x1 =>
  aI G 11 x1 (158 : Int32) fun x2 =>
  if x2 = (12 : Int32) then
    some ((0 : Int32), G)
  else
    vP G 10 l0 (f_Mo_goOn G l0) fun G3 =>
    vH G3 10 l0 (f_Mo_takes G3 l0 (0 : Int32) (0 : Int32) (4 : Int32)) fun x4 G5 =>
    if x4 = 0 then
      f_Mo_readsFavour_b48  G5 
    else
      gR G5 10 22 l0 fun x6 =>
      aI G5 11 x6 (1 : Int32) fun x7 =>
      vH G5 10 l0 (f_Mo_takes G5 l0 (1 : Int32) (0 : Int32) (x7 - (1 : Int32))) fun x8 G9 =>
      if x8 = 0 then
        f_Mo_readsFavour_b48  G9 
      else
        gI G9 10 20 l0 fun x10 =>
        if x10 = (2 : Int32) then
          gI G9 10 21 l0 fun x11 =>
          gR G9 10 23 l0 fun x12 =>
          aI G9 11 x12 (1 : Int32) fun x13 =>
          if x11 = x13 then
            f_Mo_readsFavour_b88  G9 
          else
            f_Mo_readsFavour_b71  G9 l0 x2
        else
          f_Mo_readsFavour_b71  G9 l0 x2
def f_Mo_readsNeed_b69 (G : Hp) : Option (Int32 × Hp) :=
  some ((0 : Int32), G)
def f_Mo_readsNeed (G : Hp) (l0 : Nat) : Option (Int32 × Hp) :=
  gR G 10 22 l0 fun x1 =>
  aI G 11 x1 (159 : Int32) fun x2 =>
  if x2 = (5 : Int32) then
    some ((0 : Int32), G)
  else
    vP G 10 l0 (f_Mo_goOn G l0) fun G3 =>
    gR G3 10 22 l0 fun x4 =>
    aI G3 11 x4 (1 : Int32) fun x5 =>
    vH G3 10 l0 (f_Mo_takes G3 l0 (0 : Int32) (0 : Int32) (x5 - (1 : Int32))) fun x6 G7 =>
    if x6 = 0 then
      f_Mo_readsNeed_b69  G7 
    else
      vH G7 10 l0 (f_Mo_takes G7 l0 (1 : Int32) (0 : Int32) (3 : Int32)) fun x8 G9 =>
      if x8 = 0 then
        f_Mo_readsNeed_b69  G9 
      else
        vH G9 10 l0 (f_Mo_takes G9 l0 (2 : Int32) (1 : Int32) (40 : Int32)) fun x10 G11 =>
        if x10 = 0 then
          f_Mo_readsNeed_b69  G11 
        else
          vH G11 10 l0 (f_Mo_takes G11 l0 (3 : Int32) (0 : Int32) (99 : Int32)) fun x12 G13 =>
          if x12 = 0 then
            f_Mo_readsNeed_b69  G13 
          else
            gR G13 10 22 l0 fun x14 =>
            gR G13 10 23 l0 fun x15 =>
            aI G13 11 x15 (0 : Int32) fun x16 =>
            gR G13 10 23 l0 fun x17 =>
            aI G13 11 x17 (1 : Int32) fun x18 =>
            gR G13 10 23 l0 fun x19 =>
            aI G13 11 x19 (2 : Int32) fun x20 =>
            gR G13 10 23 l0 fun x21 =>
            aI G13 11 x21 (3 : Int32) fun x22 =>
            cP (f_Mo_layNeed G13 x14 x2 x16 x18 x20 x22) fun G23 =>
            gR G23 10 22 l0 fun x24 =>
            aI G23 11 x24 (159 : Int32) fun x25 =>
            sI G23 11 x24 (159 : Int32) (x25 + (1 : Int32)) fun G26 =>
            some ((1 : Int32), G26)
def f_Mo_readsItem_b130 (G : Hp) (s0 : Int32) : Option (Int32 × Hp) :=
  zR s0 <|
  some (s0, G)
def f_Mo_readsItem_b129 (G : Hp) : Option (Int32 × Hp) :=
  f_Mo_readsItem_b130  G (0 : Int32)
def f_Mo_readsItem (G : Hp) (l0 : Nat) (l1 : Int32) : Option (Int32 × Hp) :=
  if l1 = 0 then
    vP G 10 l0 (f_Mo_isWord G l0 (115 : Int32) (116 : Int32) (114 : Int32) (111 : Int32) (110 : Int32) (103 : Int32)) fun x1 =>
    if x1 = 0 then
      vP G 10 l0 (f_Mo_isWord G l0 (102 : Int32) (97 : Int32) (118 : Int32) (111 : Int32) (117 : Int32) (114 : Int32)) fun x2 =>
      if x2 = 0 then
        vP G 10 l0 (f_Mo_isWord G l0 (110 : Int32) (101 : Int32) (101 : Int32) (100 : Int32) (0 : Int32) (0 : Int32)) fun x3 =>
        if x3 = 0 then
          f_Mo_readsItem_b129  G 
        else
          vH G 10 l0 (f_Mo_readsNeed G l0) fun x4 G5 =>
          if x4 = 0 then
            f_Mo_readsItem_b129  G5 
          else
            f_Mo_readsItem_b130  G5 (1 : Int32)
      else
        vH G 10 l0 (f_Mo_readsFavour G l0) fun x6 G7 =>
        zR x6 <|
        some (x6, G7)
    else
      vH G 10 l0 (f_Mo_readsStrong G l0) fun x8 G9 =>
      zR x8 <|
      some (x8, G9)
  else
    vP G 10 l0 (f_Mo_isWord G l0 (112 : Int32) (101 : Int32) (111 : Int32) (112 : Int32) (108 : Int32) (101 : Int32)) fun x10 =>
    if x10 = 0 then
      some ((0 : Int32), G)
    else
      vP G 10 l0 (f_Mo_goOn G l0) fun G11 =>
      vH G11 10 l0 (f_Mo_takes G11 l0 (0 : Int32) (2 : Int32) (6 : Int32)) fun x12 G13 =>
      gR G13 10 22 l0 fun x14 =>
      gR G13 10 23 l0 fun x15 =>
      aI G13 11 x15 (0 : Int32) fun x16 =>
      cP (f_Mo_begin G13 x14 x16) fun G17 =>
      zR x12 <|
      some (x12, G17)
def f_Mo_read_b42 (G : Hp) (l0 : Nat) : Option (Int32 × Hp) :=
  gI G 10 18 l0 fun x1 =>
  some (((-10 : Int32) - x1), G)
def f_Mo_read_b28 (k7 : Hp → Nat → Int32 → Option (Int32 × Hp)) (G : Hp) (l0 : Nat) (l1 : Int32) (s0 : Nat) (s1 : Int32) : Option (Int32 × Hp) :=
  vH G 10 s0 (f_Mo_readsItem G s0 s1) fun x1 G2 =>
  if x1 = 0 then
    f_Mo_read_b42  G2 l0
  else
    gI G2 10 20 l0 fun x3 =>
    if x3 = (3 : Int32) then
      vP G2 10 l0 (f_Mo_goOn G2 l0) fun G4 =>
      k7 G4 l0 (l1 + 1)
    else
      f_Mo_read_b42  G2 l0
def f_Mo_read_b18 (k7 : Hp → Nat → Int32 → Option (Int32 × Hp)) (G : Hp) (l0 : Nat) (l1 : Int32) : Option (Int32 × Hp) :=
  if l1 = 0 then
    f_Mo_read_b28 k7 G l0 l1 l0 (1 : Int32)
  else
    f_Mo_read_b28 k7 G l0 l1 l0 (0 : Int32)
def f_Mo_read_b103 (k62 : Hp → Nat → Int32 → Int32 → Option (Int32 × Hp)) (G : Hp) (l0 : Nat) (l1 : Int32) (l2 : Int32) (s0 : Nat) (s1 : Int32) (s2 : Int32) : Option (Int32 × Hp) :=
  sI G 11 s0 s1 s2 fun G1 =>
  k62 G1 l0 l1 (l2 + 1)
def f_Mo_read_b62_k (k62 : Hp → Nat → Int32 → Int32 → Option (Int32 × Hp)) (G : Hp) (l0 : Nat) (l1 : Int32) (l2 : Int32) : Option (Int32 × Hp) :=
  if (161 : Int32) ≤ l2 then
    gR G 10 0 l0 fun x1 =>
    sI G 11 x1 (161 : Int32) (0 : Int32) fun G2 =>
    some (l1, G2)
  else
    gR G 10 0 l0 fun x3 =>
    cP (f_Mo_in G l2.toInt64 (154 : Int64) (157 : Int64)) fun x4 =>
    if x4 = 0 then
      gR G 10 22 l0 fun x5 =>
      aI G 11 x5 l2 fun x6 =>
      f_Mo_read_b103 k62 G l0 l1 l2 x3 l2 x6
    else
      gR G 10 0 l0 fun x7 =>
      aI G 11 x7 l2 fun x8 =>
      f_Mo_read_b103 k62 G l0 l1 l2 x3 l2 x8
def f_Mo_read_b62 : Nat → Hp → Nat → Int32 → Int32 → Option (Int32 × Hp)
  | 0, _, _, _, _ => none
  | nn + 1, G, l0, l1, l2 => f_Mo_read_b62_k (f_Mo_read_b62 nn) G l0 l1 l2
def f_Mo_read_b7_k (k7 : Hp → Nat → Int32 → Option (Int32 × Hp)) (G : Hp) (l0 : Nat) (l1 : Int32) : Option (Int32 × Hp) :=
  gI G 10 20 l0 fun x1 =>
  if x1 = 0 then
    if l1 = 0 then
      f_Mo_read_b18 k7 G l0 l1
    else
      f_Mo_read_b62  FU G l0 l1 (0 : Int32)
  else
    f_Mo_read_b18 k7 G l0 l1
def f_Mo_read_b7 : Nat → Hp → Nat → Int32 → Option (Int32 × Hp)
  | 0, _, _, _ => none
  | nn + 1, G, l0, l1 => f_Mo_read_b7_k (f_Mo_read_b7 nn) G l0 l1
def f_Mo_read (G : Hp) (l0 : Nat) : Option (Int32 × Hp) :=
  vP G 10 l0 (f_Mo_lookAt G l0 (0 : Int32)) fun G1 =>
  f_Mo_read_b7  FU G1 l0 (0 : Int32)
def f_Mo_part_b30 (G : Hp) (s0 : Int64) : Option (Int64 × Hp) :=
  some (s0, G)
def f_Mo_part (G : Hp) (l0 : Nat) (l1 : Int32) : Option (Int64 × Hp) :=
  if l1 = 0 then
    gL G 10 4 l0 fun x4 =>
    f_Mo_part_b30  G x4
  else
    if l1 = (1 : Int32) then
      gL G 10 5 l0 fun x3 =>
      f_Mo_part_b30  G x3
    else
      vH G 10 l0 (f_Mo_bad G l0 (-2 : Int32)) fun x1 G2 =>
      f_Mo_part_b30  G2 x1.toInt64
def f_Mo_image_b19_k (k19 : Hp → Nat → Int32 → Int32 → Option (Int32 × Hp)) (G : Hp) (l0 : Nat) (l1 : Int32) (l2 : Int32) : Option (Int32 × Hp) :=
  if (484 : Int32) ≤ l2 then
    gR G 10 2 l0 fun x1 =>
    sI G 12 x1 l1 (1 : Int32) fun G2 =>
    some ((1 : Int32), G2)
  else
    gR G 10 1 l0 fun x3 =>
    gR G 10 0 l0 fun x4 =>
    aI G 11 x4 l2 fun x5 =>
    sI G 11 x3 (((484 : Int32) * l1) + l2) x5 fun G6 =>
    k19 G6 l0 l1 (l2 + 1)
def f_Mo_image_b19 : Nat → Hp → Nat → Int32 → Int32 → Option (Int32 × Hp)
  | 0, _, _, _, _ => none
  | nn + 1, G, l0, l1, l2 => f_Mo_image_b19_k (f_Mo_image_b19 nn) G l0 l1 l2
def f_Mo_image (G : Hp) (l0 : Nat) (l1 : Int32) : Option (Int32 × Hp) :=
  cP (f_Mo_in G l1.toInt64 (0 : Int64) (1 : Int64)) fun x1 =>
  if x1 = 0 then
    vH G 10 l0 (f_Mo_bad G l0 (-2 : Int32)) fun x2 G3 =>
    some (x2, G3)
  else
    f_Mo_image_b19  FU G l0 l1 (0 : Int32)
def f_Mo_from_b35_k (k35 : Hp → Nat → Int32 → Int32 → Option (Int32 × Hp)) (G : Hp) (l0 : Nat) (l1 : Int32) (l2 : Int32) : Option (Int32 × Hp) :=
  if (484 : Int32) ≤ l2 then
    some ((1 : Int32), G)
  else
    gR G 10 0 l0 fun x1 =>
    gR G 10 1 l0 fun x2 =>
    aI G 11 x2 (((484 : Int32) * l1) + l2) fun x3 =>
    sI G 11 x1 l2 x3 fun G4 =>
    k35 G4 l0 l1 (l2 + 1)
def f_Mo_from_b35 : Nat → Hp → Nat → Int32 → Int32 → Option (Int32 × Hp)
  | 0, _, _, _, _ => none
  | nn + 1, G, l0, l1, l2 => f_Mo_from_b35_k (f_Mo_from_b35 nn) G l0 l1 l2
def f_Mo_from (G : Hp) (l0 : Nat) (l1 : Int32) : Option (Int32 × Hp) :=
  cP (f_Mo_in G l1.toInt64 (0 : Int64) (1 : Int64)) fun x1 =>
  if x1 = 0 then
    vH G 10 l0 (f_Mo_bad G l0 (-2 : Int32)) fun x6 G7 =>
    some (x6, G7)
  else
    gR G 10 2 l0 fun x2 =>
    aI G 12 x2 l1 fun x3 =>
    if x3 = 0 then
      vH G 10 l0 (f_Mo_no G l0 (-3 : Int32)) fun x4 G5 =>
      some (x4, G5)
    else
      f_Mo_from_b35  FU G l0 l1 (0 : Int32)
def f_Mo_status_b26 (G : Hp) (s0 : Int32) : Option (Int32 × Hp) :=
  some (s0, G)
def f_Mo_status (G : Hp) (l0 : Nat) (l1 : Int32) : Option (Int32 × Hp) :=
  cP (f_Mo_in G l1.toInt64 (0 : Int64) (2 : Int64)) fun x1 =>
  if x1 = 0 then
    vH G 10 l0 (f_Mo_bad G l0 (-1 : Int32)) fun x2 G3 =>
    f_Mo_status_b26  G3 x2
  else
    gR G 10 3 l0 fun x4 =>
    aI G 11 x4 l1 fun x5 =>
    f_Mo_status_b26  G x5
def f_Mo_counted_b91 (G : Hp) (s0 : Int32) : Option Int32 :=
  some s0
def f_Mo_counted (G : Hp) (l0 : Nat) (l1 : Int32) : Option Int32 :=
  if l1 = 0 then
    vP G 10 l0 (f_Mo_many G l0) fun x11 =>
    f_Mo_counted_b91 G  x11
  else
    if l1 = (1 : Int32) then
      gR G 10 0 l0 fun x9 =>
      aI G 11 x9 (158 : Int32) fun x10 =>
      f_Mo_counted_b91 G  x10
    else
      if l1 = (2 : Int32) then
        gR G 10 0 l0 fun x7 =>
        aI G 11 x7 (159 : Int32) fun x8 =>
        f_Mo_counted_b91 G  x8
      else
        if l1 = (3 : Int32) then
          gR G 10 0 l0 fun x5 =>
          aI G 11 x5 (160 : Int32) fun x6 =>
          f_Mo_counted_b91 G  x6
        else
          if l1 = (4 : Int32) then
            vP G 10 l0 (f_Mo_day G l0) fun x4 =>
            f_Mo_counted_b91 G  x4
          else
            if l1 = (5 : Int32) then
              gR G 10 0 l0 fun x2 =>
              aI G 11 x2 (161 : Int32) fun x3 =>
              f_Mo_counted_b91 G  x3
            else
              gI G 10 17 l0 fun x1 =>
              f_Mo_counted_b91 G  x1
def f_Mo_count_b26 (G : Hp) (s0 : Int32) : Option (Int32 × Hp) :=
  some (s0, G)
def f_Mo_count (G : Hp) (l0 : Nat) (l1 : Int32) : Option (Int32 × Hp) :=
  cP (f_Mo_in G l1.toInt64 (0 : Int64) (6 : Int64)) fun x1 =>
  if x1 = 0 then
    vH G 10 l0 (f_Mo_bad G l0 (-2 : Int32)) fun x2 G3 =>
    f_Mo_count_b26  G3 x2
  else
    vP G 10 l0 (f_Mo_counted G l0 l1) fun x4 =>
    f_Mo_count_b26  G x4
def f_Mo_sums_b6_k (G : Hp) (k6 : Nat → Int32 → Int32 → Int64 → Int32 → Option Int64) (l0 : Nat) (l3 : Int32) (l4 : Int32) (l5 : Int64) (l7 : Int32) : Option Int64 :=
  if l4 ≤ l7 then
    some l5
  else
    gR G 10 0 l0 fun x1 =>
    aI G 11 x1 (l3 + l7) fun x2 =>
    lt (((31 : Int64) * l5) + x2.toInt64) fun x3 =>
    k6 l0 l3 l4 x3 (l7 + 1)
def f_Mo_sums_b6 (G : Hp) : Nat → Nat → Int32 → Int32 → Int64 → Int32 → Option Int64
  | 0, _, _, _, _, _ => none
  | nn + 1, l0, l3, l4, l5, l7 => f_Mo_sums_b6_k G (f_Mo_sums_b6 G nn) l0 l3 l4 l5 l7
def f_Mo_sums (G : Hp) (l0 : Nat) (l1 : Int64) (l3 : Int32) (l4 : Int32) : Option Int64 :=
  f_Mo_sums_b6 G  FU l0 l3 l4 l1 (0 : Int32)
def f_Mo_digest_b33_k (G : Hp) (k33 : Nat → Int64 → Int32 → Option Int64) (l0 : Nat) (l1 : Int64) (l3 : Int32) : Option Int64 :=
  vP G 10 l0 (f_Mo_many G l0) fun x1 =>
  if x1 ≤ l3 then
    gR G 10 0 l0 fun x2 =>
    aI G 11 x2 (158 : Int32) fun x3 =>
    vP G 10 l0 (f_Mo_sums G l0 l1 (14 : Int32) ((7 : Int32) * x3)) fun x4 =>
    gR G 10 0 l0 fun x5 =>
    aI G 11 x5 (159 : Int32) fun x6 =>
    vP G 10 l0 (f_Mo_sums G l0 x4 (98 : Int32) ((4 : Int32) * x6)) fun x7 =>
    gR G 10 0 l0 fun x8 =>
    aI G 11 x8 (160 : Int32) fun x9 =>
    vP G 10 l0 (f_Mo_sums G l0 x7 (118 : Int32) ((3 : Int32) * x9)) fun x10 =>
    vP G 10 l0 (f_Mo_sums G l0 x10 (154 : Int32) (4 : Int32)) fun x11 =>
    gL G 10 4 l0 fun x12 =>
    gL G 10 5 l0 fun x13 =>
    some (((31 : Int64) * (((31 : Int64) * x11) + x12)) + x13)
  else
    gR G 10 0 l0 fun x14 =>
    aI G 11 x14 ((2 : Int32) + l3) fun x15 =>
    gR G 10 0 l0 fun x16 =>
    aI G 11 x16 ((8 : Int32) + l3) fun x17 =>
    lt (((31 : Int64) * (((31 : Int64) * l1) + x15.toInt64)) + x17.toInt64) fun x18 =>
    k33 l0 x18 (l3 + 1)
def f_Mo_digest_b33 (G : Hp) : Nat → Nat → Int64 → Int32 → Option Int64
  | 0, _, _, _ => none
  | nn + 1, l0, l1, l3 => f_Mo_digest_b33_k G (f_Mo_digest_b33 G nn) l0 l1 l3
def f_Mo_digest_b6_k (G : Hp) (k6 : Nat → Int64 → Int32 → Option Int64) (l0 : Nat) (l1 : Int64) (l3 : Int32) : Option Int64 :=
  if (7 : Int32) ≤ l3 then
    f_Mo_digest_b33 G  FU l0 l1 (0 : Int32)
  else
    vP G 10 l0 (f_Mo_counted G l0 l3) fun x1 =>
    lt (((31 : Int64) * l1) + x1.toInt64) fun x2 =>
    k6 l0 x2 (l3 + 1)
def f_Mo_digest_b6 (G : Hp) : Nat → Nat → Int64 → Int32 → Option Int64
  | 0, _, _, _ => none
  | nn + 1, l0, l1, l3 => f_Mo_digest_b6_k G (f_Mo_digest_b6 G nn) l0 l1 l3
def f_Mo_digest (G : Hp) (l0 : Nat) : Option Int64 :=
  f_Mo_digest_b6 G  FU l0 (683 : Int64) (0 : Int32)
