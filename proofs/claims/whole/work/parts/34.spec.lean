/-! the two languages over a row of tokens (codes C, values V): what is read, where it fails, what it means -/
abbrev lE : Type := Nat → Int
abbrev lD : Type := lE → Option Int
abbrev lT : Type := lE → Option Bool
abbrev lR : Type := Nat ⊕ (Nat × Nat × lD)
abbrev lRT : Type := Nat ⊕ (Nat × Nat × lT)
def lbd (z : Int) : Option Int := if 1000000000 < z ∨ z < -1000000000 then none else some z
def lop (o : Nat) (x y : Int) : Option Int := match o with
  | 5 => lbd (x + y)
  | 6 => lbd (x - y)
  | 7 => lbd (x * y)
  | 8 => if y = 0 then none else lbd (x.tdiv y)
  | _ => if y = 0 then none else lbd (x.tmod y)
def lopD (o : Nat) (d1 d2 : lD) : lD := fun E => (d1 E).bind fun x => (d2 E).bind fun y => lop o x y
def lcmpD (o : Nat) (d1 d2 : lD) : lT := fun E => (d1 E).bind fun x => (d2 E).bind fun y => some (match o with
  | 10 => decide (x < y)
  | 11 => decide (y < x)
  | _ => decide (x = y))
def lnotD (neg : Bool) (d : lT) : lT := fun E => (d E).map fun b => b != neg
def landD (d1 d2 : lT) : lT := fun E => (d1 E).bind fun b => if b then d2 E else some false
def lorD (d1 d2 : lT) : lT := fun E => (d1 E).bind fun b => if b then some true else d2 E
/-- a part that is a number or a word -/
def lleaf (ord : Bool) (C V : Nat → Int32) (i q : Nat) : lR :=
  if 50 ≤ q then .inl i
  else if C i = 50 ∧ V i ≤ 1000 then .inr (i + 1, q + 1, fun _ => some (V i).toInt)
  else if ord = true then
    if C i = 14 then (if C (i + 1) = 50 ∧ V (i + 1) ≤ 8 then .inr (i + 2, q + 1, fun E => some (E (5 + (V (i + 1)).toInt.toNat))) else .inl (i + 1))
    else if C i = 20 then (if C (i + 1) = 50 ∧ V (i + 1) ≤ 8 then .inr (i + 2, q + 1, fun E => some (E (14 + (V (i + 1)).toInt.toNat))) else .inl (i + 1))
    else if 15 ≤ C i ∧ C i ≤ 19 then .inr (i + 1, q + 1, fun E => some (E ((C i).toInt.toNat - 15)))
    else .inl i
  else if 9 ≤ C i ∧ C i ≤ 12 then .inr (i + 1, q + 1, fun E => some (E ((C i).toInt.toNat - 9)))
  else if C i = 13 then .inr (i + 1, q + 1, fun E => some (E 6))
  else if C i = 14 then .inr (i + 1, q + 1, fun E => some (E 4))
  else if C i = 15 then .inr (i + 1, q + 1, fun E => some (E 5))
  else .inl i
/-- what stands behind a term's first part -/
def lloopT (part : Nat → Nat → lR) (C : Nat → Int32) : Nat → Nat → Nat → lD → lR
  | 0, i, q, d => .inr (i, q, d)
  | n + 1, i, q, d =>
    if C i = 142 ∨ C i = 147 ∨ C i = 137 then match part (i + 1) q with
      | .inl j => .inl j
      | .inr (j, q', d') => lloopT part C n j q' (lopD (if C i = 142 then 7 else if C i = 147 then 8 else 9) d d')
    else .inr (i, q, d)
def lterm (part : Nat → Nat → lR) (C : Nat → Int32) (n i q : Nat) : lR := match part i q with
  | .inl j => .inl j
  | .inr (j, q', d) => lloopT part C n j q' d
def lloopS (part : Nat → Nat → lR) (C : Nat → Int32) (m : Nat) : Nat → Nat → Nat → lD → lR
  | 0, i, q, d => .inr (i, q, d)
  | n + 1, i, q, d =>
    if C i = 143 ∨ C i = 145 then match lterm part C m (i + 1) q with
      | .inl j => .inl j
      | .inr (j, q', d') => lloopS part C m n j q' (lopD (if C i = 143 then 5 else 6) d d')
    else .inr (i, q, d)
def lsum (part : Nat → Nat → lR) (C : Nat → Int32) (n i q : Nat) : lR := match lterm part C n i q with
  | .inl j => .inl j
  | .inr (j, q', d) => lloopS part C n n j q' d
/-- a part, so many brackets still within it -/
def lpart (ord : Bool) (C V : Nat → Int32) (n : Nat) : Nat → Nat → Nat → lR
  | 0, i, q => if C i = 191 then .inl i else lleaf ord C V i q
  | b + 1, i, q => if C i = 191 then (match lsum (lpart ord C V n b) C n (i + 1) q with
      | .inl j => .inl j
      | .inr (j, q', d) => if C j = 193 then .inr (j + 1, q', d) else .inl j) else lleaf ord C V i q
def lcomp (part : Nat → Nat → lR) (C : Nat → Int32) (n i q : Nat) : lRT := match lsum part C n i q with
  | .inl j => .inl j
  | .inr (j, q', d) => if C j = 160 ∨ C j = 162 ∨ C j = 161 then (match lsum part C n (j + 1) q' with
      | .inl k => .inl k
      | .inr (k, q2, d2) => .inr (k, q2, lcmpD (if C j = 160 then 10 else if C j = 162 then 11 else 12) d d2)) else .inl j
def lnots (C : Nat → Int32) : Nat → Nat → Bool → Nat × Bool
  | 0, i, neg => (i, neg)
  | n + 1, i, neg => if C i = 8 then lnots C n (i + 1) (!neg) else (i, neg)
def lloopA (plain : Nat → Nat → lRT) (C : Nat → Int32) : Nat → Nat → Nat → lT → lRT
  | 0, i, q, d => .inr (i, q, d)
  | n + 1, i, q, d =>
    if C i = 7 then match plain (i + 1) q with
      | .inl j => .inl j
      | .inr (j, q', d') => lloopA plain C n j q' (landD d d')
    else .inr (i, q, d)
def lboth (plain : Nat → Nat → lRT) (C : Nat → Int32) (n i q : Nat) : lRT := match plain i q with
  | .inl j => .inl j
  | .inr (j, q', d) => lloopA plain C n j q' d
def lloopO (plain : Nat → Nat → lRT) (C : Nat → Int32) (m : Nat) : Nat → Nat → Nat → lT → lRT
  | 0, i, q, d => .inr (i, q, d)
  | n + 1, i, q, d =>
    if C i = 6 then match lboth plain C m (i + 1) q with
      | .inl j => .inl j
      | .inr (j, q', d') => lloopO plain C m n j q' (lorD d d')
    else .inr (i, q, d)
def ltest (plain : Nat → Nat → lRT) (C : Nat → Int32) (n i q : Nat) : lRT := match lboth plain C n i q with
  | .inl j => .inl j
  | .inr (j, q', d) => lloopO plain C n n j q' d
def lplain (ord : Bool) (C V : Nat → Int32) (n : Nat) : Nat → Nat → Nat → lRT
  | 0, i, q => if C (lnots C n i false).1 = 140 then .inl (lnots C n i false).1 else (match lcomp (lpart ord C V n 0) C n (lnots C n i false).1 q with
      | .inl j => .inl j
      | .inr (j, q', d) => .inr (j, q', lnotD (lnots C n i false).2 d))
  | b + 1, i, q => if C (lnots C n i false).1 = 140 then (match ltest (lplain ord C V n b) C n ((lnots C n i false).1 + 1) q with
      | .inl j => .inl j
      | .inr (j, q', d) => if C j = 141 then .inr (j + 1, q', lnotD (lnots C n i false).2 d) else .inl j) else (match lcomp (lpart ord C V n (b + 1)) C n (lnots C n i false).1 q with
      | .inl j => .inl j
      | .inr (j, q', d) => .inr (j, q', lnotD (lnots C n i false).2 d))
/-- a clause: its kind, its sums (1 where there is none), how often, its test (none: none is there) -/
abbrev lC : Type := Nat × lD × lD × Nat × Option lT
def lone : lD := fun _ => some 1
def lif (ord : Bool) (C V : Nat → Int32) (n i q : Nat) (cl : Nat × lD × lD × Nat) : Nat ⊕ (Nat × Nat × lC) :=
  if C i = 5 then (match ltest (lplain ord C V n 8) C n (i + 1) q with
    | .inl j => .inl j
    | .inr (j, q', d) => .inr (j, q', (cl.1, cl.2.1, cl.2.2.1, cl.2.2.2, some d)))
  else .inr (i, q, (cl.1, cl.2.1, cl.2.2.1, cl.2.2.2, none))
def lclauseL (C V : Nat → Int32) (n i q : Nat) : Nat ⊕ (Nat × Nat × lC) :=
  if C i = 1 ∨ C i = 2 ∨ C i = 3 then (match lsum (lpart false C V n 8) C n (i + 1) q with
    | .inl j => .inl j
    | .inr (j, q', d) => lif false C V n j q' ((C i).toInt.toNat - 1, d, lone, 1))
  else if C i = 4 then lif false C V n (i + 1) q (3, lone, lone, 1)
  else .inl i
def ltimes (C V : Nat → Int32) (n i q : Nat) (cl : Nat × lD × lD) : Nat ⊕ (Nat × Nat × lC) :=
  if C i = 25 then (if C (i + 1) = 50 ∧ 1 ≤ V (i + 1) ∧ V (i + 1) ≤ 20 then lif true C V n (i + 2) q (cl.1, cl.2.1, cl.2.2, (V (i + 1)).toInt.toNat) else .inl (i + 1))
  else lif true C V n i q (cl.1, cl.2.1, cl.2.2, 1)
def lclauseO (C V : Nat → Int32) (n i q : Nat) : Nat ⊕ (Nat × Nat × lC) :=
  if C i = 22 ∨ C i = 23 then (match lsum (lpart true C V n 8) C n (i + 1) q with
    | .inl j => .inl j
    | .inr (j, q', d) => if C j = 10 then (match lsum (lpart true C V n 8) C n (j + 1) q' with
      | .inl k => .inl k
      | .inr (k, q2, d2) => ltimes C V n k q2 ((C i).toInt.toNat - 21, d, d2)) else .inl j)
  else if C i = 21 then (match lsum (lpart true C V n 8) C n (i + 1) q with
    | .inl j => .inl j
    | .inr (j, q', d) => ltimes C V n j q' (0, d, lone))
  else if C i = 24 then ltimes C V n (i + 1) q (3, lone, lone)
  else .inl i
/-- a text of T tokens; so many clauses may still come -/
def ltext (ord : Bool) (C V : Nat → Int32) (n T : Nat) : Nat → Nat → Nat → List lC → Nat ⊕ List lC
  | 0, i, _, _ => .inl i
  | m + 1, i, q, acc => match (if ord = true then lclauseO C V n i q else lclauseL C V n i q) with
    | .inl j => .inl j
    | .inr (j, q', cl) => if C j = 159 then ltext ord C V n T m (j + 1) q' (acc ++ [cl]) else if j = T then .inr (acc ++ [cl]) else .inl j
