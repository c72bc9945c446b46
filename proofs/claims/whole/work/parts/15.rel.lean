/-! The relation between the class's numbers and the reference's. -/
def keepZ (z : Int) : Option Int := if -1000000000 ≤ z ∧ z ≤ 1000000000 then some z else none
/-- what two numbers make by a step's kind (2 + 3 - 4 * 5 / 6 < 7 > else =) -/
def binZ (k x y : Int) : Option Int :=
  if k = 2 then keepZ (x + y) else if k = 3 then keepZ (x - y) else if k = 4 then keepZ (x * y) else if k = 5 then (if y = 0 then none else keepZ (x.tdiv y))
  else if k = 6 then some (if x < y then 1 else 0) else if k = 7 then some (if y < x then 1 else 0) else some (if x = y then 1 else 0)
/-- a step of the class's law machine; none: stuck (too little on the pile), some none: broken -/
def cstep (K V W : Int → Int) (p : Int) (S : List Int) : Option (Option (Int × List Int)) :=
  if K p = 0 then some (some (p + 1, V p :: S))
  else if K p = 1 then some (some (p + 1, W (V p) :: S))
  else if K p = 9 then (match S with | x :: S' => some (some (p + 1, (if x = 0 then 1 else 0) :: S')) | [] => none)
  else if K p = 10 then (match S with | x :: S' => if x ≠ 0 then some (some (V p, S)) else some (some (p + 1, S')) | [] => none)
  else if K p = 11 then (match S with | x :: S' => if x = 0 then some (some (V p, S)) else some (some (p + 1, S')) | [] => none)
  else (match S with | y :: x :: S' => some ((binZ (K p) x y).map (fun z => (p + 1, z :: S'))) | _ => none)
/-- a step of the reference's, its code in the row from 998 on -/
def mstep (R W : Int → Int) (p : Int) (S : List Int) : Option (Option (Int × List Int)) :=
  if R (998 + 2 * p) = 0 then some (some (p + 1, R (998 + 2 * p + 1) :: S))
  else if R (998 + 2 * p) < 20 then some (some (p + 1, W (R (998 + 2 * p) - 1) :: S))
  else if R (998 + 2 * p) < 27 then (match S with | y :: x :: S' => some ((binZ (R (998 + 2 * p) - 18) x y).map (fun z => (p + 1, z :: S'))) | _ => none)
  else if R (998 + 2 * p) = 27 then (match S with | x :: S' => some (some (p + 1, (1 - x) :: S')) | [] => none)
  else if R (998 + 2 * p) = 28 then (match S with | x :: S' => if x = 0 then some (some (R (998 + 2 * p + 1), S)) else some (some (p + 1, S')) | [] => none)
  else (match S with | x :: S' => if x = 1 then some (some (R (998 + 2 * p + 1), S)) else some (some (p + 1, S')) | [] => none)
/-- from step p on, up to q: none: stuck, or not so many steps; some none: broken -/
def vmz (stp : Int → List Int → Option (Option (Int × List Int))) : Nat → Int → Int → List Int → Option (Option (Int × List Int))
  | 0, p, q, S => if p = q then some (some (p, S)) else none
  | f + 1, p, q, S => if q ≤ p then some (some (p, S)) else match stp p S with
    | none => none
    | some none => some none
    | some (some (p', S')) => vmz stp f p' q S'
abbrev DEN : Type := (Int → Int) → Option Int
/-- the steps from p to q put one number on the pile: what F tells; broken where F is none -/
def Den (stp : (Int → Int) → Int → List Int → Option (Option (Int × List Int))) (p q : Int) (F : DEN) : Prop :=
  p ≤ q ∧ ∀ (W : Int → Int) (S : List Int), ∃ f : Nat, vmz (stp W) f p q S = some ((F W).map (fun x => (q, x :: S)))
def isTest (F : DEN) : Prop := ∀ W : Int → Int, F W = none ∨ F W = some 0 ∨ F W = some 1
/-- how many steps before p push a number -/
def pushN (K : Int → Int) : Nat → Int
  | 0 => 0
  | p + 1 => pushN K p + (if K (p : Int) = 0 ∨ K (p : Int) = 1 then 1 else 0)
def CodeC (K V : Int → Int) (N : Int) : Prop :=
  0 ≤ N ∧ N ≤ 400 ∧ pushN K N.toNat ≤ 50 ∧ ∀ p, 0 ≤ p → p < N → 0 ≤ K p ∧ K p ≤ 11 ∧ (K p = 0 → 0 ≤ V p ∧ V p ≤ 100000) ∧ (K p = 1 → 0 ≤ V p ∧ V p ≤ 8) ∧ ((K p = 10 ∨ K p = 11) → p < V p ∧ V p ≤ N)
def CodeM (R : Int → Int) (N : Int) : Prop :=
  0 ≤ N ∧ N ≤ 400 ∧ ∀ p, 0 ≤ p → p < N → ((0 ≤ R (998 + 2 * p) ∧ R (998 + 2 * p) ≤ 9) ∨ (20 ≤ R (998 + 2 * p) ∧ R (998 + 2 * p) ≤ 29)) ∧ (R (998 + 2 * p) = 0 → 0 ≤ R (998 + 2 * p + 1) ∧ R (998 + 2 * p + 1) ≤ 100000) ∧ ((R (998 + 2 * p) = 28 ∨ R (998 + 2 * p) = 29) → p < R (998 + 2 * p + 1) ∧ R (998 + 2 * p + 1) ≤ N)
/-- the row without what isn't the law's -/
def rowL (r : Int → Int) : Int → Int := fun i => if 901 ≤ i ∧ i < 1800 then r i else 0
/-- one clause: K V the class's steps, C its clauses' cells, R the reference's row, c its number -/
def ClauseRel (K V C R : Int → Int) (NC NM c : Int) : Prop :=
  C (4 * c) = R (902 + 8 * c) ∧ 0 ≤ C (4 * c) ∧ C (4 * c) ≤ 5 ∧
  0 ≤ C (4 * c + 1) ∧ C (4 * c + 1) ≤ C (4 * c + 2) ∧ C (4 * c + 2) ≤ C (4 * c + 3) ∧ C (4 * c + 3) ≤ NC ∧
  0 ≤ R (902 + 8 * c + 3) ∧ R (902 + 8 * c + 3) ≤ R (902 + 8 * c + 4) ∧ R (902 + 8 * c + 4) ≤ R (902 + 8 * c + 5) ∧ R (902 + 8 * c + 5) ≤ R (902 + 8 * c + 6) ∧ R (902 + 8 * c + 6) ≤ NM ∧
  (∃ F : DEN, Den (cstep K V) (C (4 * c + 1)) (C (4 * c + 2)) F ∧ Den (mstep R) (R (902 + 8 * c + 3)) (R (902 + 8 * c + 4)) F) ∧
  ((C (4 * c + 2) = C (4 * c + 3) ∧ R (902 + 8 * c + 5) = R (902 + 8 * c + 6)) ∨
   (C (4 * c + 2) < C (4 * c + 3) ∧ R (902 + 8 * c + 5) < R (902 + 8 * c + 6) ∧ ∃ F : DEN, isTest F ∧ Den (cstep K V) (C (4 * c + 2)) (C (4 * c + 3)) F ∧ Den (mstep R) (R (902 + 8 * c + 5)) (R (902 + 8 * c + 6)) F))
/-- a law: l its object, k v its rows, t its clauses -/
def LawRelF (NS : Int) (K V : Int → Int) (N : Int) (C R : Int → Int) : Prop :=
  N = R 901 ∧ 0 ≤ N ∧ N ≤ 12 ∧ CodeC K V NS ∧ ∃ NM : Int, CodeM R NM ∧ ∀ c, 0 ≤ c → c < N → ClauseRel K V C R NS NM c
def TR (n : NM) (t : Nat) (W R cnt base : Int) (r : Int → Int) : Prop := TW n t W R ∧ n t 3 = r cnt ∧ ∀ k, 0 ≤ k → k < r cnt * W → n (t + 1) k = r (base + k)
def FR (n : NM) (t : Nat) (W R base : Int) (r : Int → Int) : Prop := TW n t W R ∧ n t 3 = R ∧ ∀ k, 0 ≤ k → k < R * W → n (t + 1) k = r (base + k)
/-- the first N cells -/
def cutF (f : Int → Int) (N : Int) : Int → Int := fun i => if 0 ≤ i ∧ i < N then f i else 0
def LawRel (n : NM) (a : Nat) (r : Int → Int) : Prop := TW n (a + 18) 4 12 ∧ LawRelF (n (a + 15) 2) (cutF (n (a + 16)) 400) (cutF (n (a + 17)) 400) (n (a + 18) 3) (cutF (n (a + 19)) 48) (rowL r)
/-- a lake (its object at a) holds what the row r tells -/
def LakeRel (n : NM) (a : Nat) (r : Int → Int) : Prop :=
  FR n (a + 1) 3 60 20 r ∧ TR n (a + 3) 4 12 0 200 r ∧ TR n (a + 5) 4 12 1 250 r ∧ TR n (a + 7) 2 12 2 300 r ∧ TR n (a + 9) 1 12 3 330 r ∧ TR n (a + 11) 3 20 4 350 r ∧ TR n (a + 13) 7 40 5 420 r ∧
  LawRel n a r ∧ TR n (a + 20) 3 6 7 700 r ∧ TR n (a + 22) 4 12 8 720 r ∧ TR n (a + 24) 4 10 9 770 r ∧ FR n (a + 26) 2 30 810 r ∧ FR n (a + 28) 2 10 870 r ∧ FR n (a + 30) 3 1 10 r
/-- what numbers a row may hold -/
def RowOk (r : Int → Int) : Prop :=
  (∀ k, 0 ≤ k → k < 180 → 0 ≤ r (20 + k) ∧ r (20 + k) ≤ 9) ∧
  (∀ b, 0 ≤ b → b < r 0 → (0 ≤ r (200 + 4 * b + 1) ∧ r (200 + 4 * b + 1) ≤ 1) ∧ (0 ≤ r (200 + 4 * b + 2) ∧ r (200 + 4 * b + 2) ≤ 1439) ∧ 1 ≤ r (200 + 4 * b + 3) ∧ r (200 + 4 * b + 3) ≤ 24) ∧
  (∀ b, 0 ≤ b → b < r 1 → 0 ≤ r (250 + 4 * b + 1) ∧ r (250 + 4 * b + 1) ≤ 23) ∧
  (∀ b, 0 ≤ b → b < r 3 → 0 ≤ r (330 + b) ∧ r (330 + b) ≤ 100) ∧
  (∀ b, 0 ≤ b → b < r 4 → (1 ≤ r (350 + 3 * b + 1) ∧ r (350 + 3 * b + 1) ≤ 99) ∧ 1 ≤ r (350 + 3 * b + 2) ∧ r (350 + 3 * b + 2) ≤ 200) ∧
  (∀ b, 0 ≤ b → b < r 5 → (0 ≤ r (420 + 7 * b) ∧ r (420 + 7 * b) ≤ 59) ∧ (0 ≤ r (420 + 7 * b + 1) ∧ r (420 + 7 * b + 1) ≤ 1439) ∧ (0 ≤ r (420 + 7 * b + 2) ∧ r (420 + 7 * b + 2) ≤ 23) ∧ (0 ≤ r (420 + 7 * b + 4) ∧ r (420 + 7 * b + 4) ≤ 9) ∧ (1 ≤ r (420 + 7 * b + 5) ∧ r (420 + 7 * b + 5) ≤ 200) ∧ 0 ≤ r (420 + 7 * b + 6) ∧ r (420 + 7 * b + 6) ≤ 59) ∧
  (∀ b, 0 ≤ b → b < r 7 → (0 ≤ r (700 + 3 * b) ∧ r (700 + 3 * b) ≤ 100) ∧ (0 ≤ r (700 + 3 * b + 1) ∧ r (700 + 3 * b + 1) ≤ 20) ∧ 1 ≤ r (700 + 3 * b + 2) ∧ r (700 + 3 * b + 2) ≤ 60) ∧
  (∀ b, 0 ≤ b → b < r 8 → (0 ≤ r (720 + 4 * b) ∧ r (720 + 4 * b) ≤ 100) ∧ (1 ≤ r (720 + 4 * b + 1) ∧ r (720 + 4 * b + 1) ≤ 60) ∧ (0 ≤ r (720 + 4 * b + 2) ∧ r (720 + 4 * b + 2) ≤ 99) ∧ 0 ≤ r (720 + 4 * b + 3) ∧ r (720 + 4 * b + 3) ≤ 1) ∧
  (∀ b, 0 ≤ b → b < r 9 → (0 ≤ r (770 + 4 * b) ∧ r (770 + 4 * b) ≤ 100) ∧ (1 ≤ r (770 + 4 * b + 1) ∧ r (770 + 4 * b + 1) ≤ 60) ∧ (0 ≤ r (770 + 4 * b + 2) ∧ r (770 + 4 * b + 2) ≤ 99) ∧ 1 ≤ r (770 + 4 * b + 3) ∧ r (770 + 4 * b + 3) ≤ 100) ∧
  (∀ k, 0 ≤ k → k < 60 → 0 ≤ r (810 + k) ∧ r (810 + k) ≤ 1000) ∧
  (∀ k, 0 ≤ k → k < 20 → 1 ≤ r (870 + k) ∧ r (870 + k) ≤ 99) ∧
  (0 ≤ r 10 ∧ r 10 ≤ 50) ∧ (0 ≤ r 11 ∧ r 11 ≤ 10000) ∧ 1 ≤ r 12 ∧ r 12 ≤ 100
/-- the tables of a lake, whatever they hold -/
def LakeW (n : NM) (a : Nat) : Prop :=
  (TW n (a + 1) 3 60 ∧ n (a + 1) 3 = 60) ∧ TW n (a + 3) 4 12 ∧ TW n (a + 5) 4 12 ∧ TW n (a + 7) 2 12 ∧ TW n (a + 9) 1 12 ∧ TW n (a + 11) 3 20 ∧ TW n (a + 13) 7 40 ∧ TW n (a + 18) 4 12 ∧ TW n (a + 20) 3 6 ∧ TW n (a + 22) 4 12 ∧ TW n (a + 24) 4 10 ∧ (TW n (a + 26) 2 30 ∧ n (a + 26) 3 = 30) ∧ (TW n (a + 28) 2 10 ∧ n (a + 28) 3 = 10) ∧ TW n (a + 30) 3 1 ∧ n (a + 30) 3 = 1
def imR (n : NM) (k : Int) : Int → Int := fun i => n 148 (1800 * k + i)
def ImgRel (n : NM) (a : Nat) (k : Int) : Prop := LakeW n a ∧ n 34 k = n 149 k ∧ (n 149 k = 0 ∨ (n 149 k = 1 ∧ LakeRel n a (imR n k) ∧ RowOk (imR n k)))
def TapeRel (n : NM) : Prop := 0 ≤ n 35 1 ∧ n 35 1 ≤ 400 ∧ n 145 8 = n 35 1 ∧ ∀ i, 0 ≤ i → i < n 35 1 → n 150 i = n 36 i ∧ 0 ≤ n 36 i ∧ n 36 i ≤ 255
def MiscRel (k : Int) (n : NM) : Prop :=
  n 145 1 = n 0 10 ∧ n 145 13 = n 0 11 ∧ n 145 6 = n 0 12 ∧ n 146 1 = n 80 0 ∧ n 146 2 = n 80 1 ∧ n 146 5 = n 80 2 ∧ n 146 6 = n 80 3 ∧ (0 ≤ n 80 0 ∧ n 80 0 ≤ k) ∧ (0 ≤ n 80 1 ∧ n 80 1 ≤ k) ∧ (0 ≤ n 80 2 ∧ n 80 2 ≤ k) ∧ 0 ≤ n 80 3 ∧ n 80 3 ≤ k
def WorldRel (n : NM) : Prop :=
  TW n 78 3 12 ∧ ((n 77 1 = 0 ∧ n 145 37 = -1 ∧ n 78 3 = 0) ∨ (n 77 1 = 1 ∧ n 145 37 = n 78 3)) ∧ ∀ k, 0 ≤ k → k < 3 * n 78 3 → n 164 k = n 79 k ∧ 0 ≤ n 79 k ∧ n 79 k ≤ 60
def Rel (k : Int) (n : NM) : Prop :=
  LakeRel n 1 (n 147) ∧ RowOk (n 147) ∧ ImgRel n 81 0 ∧ ImgRel n 113 1 ∧ TapeRel n ∧ MiscRel k n ∧ WorldRel n ∧ TW n 45 4 12
