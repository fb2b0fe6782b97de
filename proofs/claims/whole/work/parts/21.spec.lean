/-! A river's state in plain words (numbers, lists), and how a class' world tells it. -/
-- numbers 0 landings 1 sorts 2 seats 3 the minute 4 boats; counters 0 z 1 waited 2 walked 3 earned 4 carried; minutes between (4a+b); of each sort from, to, comes, waits, pays; boats: place (to, if under way), minutes left, aboard; queues: sort and minute of coming; rules: kind, figure
abbrev SP : Type := (Nat → Nat) × (Nat → Int32) × (Nat → Nat) × (Nat → Nat → Nat) × (Nat → Nat × Nat × List Nat) × (Nat → List (Nat × Nat)) × (Nat → Nat × Nat)
abbrev sn (S : SP) := S.1
abbrev sc (S : SP) := S.2.1
abbrev sy (S : SP) := S.2.2.1
abbrev sf (S : SP) := S.2.2.2.1
abbrev sB (S : SP) := S.2.2.2.2.1
abbrev sQ (S : SP) := S.2.2.2.2.2.1
abbrev sK (S : SP) := S.2.2.2.2.2.2
def upN {α : Type} (f : Nat → α) (k : Nat) (v : α) : Nat → α := fun j => if j = k then v else f j
theorem upN_s {α : Type} (f : Nat → α) (k : Nat) (v : α) : upN f k v k = v := by simp [upN]
theorem upN_n {α : Type} (f : Nat → α) {k j : Nat} (v : α) (h : j ≠ k) : upN f k v j = f j := by simp [upN, h]
def ssn (S : SP) (k v : Nat) : SP := (upN S.1 k v, S.2)
def ssc (S : SP) (k : Nat) (v : Int32) : SP := (S.1, upN S.2.1 k v, S.2.2)
def ssB (S : SP) (x : Nat) (v : Nat × Nat × List Nat) : SP := (S.1, S.2.1, S.2.2.1, S.2.2.2.1, upN S.2.2.2.2.1 x v, S.2.2.2.2.2)
def ssQ (S : SP) (l : Nat) (v : List (Nat × Nat)) : SP := (S.1, S.2.1, S.2.2.1, S.2.2.2.1, S.2.2.2.2.1, upN S.2.2.2.2.2.1 l v, S.2.2.2.2.2.2)
def rtag (kd : Nat) : Nat := match kd with | 0 => 10 | 1 => 13 | 2 => 8 | 3 => 6 | 4 => 7 | 5 => 4 | _ => 12
def isRl (M : Mm) (q kd fg : Nat) : Prop := (M.1 q).1 = rtag kd ∧ M.2.1 q 0 = nI fg ∧ kd < 7 ∧ fg < 10
def lb (x : Nat) : Nat := 3 + 3 * x
def BRel (M : Mm) (v : Nat × Nat × List Nat) (R : Nat × Nat) (l : Nat) (r : WR) : Prop := r.1 l 0 = nI v.1 ∧ r.1 l 1 = nI v.2.1 ∧ r.1 l 2 = nI v.2.2.length ∧ (∀ j t, v.2.2[j]? = some t → r.1 (l + 1) j = nI t) ∧ ∃ q, r.2 l = some q ∧ isRl M q R.1 R.2
def QRel (S : SP) (l : Nat) (r : WR) : Prop := r.1 9 l = nI (sQ S l).length ∧ ∀ j p, (sQ S l)[j]? = some p → r.1 10 (l * 12 + j) = nI p.1 ∧ r.1 11 (l * 12 + j) = nI (p.2 + sf S p.1 3)
def WRel (M : Mm) (S : SP) (r : WR) : Prop :=
  (r.1 0 0 = nI (sn S 0) ∧ r.1 0 2 = nI (sn S 1) ∧ r.1 0 4 = nI (sn S 2) ∧ r.1 0 6 = nI (sn S 3) ∧ r.1 0 9 = nI (sn S 4 - 1)) ∧
  (r.1 0 5 = sc S 0 ∧ r.1 0 13 = sc S 1 ∧ r.1 0 14 = sc S 2 ∧ r.1 0 15 = sc S 3 ∧ r.1 0 16 = sc S 4) ∧
  (∀ i, i < 16 → r.1 1 i = nI (sy S i)) ∧ (∀ t k, t < sn S 1 → k < 5 → r.1 2 (t * 5 + k) = nI (sf S t k)) ∧
  (∀ x, x < sn S 4 → BRel M (sB S x) (sK S x) (lb x) r) ∧ (∀ l, l < 4 → QRel S l r)
def WFs (S : SP) : Prop := (2 ≤ sn S 0 ∧ sn S 0 ≤ 4) ∧ sn S 1 ≤ 5 ∧ (1 ≤ sn S 2 ∧ sn S 2 ≤ 6) ∧ sn S 3 ≤ 5000 ∧ (1 ≤ sn S 4 ∧ sn S 4 ≤ 2) ∧
  (∀ t, t < sn S 1 → sf S t 0 < sn S 0 ∧ sf S t 1 < sn S 0 ∧ sf S t 0 ≠ sf S t 1 ∧ sf S t 2 ≤ 100 ∧ (1 ≤ sf S t 3 ∧ sf S t 3 ≤ 20) ∧ sf S t 4 ≤ 99) ∧ (∀ i, i < 16 → 1 ≤ sy S i ∧ sy S i ≤ 9)
def WFB (S : SP) (x : Nat) : Prop := (sB S x).1 < sn S 0 ∧ (sB S x).2.1 ≤ 9 ∧ (sB S x).2.2.length ≤ sn S 2 ∧ (∀ t ∈ (sB S x).2.2, t < sn S 1) ∧ ((sB S x).2.1 = 0 → ∀ t ∈ (sB S x).2.2, sf S t 1 ≠ (sB S x).1) ∧ (sK S x).1 < 7 ∧ (sK S x).2 < 10
def WFQ (S : SP) (l : Nat) : Prop := (sQ S l).length ≤ 12 ∧ (sn S 0 ≤ l → sQ S l = []) ∧ (∀ p ∈ sQ S l, p.1 < sn S 1 ∧ sf S p.1 0 = l ∧ p.2 ≤ sn S 3 ∧ sn S 3 < p.2 + sf S p.1 3) ∧ (sQ S l).Pairwise (fun p q => p.2 ≤ q.2)
def WF (S : SP) : Prop := WFs S ∧ (∀ x, x < sn S 4 → WFB S x) ∧ ∀ l, WFQ S l
-- what goes on in a minute
def zN (z : Int32) : Int32 := z * 1103515245 + 12345
def zV (z : Int32) : Int32 := (z &&& 2147483647) / 65536 - (z &&& 2147483647) / 65536 / 100 * 100
def comeQ (S : SP) (t : Nat) : SP := if (sQ S (sf S t 0)).length < 12 then ssQ S (sf S t 0) (sQ S (sf S t 0) ++ [(t, sn S 3)]) else ssc S 2 (sc S 2 + 1)
def come1 (S : SP) (t : Nat) : SP := if nI (sf S t 2) ≤ zV (zN (sc S 0)) then ssc S 0 (zN (sc S 0)) else comeQ (ssc S 0 (zN (sc S 0))) t
def comeN (S : SP) : Nat → Nat → SP
  | 0, _ => S
  | k + 1, t => comeN (come1 S t) k (t + 1)
def comeS (S : SP) : SP := comeN S (sn S 1) 0
/-- who leaves the boat: earned, carried -/
def paid (S : SP) (p : Nat) : List Nat → Int32 × Int32 → Int32 × Int32
  | [], c => c
  | t :: l, c => if sf S t 1 = p then paid S p l (c.1 + nI (sf S t 4), c.2 + 1) else paid S p l c
def landB (S : SP) (x : Nat) : SP :=
  if (sB S x).2.1 = 0 then S else if (sB S x).2.1 ≠ 1 then ssB S x ((sB S x).1, (sB S x).2.1 - 1, (sB S x).2.2)
  else ssc (ssc (ssB S x ((sB S x).1, 0, (sB S x).2.2.filter (fun t => decide (sf S t 1 ≠ (sB S x).1)))) 3 (paid S (sB S x).1 (sB S x).2.2 (sc S 3, sc S 4)).1) 4 (paid S (sB S x).1 (sB S x).2.2 (sc S 3, sc S 4)).2
def nbd (S : SP) (x : Nat) : Nat := min (sQ S (sB S x).1).length (sn S 2 - (sB S x).2.2.length)
def boardB (S : SP) (x : Nat) : SP :=
  if (sB S x).2.1 ≠ 0 then S else ssQ (ssB S x ((sB S x).1, 0, (sB S x).2.2 ++ ((sQ S (sB S x).1).take (nbd S x)).map Prod.fst)) (sB S x).1 ((sQ S (sB S x).1).drop (nbd S x))
def sendB (S : SP) (x : Nat) (to : Option Nat) : SP := match to with
  | none => S
  | some t => if t < sn S 0 ∧ t ≠ (sB S x).1 then ssB S x (t, sy S ((sB S x).1 * 4 + t), (sB S x).2.2) else S
def stays (S : SP) (p : Nat × Nat) : Bool := decide (sn S 3 + 1 < p.2 + sf S p.1 3)
def waitL (S : SP) (l : Nat) : SP := ssc (ssc (ssQ S l ((sQ S l).filter (stays S))) 1 (sc S 1 + nI (sQ S l).length)) 2 (sc S 2 + nI ((sQ S l).length - ((sQ S l).filter (stays S)).length))
def closeS (S : SP) : SP := ssn (waitL (waitL (waitL (waitL S 0) 1) 2) 3) 3 (sn S 3 + 1)
-- which landing a rule tells
def firstTo (S : SP) (x : Nat) : Option Nat := (sB S x).2.2.head?.map (fun t => sf S t 1)
def since (S : SP) (p : Nat × Nat) : Nat := sn S 3 - p.2
/-- the least landing (not p) with the greatest value above 'm' -/
def argm (f : Nat → Option Nat) (p : Nat) : Nat → Nat → Nat → Option Nat → Option Nat
  | 0, _, _, best => best
  | k + 1, l, m, best => if l = p then argm f p k (l + 1) m best else match f l with
    | none => argm f p k (l + 1) m best
    | some v => if m ≤ v then argm f p k (l + 1) (v + 1) (some l) else argm f p k (l + 1) m best
def longS (S : SP) (x : Nat) : Option Nat := argm (fun l => (sQ S l).head?.map (since S)) (sB S x).1 (sn S 0) 0 (sK S x).2 none
def busyS (S : SP) (x : Nat) : Option Nat := argm (fun l => some (sQ S l).length) (sB S x).1 (sn S 0) 0 ((sK S x).2 + 1) none
def bound (S : SP) (x l : Nat) : Nat := ((sB S x).2.2.filter (fun t => decide (sf S t 1 = l))).length
def mostS (S : SP) (x : Nat) : Option Nat := argm (fun l => some (bound S x l)) 9 (sn S 0) 0 1 none
def canN (S : SP) (l : Nat) : Nat → Nat → Bool
  | 0, _ => false
  | k + 1, t => (decide (sf S t 0 = l) && decide (0 < sf S t 2)) || canN S l k (t + 1)
def canCome (S : SP) (l : Nat) : Bool := canN S l (sn S 1) 0
def isT (S : SP) (x : Nat) : Bool := decide (sn S 3 % ((sK S x).2 + 1) = 0)
def chooseS (S : SP) (x : Nat) : Option Nat := match (sK S x).1 with
  | 0 => firstTo S x
  | 1 => if isT S x = true then some (if (sB S x).1 + 1 < sn S 0 then (sB S x).1 + 1 else 0) else none
  | 2 => if (sB S x).2.2 = [] then longS S x else firstTo S x
  | 3 => if (sB S x).2.2 = [] then busyS S x else firstTo S x
  | 4 => if (sK S x).2 < (sB S x).2.2.length ∨ sn S 2 ≤ (sB S x).2.2.length ∨ canCome S (sB S x).1 = false then firstTo S x else none
  | 5 => if (sB S x).2.2 = [] then busyS S x else mostS S x
  | _ => if isT S x = true then some ((sK S x).2 % sn S 0) else none
def askB (S : SP) (x : Nat) : SP := if (sB S x).2.1 = 0 then sendB S x (chooseS S x) else S
def bringS (S : SP) : SP := if sn S 4 = 1 then boardB (landB (comeS S) 0) 0 else boardB (boardB (landB (landB (comeS S) 0) 1) 0) 1
def minS (S : SP) : SP := if sn S 4 = 1 then closeS (askB (bringS S) 0) else closeS (askB (askB (bringS S) 0) 1)
def passS (S : SP) : Nat → SP
  | 0 => S
  | k + 1 => passS (minS S) k
