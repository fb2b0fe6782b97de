/-! The memory of the whole run, as functions by address; walks over it, one instruction a row. -/
theorem TS_good : GoodIn TS TS := fun w h => ⟨h, good_of_word (List.mem_filter.mp h).2⟩
theorem TS_code {y : MethodName} {cc : ByteArray} {nL : Nat} {ret : Option FieldType} {y' : MethodName} {cc' : ByteArray} {nL' : Nat} {ret' : Option FieldType} (h : Cond.code y cc nL ret ∈ TS) : GoodIn (Cond.code y' cc' nL' ret' :: TS) (Cond.code y cc nL ret :: TS) := by
  intro w hw
  rcases List.mem_cons.mp hw with rfl | hw
  · exact ⟨List.mem_cons_of_mem _ h, (TS_good _ h).2⟩
  · exact ⟨List.mem_cons_of_mem _ hw, (TS_good _ hw).2⟩
/-- memory: kind and length of each address (0 nothing, 1 ints, 2 longs, 3 shelves, 4 + k an object of class k); ints; longs; references; the next address -/
abbrev Mm : Type := (Nat → Nat × Nat) × (Nat → Nat → Int32) × (Nat → Nat → Int64) × (Nat → Nat → Option Nat) × Nat
def up2 {α : Type} (f : Nat → Nat → α) (a k : Nat) (v : α) : Nat → Nat → α := fun b j => if b = a then (if j = k then v else f b j) else f b j
def upR {α : Type} (f : Nat → Nat → α) (a : Nat) (g : Nat → α) : Nat → Nat → α := fun b j => if b = a then g j else f b j
def sI (M : Mm) (a k : Nat) (v : Int32) : Mm := (M.1, up2 M.2.1 a k v, M.2.2)
def sL (M : Mm) (a k : Nat) (v : Int64) : Mm := (M.1, M.2.1, up2 M.2.2.1 a k v, M.2.2.2)
def sR (M : Mm) (a k : Nat) (v : Option Nat) : Mm := (M.1, M.2.1, M.2.2.1, up2 M.2.2.2.1 a k v, M.2.2.2.2)
def sG (M : Mm) (a : Nat) (g : Nat → Int32) : Mm := (M.1, upR M.2.1 a g, M.2.2)
/-- a new cell: its kind and length; ints and longs 0, references null -/
def nw (M : Mm) (t n : Nat) : Mm := (fun b => if b = M.2.2.2.2 then (t, n) else M.1 b, upR M.2.1 M.2.2.2.2 (fun _ => 0), upR M.2.2.1 M.2.2.2.2 (fun _ => 0), upR M.2.2.2.1 M.2.2.2.2 (fun _ => none), M.2.2.2.2 + 1)
abbrev nx (M : Mm) : Nat := M.2.2.2.2
-- what the programs do, each with what goes on behind it
def ck {ρ : Type} (c : Nat) (M : Mm) (a : Nat) (κ : Option ρ) : Option ρ := if (M.1 a).1 = c + 4 then κ else none
def gI {ρ : Type} (c : Nat) (M : Mm) (a k : Nat) (κ : Int32 → Option ρ) : Option ρ := if (M.1 a).1 = c + 4 then κ (M.2.1 a k) else none
def pI {ρ : Type} (c : Nat) (M : Mm) (a k : Nat) (v : Int32) (κ : Mm → Option ρ) : Option ρ := if (M.1 a).1 = c + 4 then κ (sI M a k v) else none
def pZ {ρ : Type} (c : Nat) (M : Mm) (a k : Nat) (v : Int32) (κ : Mm → Option ρ) : Option ρ := if (M.1 a).1 = c + 4 ∧ (v = 0 ∨ v = 1) then κ (sI M a k v) else none
def gR {ρ : Type} (c : Nat) (M : Mm) (a k : Nat) (κ : Nat → Option ρ) : Option ρ := if (M.1 a).1 = c + 4 then (M.2.2.2.1 a k).elim none κ else none
def gN {ρ : Type} (c : Nat) (M : Mm) (a k : Nat) (κ0 : Option ρ) (κ : Nat → Option ρ) : Option ρ := if (M.1 a).1 = c + 4 then (M.2.2.2.1 a k).elim κ0 κ else none
def pR {ρ : Type} (c : Nat) (M : Mm) (a k : Nat) (v : Option Nat) (κ : Mm → Option ρ) : Option ρ := if (M.1 a).1 = c + 4 then κ (sR M a k v) else none
def isRule (t : Nat) : Bool := t == 4 || t == 6 || t == 7 || t == 8 || t == 10 || t == 12 || t == 13
def gF {ρ : Type} (M : Mm) (a : Nat) (κ : Int32 → Option ρ) : Option ρ := if isRule (M.1 a).1 = true then κ (M.2.1 a 0) else none
def pF {ρ : Type} (M : Mm) (a : Nat) (v : Int32) (κ : Mm → Option ρ) : Option ρ := if isRule (M.1 a).1 = true then κ (sI M a 0 v) else none
def inA (i : Int32) (n : Nat) : Bool := !(decide (i < 0) || decide (n ≤ i.toNatClampNeg))
def ald {ρ : Type} (M : Mm) (a : Nat) (i : Int32) (κ : Int32 → Option ρ) : Option ρ := if (M.1 a).1 = 1 ∧ inA i (M.1 a).2 = true then κ (M.2.1 a i.toNatClampNeg) else none
def ast {ρ : Type} (M : Mm) (a : Nat) (i : Int32) (v : Int32) (κ : Mm → Option ρ) : Option ρ := if (M.1 a).1 = 1 ∧ inA i (M.1 a).2 = true then κ (sI M a i.toNatClampNeg v) else none
def alq {ρ : Type} (M : Mm) (a : Nat) (i : Int32) (κ : Nat → Option ρ) : Option ρ := if (M.1 a).1 = 3 ∧ inA i (M.1 a).2 = true then (M.2.2.2.1 a i.toNatClampNeg).elim none κ else none
def asq {ρ : Type} (M : Mm) (a : Nat) (i : Int32) (v : Nat) (κ : Mm → Option ρ) : Option ρ := if (M.1 a).1 = 3 ∧ inA i (M.1 a).2 = true ∧ (M.1 v).1 = 11 then κ (sR M a i.toNatClampNeg (some v)) else none
def alen {ρ : Type} (M : Mm) (a : Nat) (κ : Int32 → Option ρ) : Option ρ := if (M.1 a).1 = 1 ∨ (M.1 a).1 = 3 then κ (nI (M.1 a).2) else none
def acp {ρ : Type} (M : Mm) (a : Nat) (sp : Int32) (b : Nat) (dp n : Int32) (κ : Mm → Option ρ) : Option ρ :=
  if (M.1 a).1 = 1 ∧ (M.1 b).1 = 1 ∧ ¬ sp < 0 ∧ ¬ dp < 0 ∧ ¬ n < 0 ∧ sp.toNatClampNeg + n.toNatClampNeg ≤ (M.1 a).2 ∧ dp.toNatClampNeg + n.toNatClampNeg ≤ (M.1 b).2 then κ (sG M b (va_cpy (M.2.1 a) (M.2.1 b) sp.toNatClampNeg dp.toNatClampNeg n.toNatClampNeg)) else none
def idv {ρ : Type} (x y : Int32) (κ : Int32 → Option ρ) : Option ρ := if y = 0 then none else κ (x / y)
def irm {ρ : Type} (x y : Int32) (κ : Int32 → Option ρ) : Option ρ := if y = 0 then none else κ (x - x / y * y)
def ldv {ρ : Type} (x y : Int64) (κ : Int64 → Option ρ) : Option ρ := if y = 0 then none else κ (x / y)
def lrm {ρ : Type} (x y : Int64) (κ : Int64 → Option ρ) : Option ρ := if y = 0 then none else κ (x - x / y * y)
/-- a call's answer and memory -/
def bnd {α ρ : Type} (x : Option (α × Mm)) (κ : α → Mm → Option ρ) : Option ρ := x.elim none (fun q => κ q.1 q.2)
def rq {ρ : Type} (c : Prop) [Decidable c] (κ : Option ρ) : Option ρ := if c then κ else none
theorem bnd_some {α ρ : Type} {x : Option (α × Mm)} {κ : α → Mm → Option ρ} {r : ρ} (h : bnd x κ = some r) : ∃ (a : α) (M : Mm), x = some (a, M) ∧ κ a M = some r := by
  cases x with
  | none => cases h
  | some q => exact ⟨q.1, q.2, rfl, h⟩
theorem rq_some {ρ : Type} {c : Prop} [Decidable c] {κ : Option ρ} {r : ρ} (h : rq c κ = some r) : c ∧ κ = some r := by
  unfold rq at h
  split at h
  · exact ⟨by assumption, h⟩
  · cases h
theorem ite_t {ρ : Type} {c : Prop} [Decidable c] {A B : Option ρ} {r : ρ} (hc : c) (h : (if c then A else B) = some r) : A = some r := by rwa [if_pos hc] at h
theorem ite_f {ρ : Type} {c : Prop} [Decidable c] {A B : Option ρ} {r : ρ} (hc : ¬ c) (h : (if c then A else B) = some r) : B = some r := by rwa [if_neg hc] at h
theorem opt_some {α ρ : Type} {o : Option α} {κ : α → Option ρ} {r : ρ} (h : o.elim none κ = some r) : ∃ a, o = some a ∧ κ a = some r := by
  cases o with
  | none => cases h
  | some a => exact ⟨a, rfl, h⟩
theorem ck_some {ρ : Type} {c : Nat} {M : Mm} {a : Nat} {κ : Option ρ} {r : ρ} (h : ck c M a κ = some r) : (M.1 a).1 = c + 4 ∧ κ = some r := by
  unfold ck at h
  split at h
  · exact ⟨by assumption, h⟩
  · cases h
def nwo {ρ : Type} (t n : Nat) (M : Mm) (κ : Nat → Mm → Option ρ) : Option ρ := κ (nx M) (nw M t n)
theorem nwo_some {ρ : Type} {t n : Nat} {M : Mm} {κ : Nat → Mm → Option ρ} {r : ρ} (h : nwo t n M κ = some r) : ∃ (a : Nat) (M' : Mm), a = nx M ∧ M' = nw M t n ∧ κ a M' = some r := ⟨_, _, rfl, rfl, h⟩
def nn {ρ : Type} (o : Option Nat) (κ : Nat → Option ρ) : Option ρ := o.elim none κ
theorem nn_some {ρ : Type} {o : Option Nat} {κ : Nat → Option ρ} {r : ρ} (h : nn o κ = some r) : ∃ a, o = some a ∧ κ a = some r := opt_some h
def onn {ρ : Type} (o : Option Nat) (κ0 : Option ρ) (κ : Nat → Option ρ) : Option ρ := o.elim κ0 κ
theorem onn_some {ρ : Type} {o : Option Nat} {κ0 : Option ρ} {κ : Nat → Option ρ} {r : ρ} (h : onn o κ0 κ = some r) : (o = none ∧ κ0 = some r) ∨ ∃ a, o = some a ∧ κ a = some r := by
  cases o with
  | none => exact Or.inl ⟨rfl, h⟩
  | some a => exact Or.inr ⟨a, rfl, h⟩
-- the classes by number: fields' types
def clty (c : Nat) : Nat → FieldType := match c with
  | 0 => tyX0 | 1 => tyX1 | 2 => tyX2 | 3 => tyX3 | 4 => tyX4 | 5 => tyX5 | 6 => tyX6 | 7 => tyX7 | 8 => tyX8 | 9 => tyX9 | 10 => tyX10 | 11 => tyX11 | _ => tyX12
def isRf (t : FieldType) : Bool := match t with
  | .object _ => true
  | .array _ => true
  | _ => false
def fv (M : Mm) (c a k : Nat) : Value := if isRf (clty c k) = true then va_rf (M.2.2.2.1 a k) else .int (M.2.1 a k)
abbrev Gl : Type := Nat × va_G × ClassId × ClassId × ClassId
def Cel (G : Gl) (M : Mm) (a : Nat) (H : Heap) : Prop := match (M.1 a).1 with
  | 0 => True
  | 1 => G.1 ≤ a ∧ H[a]? = some (vp_cell G.2.2.1 ((M.1 a).2, .inl (M.2.1 a)))
  | 2 => G.1 ≤ a ∧ H[a]? = some (vp_cell G.2.2.2.1 ((M.1 a).2, .inr (.inl (M.2.2.1 a))))
  | 3 => G.1 ≤ a ∧ H[a]? = some (vp_cell G.2.2.2.2 ((M.1 a).2, .inr (.inr (.inr (.inr (M.2.2.2.1 a))))))
  | t + 4 => G.1 ≤ a ∧ ∃ r : vw_C, vwCl[t]? = some r ∧ t_OB a (G.2.1.1 t) r.2.2 (G.2.1.2 t) H (fv M t a)
def RP (G : Gl) (M : Mm) (H : Heap) : Prop := H.size = nx M ∧ G.1 ≤ nx M ∧ ∀ a, Cel G M a H
theorem Cel_obj {G : Gl} {M : Mm} {a t : Nat} {H : Heap} (h : Cel G M a H) (ht : (M.1 a).1 = t + 4) : G.1 ≤ a ∧ ∃ r : vw_C, vwCl[t]? = some r ∧ t_OB a (G.2.1.1 t) r.2.2 (G.2.1.2 t) H (fv M t a) := by
  unfold Cel at h; rw [ht] at h; exact h
theorem Cel_int {G : Gl} {M : Mm} {a : Nat} {H : Heap} (h : Cel G M a H) (ht : (M.1 a).1 = 1) : G.1 ≤ a ∧ H[a]? = some (vp_cell G.2.2.1 ((M.1 a).2, .inl (M.2.1 a))) := by
  unfold Cel at h; rw [ht] at h; exact h
theorem Cel_long {G : Gl} {M : Mm} {a : Nat} {H : Heap} (h : Cel G M a H) (ht : (M.1 a).1 = 2) : G.1 ≤ a ∧ H[a]? = some (vp_cell G.2.2.2.1 ((M.1 a).2, .inr (.inl (M.2.2.1 a)))) := by
  unfold Cel at h; rw [ht] at h; exact h
theorem Cel_rf {G : Gl} {M : Mm} {a : Nat} {H : Heap} (h : Cel G M a H) (ht : (M.1 a).1 = 3) : G.1 ≤ a ∧ H[a]? = some (vp_cell G.2.2.2.2 ((M.1 a).2, .inr (.inr (.inr (.inr (M.2.2.2.1 a)))))) := by
  unfold Cel at h; rw [ht] at h; exact h
/-- a cell that the memory tells alike, and that is the same on the heap -/
theorem Cel_kept {G : Gl} {M M' : Mm} {a : Nat} {H H' : Heap} (h : Cel G M a H) (h1 : M'.1 a = M.1 a) (h2 : M'.2.1 a = M.2.1 a) (h3 : M'.2.2.1 a = M.2.2.1 a) (h4 : M'.2.2.2.1 a = M.2.2.2.1 a) (hH : H'[a]? = H[a]?) : Cel G M' a H' := by
  have hf : ∀ t, fv M' t a = fv M t a := fun t => by funext k; simp only [fv, h2, h4]
  unfold Cel at h ⊢
  rw [h1, h2, h3, h4, hH]
  split <;> rename_i ht <;> rw [ht] at h
  · trivial
  · exact h
  · exact h
  · exact h
  · obtain ⟨g1, r, g2, g3⟩ := h
    exact ⟨g1, r, g2, by rw [hf]; exact g3.kept hH⟩
theorem Cel_lt {G : Gl} {M : Mm} {a : Nat} {H : Heap} (h : Cel G M a H) (ht : (M.1 a).1 ≠ 0) : a < H.size := by
  unfold Cel at h
  split at h <;> rename_i hq
  · exact absurd hq ht
  · exact (Array.getElem?_eq_some_iff.mp h.2).1
  · exact (Array.getElem?_eq_some_iff.mp h.2).1
  · exact (Array.getElem?_eq_some_iff.mp h.2).1
  · obtain ⟨-, r, -, cell, g, -⟩ := h
    exact (Array.getElem?_eq_some_iff.mp g).1
theorem up2_ne {α : Type} {f : Nat → Nat → α} {a k b : Nat} {v : α} (h : b ≠ a) : up2 f a k v b = f b := by funext j; simp [up2, h]
theorem up2_at {α : Type} {f : Nat → Nat → α} {a k : Nat} {v : α} : up2 f a k v a = fun j => if j = k then v else f a j := by funext j; simp [up2]
theorem upR_ne {α : Type} {f : Nat → Nat → α} {a b : Nat} {g : Nat → α} (h : b ≠ a) : upR f a g b = f b := by funext j; simp [upR, h]
theorem upR_at {α : Type} {f : Nat → Nat → α} {a : Nat} {g : Nat → α} : upR f a g a = g := by funext j; simp [upR]
-- the private members of nest mates that are called: caller's class, pool index, method, host
def nestL : List (String × Nat × MethodName × String) := [("FerryBells", 30, yX5_init, "FerryBells"), ("FerryBells", 48, yX7_init, "FerryBells"), ("FerryBells$Best", 34, yX11_at, "FerryBells"), ("FerryBells$Boat", 34, yX11_copyAll, "FerryBells"), ("FerryBells$RiverText", 66, yX11_change, "FerryBells"), ("FerryBells$Rule", 22, yX11_at, "FerryBells"), ("FerryBells$Shelf", 30, yX11_at, "FerryBells"), ("FerryBells$Shelf", 34, yX11_change, "FerryBells"), ("FerryBells$World", 111, yX11_change, "FerryBells"), ("FerryBells$World", 36, yX1_init, "FerryBells"), ("FerryBells$World", 81, yX11_copyAll, "FerryBells"), ("FerryBells$World", 89, yX11_at, "FerryBells")]
def NN (U : State) : Prop := ∀ q ∈ nestL, va_Nw (.methodLinkNest q.1 q.2.1 q.2.2.1 q.2.2.2) U
def KK (G : Gl) (U : State) : Prop := va_K G.2.1 vwCl [(G.2.2.1, .int), (G.2.2.2.1, .long), (G.2.2.2.2, .object RX7)] U ∧ NN U ∧ va_AO RX7 U
theorem KK_warm {G : Gl} {s U : State} (hW : s.WarmedH U.vm) (h : KK G s) : KK G U := ⟨va_K.moved hW.alike h.1, fun q hq => va_Nw.warmM hW (h.2.1 q hq), va_AO.moved hW.alike h.2.2⟩
theorem KK_vm {G : Gl} {s U : State} (e : s.vm = U.vm) (h : KK G s) : KK G U := ⟨va_K.moved (by rw [e]; exact Vm.Alike.refl _) h.1, fun q hq => va_Nw.same rfl e (h.2.1 q hq), va_AO.moved (by rw [e]; exact Vm.Alike.refl _) h.2.2⟩
-- where a walk stands
abbrev Cx : Type := Program × Launch × Env × Room × State × MethodId × Array Value × List Frame × Method × Code
def CX (X : Cx) (G : Gl) (y : MethodName) (cc : ByteArray) (nL : Nat) (ret : Option FieldType) (rm : Room) : Prop := match X with
  | (p, l, _, R, s, m, args, _, meth, c) => CallFix p m c cc nL s args TS y.cls ∧ KK G s ∧ R = rm ∧ meth.sig.returnType = ret ∧ meth.locks = false ∧ G.1 ≤ s.heap.size ∧ meth.name = y.name ∧ l.flags = flags0
def TW (X : Cx) (G : Gl) (nL : Nat) (Q : State → Prop) (cs ss : Nat) (M : Mm) (pc : Nat) (lv : List (Nat × Value)) (st : List Value) : Prop := match X with
  | (p, l, e, R, s, m, args, below, meth, c) => ∀ (H : Heap) (locs : List Loc) (ls : Array Slot), RP G M H → va_S (fun q => G.1 ≤ q) s.heap H locs → lv_has ls nL lv → W p l e R s m args below meth c H locs cs ss Q (F0 m pc ls st)
def QG (G : Gl) (rv : Option Value) (M' : Mm) : Array Value → State → Outcome → State → Prop := fun _ st oc t => oc = .returned rv ∧ RP G M' t.heap ∧ va_F (fun q => G.1 ≤ q) st t
def PG (G : Gl) (avs : List Value) (M : Mm) : Array Value → State → Prop := va_Pc avs (fun U => RP G M U.heap ∧ KK G U)
/-- a method at memory M, with these arguments: it returns rv, with the memory M' -/
def MT (l : Launch) (G : Gl) (y : MethodName) (cc : ByteArray) (nL : Nat) (ret : Option FieldType) (rm : Room) (avs : List Value) (M : Mm) (rv : Option Value) (M' : Mm) : Prop :=
  Met l y (Cond.code y cc nL ret :: TS) rm (PG G avs M) (QG G rv M') rm.cells rm.slots (fun q => G.1 ≤ q)
def RQ (X : Cx) (G : Gl) (rv : Option Value) (M' : Mm) (rm : Room) : State → Prop := match X with
  | (_, _, _, _, s, _, args, below, _, _) => MQ below (QG G rv M') args s rm.cells rm.slots (fun q => G.1 ≤ q)
theorem PG_blind {G : Gl} {avs : List Value} {M : Mm} : FrameBlind (PG G avs M) := fun a U g mk h => ⟨h.1, h.2.1, KK_vm (s := U) (U := U.calling g mk a) rfl h.2.2⟩
theorem zt_start {l : Launch} (hfl : l.flags = flags0) {G : Gl} {y : MethodName} {cc : ByteArray} {nL : Nat} {ret : Option FieldType} {rm : Room} {avs : List Value} {M M' : Mm} {rv : Option Value} {lv : List (Nat × Value)} (hy : plainName y.cls = true) (hlen : (lg_sl avs).length ≤ nL) (hlv : lv_args 0 avs = lv) (hc : Cond.code y cc nL ret ∈ TS)
    (kk : ∀ X : Cx, CX X G y cc nL ret rm → X.2.1 = l → TW X G nL (RQ X G rv M' rm) 0 0 M 0 lv []) : MT l G y cc nL ret rm avs M rv M' := by
  refine Met.ofW (cc := cc) (maxL := nL) (ret := ret) hy rfl ?_
  intro p e s m args below meth c s₁ B hml hv
  obtain ⟨rfl, hRP, hKK⟩ := hv
  have hts := atoms_spec (ws := Cond.code y cc nL ret :: TS) B.pre
  have hown : s.vm.findClass y.cls = some m.cls := findClass_of_methodNamed B.named
  have hx := kk (p, l, e, rm, s, m, avs.toArray, below, meth, c) ⟨⟨B.exec, B.bytes, hml, hown, fun w hw => hts w (List.mem_cons_of_mem _ hw)⟩, hKK, rfl, B.returns, B.notSynchronized, by rw [hRP.1]; exact hRP.2.1, (name_of_methodNamed B.named B.method).1, hfl⟩ rfl
  have hl := lv_entry avs (n := nL) hlen
  rw [hlv] at hl
  rw [lg_entry_eq]
  exact hx s.heap [] _ hRP va_S.rf hl
section ROWS
variable {X : Cx} {G : Gl} {y : MethodName} {cc : ByteArray} {nL : Nat} {ret : Option FieldType} {rm : Room} {Q : State → Prop} {cs ss : Nat} {M : Mm} {pc : Nat} {lv : List (Nat × Value)} {st : List Value}
def lvg : List (Nat × Value) → Nat → Option Value
  | [], _ => none
  | (i, v) :: t, k => if i = k then some v else lvg t k
theorem lvg_mem {lv : List (Nat × Value)} {k : Nat} {v : Value} (h : lvg lv k = some v) : (k, v) ∈ lv := by
  induction lv with
  | nil => cases h
  | cons q t ih =>
    obtain ⟨i, w⟩ := q
    unfold lvg at h
    split at h
    · rename_i e
      subst e
      cases h
      exact List.mem_cons_self
    · exact List.mem_cons_of_mem _ (ih h)
def lvs1 (lv : List (Nat × Value)) (i : Nat) (v : Value) : List (Nat × Value) := (i, v) :: lv.filter (fun q => !(q.1 == i) && !(q.1 + 1 == i && q.2.category == 2))
def lvs2 (lv : List (Nat × Value)) (i : Nat) (v : Value) : List (Nat × Value) := (i, v) :: lv.filter (fun q => !(q.1 == i) && (!(q.1 == i + 1) && !(q.1 + 1 == i && q.2.category == 2)))
theorem zt_iconst (hC : CX X G y cc nL ret rm) {n : Int} {v : Int32} (hv : Int32.ofInt n = v) (hdg : decode cc pc = .ok (.iconst n, 1)) (k : TW X G nL Q cs ss M (pc + 1) lv (.int v :: st)) : TW X G nL Q cs ss M pc lv st := by
  obtain ⟨p, l, e, R, s, m, args, below, meth, c⟩ := X
  intro H locs ls hP hS hl
  exact lv_iconst hC.1.1 hC.1.2.1 hdg hv (k H locs ls hP hS hl)
theorem zt_bipush (hC : CX X G y cc nL ret rm) {n : Int} {v : Int32} (hv : (Int8.ofInt n).toInt32 = v) (hdg : decode cc pc = .ok (.bipush n, 2)) (k : TW X G nL Q cs ss M (pc + 2) lv (.int v :: st)) : TW X G nL Q cs ss M pc lv st := by
  obtain ⟨p, l, e, R, s, m, args, below, meth, c⟩ := X
  intro H locs ls hP hS hl
  exact lv_bipush hC.1.1 hC.1.2.1 hdg hv (k H locs ls hP hS hl)
theorem zt_sipush (hC : CX X G y cc nL ret rm) {n : Int} {v : Int32} (hv : (Int16.ofInt n).toInt32 = v) (hdg : decode cc pc = .ok (.sipush n, 3)) (k : TW X G nL Q cs ss M (pc + 3) lv (.int v :: st)) : TW X G nL Q cs ss M pc lv st := by
  obtain ⟨p, l, e, R, s, m, args, below, meth, c⟩ := X
  intro H locs ls hP hS hl
  exact lv_sipush hC.1.1 hC.1.2.1 hdg hv (k H locs ls hP hS hl)
theorem zt_lconst (hC : CX X G y cc nL ret rm) {n : Fin 2} {v : Int64} (hv : Int64.ofNat (n : Nat) = v) (hdg : decode cc pc = .ok (.lconst n, 1)) (k : TW X G nL Q cs ss M (pc + 1) lv (.long v :: st)) : TW X G nL Q cs ss M pc lv st := by
  obtain ⟨p, l, e, R, s, m, args, below, meth, c⟩ := X
  intro H locs ls hP hS hl
  exact lv_lconst hC.1.1 hC.1.2.1 hdg hv (k H locs ls hP hS hl)
theorem zt_ldc (hC : CX X G y cc nL ret rm) {idx : Nat} {v : Int32} (hw : Cond.constant y.cls idx v ∈ TS) (hdg : decode cc pc = .ok (.ldc idx, 2)) (k : TW X G nL Q cs ss M (pc + 2) lv (.int v :: st)) : TW X G nL Q cs ss M pc lv st := by
  obtain ⟨p, l, e, R, s, m, args, below, meth, c⟩ := X
  intro H locs ls hP hS hl
  exact lv_ldc hC.1.1 hC.1.2.1 hC.1.2.2.2.1 (hC.1.2.2.2.2 _ hw) hdg (k H locs ls hP hS hl)
theorem zt_ldcw (hC : CX X G y cc nL ret rm) {idx : Nat} {v : Int32} (hw : Cond.constant y.cls idx v ∈ TS) (hdg : decode cc pc = .ok (.ldc_w idx, 3)) (k : TW X G nL Q cs ss M (pc + 3) lv (.int v :: st)) : TW X G nL Q cs ss M pc lv st := by
  obtain ⟨p, l, e, R, s, m, args, below, meth, c⟩ := X
  intro H locs ls hP hS hl
  exact lv_ldcw hC.1.1 hC.1.2.1 hC.1.2.2.2.1 (hC.1.2.2.2.2 _ hw) hdg (k H locs ls hP hS hl)
theorem zt_ldc2 (hC : CX X G y cc nL ret rm) {idx : Nat} {v : Int64} (hw : Cond.constantLong y.cls idx v ∈ TS) (hdg : decode cc pc = .ok (.ldc2_w idx, 3)) (k : TW X G nL Q cs ss M (pc + 3) lv (.long v :: st)) : TW X G nL Q cs ss M pc lv st := by
  obtain ⟨p, l, e, R, s, m, args, below, meth, c⟩ := X
  intro H locs ls hP hS hl
  exact lv_ldc2 hC.1.1 hC.1.2.1 hC.1.2.2.2.1 (hC.1.2.2.2.2 _ hw) hdg (k H locs ls hP hS hl)
theorem zt_iload_n (hC : CX X G y cc nL ret rm) {i : Fin 4} {x : Int32} (hg : lvg lv i = some (.int x)) (hdg : decode cc pc = .ok (.iload_n i, 1)) (k : TW X G nL Q cs ss M (pc + 1) lv (.int x :: st)) : TW X G nL Q cs ss M pc lv st := by
  obtain ⟨p, l, e, R, s, m, args, below, meth, c⟩ := X
  intro H locs ls hP hS hl
  exact lv_iload_n hC.1.1 hC.1.2.1 hdg rfl (hl.2.2 _ (lvg_mem hg)) (k H locs ls hP hS hl)
theorem zt_iload (hC : CX X G y cc nL ret rm) {i : Nat} {x : Int32} (hg : lvg lv i = some (.int x)) (hdg : decode cc pc = .ok (.iload i, 2)) (k : TW X G nL Q cs ss M (pc + 2) lv (.int x :: st)) : TW X G nL Q cs ss M pc lv st := by
  obtain ⟨p, l, e, R, s, m, args, below, meth, c⟩ := X
  intro H locs ls hP hS hl
  exact lv_iload hC.1.1 hC.1.2.1 hdg (hl.2.2 _ (lvg_mem hg)) (k H locs ls hP hS hl)
theorem zt_lload_n (hC : CX X G y cc nL ret rm) {i : Fin 4} {x : Int64} (hg : lvg lv i = some (.long x)) (hdg : decode cc pc = .ok (.lload_n i, 1)) (k : TW X G nL Q cs ss M (pc + 1) lv (.long x :: st)) : TW X G nL Q cs ss M pc lv st := by
  obtain ⟨p, l, e, R, s, m, args, below, meth, c⟩ := X
  intro H locs ls hP hS hl
  exact lv_lload_n hC.1.1 hC.1.2.1 hdg rfl (hl.2.2 _ (lvg_mem hg)) (k H locs ls hP hS hl)
theorem zt_lload (hC : CX X G y cc nL ret rm) {i : Nat} {x : Int64} (hg : lvg lv i = some (.long x)) (hdg : decode cc pc = .ok (.lload i, 2)) (k : TW X G nL Q cs ss M (pc + 2) lv (.long x :: st)) : TW X G nL Q cs ss M pc lv st := by
  obtain ⟨p, l, e, R, s, m, args, below, meth, c⟩ := X
  intro H locs ls hP hS hl
  exact lv_lload hC.1.1 hC.1.2.1 hdg (hl.2.2 _ (lvg_mem hg)) (k H locs ls hP hS hl)
theorem zt_aload_n (hC : CX X G y cc nL ret rm) {i : Fin 4} {x : Nat} (hg : lvg lv i = some (.ref x)) (hdg : decode cc pc = .ok (.aload_n i, 1)) (k : TW X G nL Q cs ss M (pc + 1) lv (.ref x :: st)) : TW X G nL Q cs ss M pc lv st := by
  obtain ⟨p, l, e, R, s, m, args, below, meth, c⟩ := X
  intro H locs ls hP hS hl
  exact lv_aload_n hC.1.1 hC.1.2.1 hdg rfl (hl.2.2 _ (lvg_mem hg)) (k H locs ls hP hS hl)
theorem zt_aload (hC : CX X G y cc nL ret rm) {i : Nat} {x : Nat} (hg : lvg lv i = some (.ref x)) (hdg : decode cc pc = .ok (.aload i, 2)) (k : TW X G nL Q cs ss M (pc + 2) lv (.ref x :: st)) : TW X G nL Q cs ss M pc lv st := by
  obtain ⟨p, l, e, R, s, m, args, below, meth, c⟩ := X
  intro H locs ls hP hS hl
  exact lv_aload hC.1.1 hC.1.2.1 hdg (hl.2.2 _ (lvg_mem hg)) (k H locs ls hP hS hl)
theorem zt_aload_nN (hC : CX X G y cc nL ret rm) {i : Fin 4} (hg : lvg lv i = some .null) (hdg : decode cc pc = .ok (.aload_n i, 1)) (k : TW X G nL Q cs ss M (pc + 1) lv (.null :: st)) : TW X G nL Q cs ss M pc lv st := by
  obtain ⟨p, l, e, R, s, m, args, below, meth, c⟩ := X
  intro H locs ls hP hS hl
  exact lv_aload_nN hC.1.1 hC.1.2.1 hdg rfl (hl.2.2 _ (lvg_mem hg)) (k H locs ls hP hS hl)
theorem zt_aloadN (hC : CX X G y cc nL ret rm) {i : Nat} (hg : lvg lv i = some .null) (hdg : decode cc pc = .ok (.aload i, 2)) (k : TW X G nL Q cs ss M (pc + 2) lv (.null :: st)) : TW X G nL Q cs ss M pc lv st := by
  obtain ⟨p, l, e, R, s, m, args, below, meth, c⟩ := X
  intro H locs ls hP hS hl
  exact lv_aloadN hC.1.1 hC.1.2.1 hdg (hl.2.2 _ (lvg_mem hg)) (k H locs ls hP hS hl)
theorem zt_null (hC : CX X G y cc nL ret rm) (hdg : decode cc pc = .ok (.aconst_null, 1)) (k : TW X G nL Q cs ss M (pc + 1) lv (.null :: st)) : TW X G nL Q cs ss M pc lv st := by
  obtain ⟨p, l, e, R, s, m, args, below, meth, c⟩ := X
  intro H locs ls hP hS hl
  exact lv_null hC.1.1 hC.1.2.1 hdg (k H locs ls hP hS hl)
theorem zt_istore_n (hC : CX X G y cc nL ret rm) {i : Fin 4} {x : Int32} {lv' : List (Nat × Value)} (hn : i.val < nL) (hlv : lvs1 lv i.val (.int x) = lv') (hdg : decode cc pc = .ok (.istore_n i, 1)) (k : TW X G nL Q cs ss M (pc + 1) lv' st) : TW X G nL Q cs ss M pc lv (.int x :: st) := by
  obtain ⟨p, l, e, R, s, m, args, below, meth, c⟩ := X
  intro H locs ls hP hS hl
  exact lv_istore_n hC.1.1 hC.1.2.1 hdg rfl hl hn hlv (fun ls' hl' => k H locs ls' hP hS hl')
theorem zt_istore (hC : CX X G y cc nL ret rm) {i : Nat} {x : Int32} {lv' : List (Nat × Value)} (hn : i < nL) (hlv : lvs1 lv i (.int x) = lv') (hdg : decode cc pc = .ok (.istore i, 2)) (k : TW X G nL Q cs ss M (pc + 2) lv' st) : TW X G nL Q cs ss M pc lv (.int x :: st) := by
  obtain ⟨p, l, e, R, s, m, args, below, meth, c⟩ := X
  intro H locs ls hP hS hl
  exact lv_istore hC.1.1 hC.1.2.1 hdg hl hn hlv (fun ls' hl' => k H locs ls' hP hS hl')
theorem zt_astore_n (hC : CX X G y cc nL ret rm) {i : Fin 4} {x : Nat} {lv' : List (Nat × Value)} (hn : i.val < nL) (hlv : lvs1 lv i.val (.ref x) = lv') (hdg : decode cc pc = .ok (.astore_n i, 1)) (k : TW X G nL Q cs ss M (pc + 1) lv' st) : TW X G nL Q cs ss M pc lv (.ref x :: st) := by
  obtain ⟨p, l, e, R, s, m, args, below, meth, c⟩ := X
  intro H locs ls hP hS hl
  exact lv_astore_n hC.1.1 hC.1.2.1 hdg rfl hl hn hlv (fun ls' hl' => k H locs ls' hP hS hl')
theorem zt_astore (hC : CX X G y cc nL ret rm) {i : Nat} {x : Nat} {lv' : List (Nat × Value)} (hn : i < nL) (hlv : lvs1 lv i (.ref x) = lv') (hdg : decode cc pc = .ok (.astore i, 2)) (k : TW X G nL Q cs ss M (pc + 2) lv' st) : TW X G nL Q cs ss M pc lv (.ref x :: st) := by
  obtain ⟨p, l, e, R, s, m, args, below, meth, c⟩ := X
  intro H locs ls hP hS hl
  exact lv_astore hC.1.1 hC.1.2.1 hdg hl hn hlv (fun ls' hl' => k H locs ls' hP hS hl')
theorem zt_astore_nN (hC : CX X G y cc nL ret rm) {i : Fin 4} {lv' : List (Nat × Value)} (hn : i.val < nL) (hlv : lvs1 lv i.val (.null) = lv') (hdg : decode cc pc = .ok (.astore_n i, 1)) (k : TW X G nL Q cs ss M (pc + 1) lv' st) : TW X G nL Q cs ss M pc lv (.null :: st) := by
  obtain ⟨p, l, e, R, s, m, args, below, meth, c⟩ := X
  intro H locs ls hP hS hl
  exact lv_astore_nN hC.1.1 hC.1.2.1 hdg rfl hl hn hlv (fun ls' hl' => k H locs ls' hP hS hl')
theorem zt_astoreN (hC : CX X G y cc nL ret rm) {i : Nat} {lv' : List (Nat × Value)} (hn : i < nL) (hlv : lvs1 lv i (.null) = lv') (hdg : decode cc pc = .ok (.astore i, 2)) (k : TW X G nL Q cs ss M (pc + 2) lv' st) : TW X G nL Q cs ss M pc lv (.null :: st) := by
  obtain ⟨p, l, e, R, s, m, args, below, meth, c⟩ := X
  intro H locs ls hP hS hl
  exact lv_astoreN hC.1.1 hC.1.2.1 hdg hl hn hlv (fun ls' hl' => k H locs ls' hP hS hl')
theorem zt_lstore_n (hC : CX X G y cc nL ret rm) {i : Fin 4} {x : Int64} {lv' : List (Nat × Value)} (hn : i.val + 1 < nL) (hlv : lvs2 lv i.val (.long x) = lv') (hdg : decode cc pc = .ok (.lstore_n i, 1)) (k : TW X G nL Q cs ss M (pc + 1) lv' st) : TW X G nL Q cs ss M pc lv (.long x :: st) := by
  obtain ⟨p, l, e, R, s, m, args, below, meth, c⟩ := X
  intro H locs ls hP hS hl
  exact lv_lstore_n hC.1.1 hC.1.2.1 hdg rfl hl hn hlv (fun ls' hl' => k H locs ls' hP hS hl')
theorem zt_lstore (hC : CX X G y cc nL ret rm) {i : Nat} {x : Int64} {lv' : List (Nat × Value)} (hn : i + 1 < nL) (hlv : lvs2 lv i (.long x) = lv') (hdg : decode cc pc = .ok (.lstore i, 2)) (k : TW X G nL Q cs ss M (pc + 2) lv' st) : TW X G nL Q cs ss M pc lv (.long x :: st) := by
  obtain ⟨p, l, e, R, s, m, args, below, meth, c⟩ := X
  intro H locs ls hP hS hl
  exact lv_lstore hC.1.1 hC.1.2.1 hdg hl hn hlv (fun ls' hl' => k H locs ls' hP hS hl')
theorem zt_iinc (hC : CX X G y cc nL ret rm) {i : Nat} {n : Int} {x v : Int32} {lv' : List (Nat × Value)} (hg : lvg lv i = some (.int x)) (hv : x + Int32.ofInt n = v) (hn : i < nL) (hlv : lvs1 lv i (.int v) = lv') (hdg : decode cc pc = .ok (.iinc i n, 3)) (k : TW X G nL Q cs ss M (pc + 3) lv' st) : TW X G nL Q cs ss M pc lv st := by
  obtain ⟨p, l, e, R, s, m, args, below, meth, c⟩ := X
  intro H locs ls hP hS hl
  obtain ⟨j, hj⟩ := List.getElem?_of_mem (lvg_mem hg)
  exact lv_iinc hC.1.1 hC.1.2.1 hdg hl hj hv hn hlv (fun ls' hl' => k H locs ls' hP hS hl')
theorem zt_iadd (hC : CX X G y cc nL ret rm) {x y : Int32} (hdg : decode cc pc = .ok (.iadd, 1)) (k : TW X G nL Q cs ss M (pc + 1) lv (.int (x + y) :: st)) : TW X G nL Q cs ss M pc lv (.int y :: .int x :: st) := by
  obtain ⟨p, l, e, R, s, m, args, below, meth, c⟩ := X
  intro H locs ls hP hS hl
  exact lv_iadd hC.1.1 hC.1.2.1 hdg (k H locs ls hP hS hl)
theorem zt_isub (hC : CX X G y cc nL ret rm) {x y : Int32} (hdg : decode cc pc = .ok (.isub, 1)) (k : TW X G nL Q cs ss M (pc + 1) lv (.int (x - y) :: st)) : TW X G nL Q cs ss M pc lv (.int y :: .int x :: st) := by
  obtain ⟨p, l, e, R, s, m, args, below, meth, c⟩ := X
  intro H locs ls hP hS hl
  exact lv_isub hC.1.1 hC.1.2.1 hdg (k H locs ls hP hS hl)
theorem zt_imul (hC : CX X G y cc nL ret rm) {x y : Int32} (hdg : decode cc pc = .ok (.imul, 1)) (k : TW X G nL Q cs ss M (pc + 1) lv (.int (x * y) :: st)) : TW X G nL Q cs ss M pc lv (.int y :: .int x :: st) := by
  obtain ⟨p, l, e, R, s, m, args, below, meth, c⟩ := X
  intro H locs ls hP hS hl
  exact lv_imul hC.1.1 hC.1.2.1 hdg (k H locs ls hP hS hl)
theorem zt_iand (hC : CX X G y cc nL ret rm) {x y : Int32} (hdg : decode cc pc = .ok (.iand, 1)) (k : TW X G nL Q cs ss M (pc + 1) lv (.int (x &&& y) :: st)) : TW X G nL Q cs ss M pc lv (.int y :: .int x :: st) := by
  obtain ⟨p, l, e, R, s, m, args, below, meth, c⟩ := X
  intro H locs ls hP hS hl
  exact lv_iand hC.1.1 hC.1.2.1 hdg (k H locs ls hP hS hl)
theorem zt_ladd (hC : CX X G y cc nL ret rm) {x y : Int64} (hdg : decode cc pc = .ok (.ladd, 1)) (k : TW X G nL Q cs ss M (pc + 1) lv (.long (x + y) :: st)) : TW X G nL Q cs ss M pc lv (.long y :: .long x :: st) := by
  obtain ⟨p, l, e, R, s, m, args, below, meth, c⟩ := X
  intro H locs ls hP hS hl
  exact lv_ladd hC.1.1 hC.1.2.1 hdg (k H locs ls hP hS hl)
theorem zt_lsub (hC : CX X G y cc nL ret rm) {x y : Int64} (hdg : decode cc pc = .ok (.lsub, 1)) (k : TW X G nL Q cs ss M (pc + 1) lv (.long (x - y) :: st)) : TW X G nL Q cs ss M pc lv (.long y :: .long x :: st) := by
  obtain ⟨p, l, e, R, s, m, args, below, meth, c⟩ := X
  intro H locs ls hP hS hl
  exact lv_lsub hC.1.1 hC.1.2.1 hdg (k H locs ls hP hS hl)
theorem zt_lmul (hC : CX X G y cc nL ret rm) {x y : Int64} (hdg : decode cc pc = .ok (.lmul, 1)) (k : TW X G nL Q cs ss M (pc + 1) lv (.long (x * y) :: st)) : TW X G nL Q cs ss M pc lv (.long y :: .long x :: st) := by
  obtain ⟨p, l, e, R, s, m, args, below, meth, c⟩ := X
  intro H locs ls hP hS hl
  exact lv_lmul hC.1.1 hC.1.2.1 hdg (k H locs ls hP hS hl)
theorem zt_idivc (hC : CX X G y cc nL ret rm) {x y : Int32} (hy : ¬ y = 0) (hdg : decode cc pc = .ok (.idiv, 1)) (k : TW X G nL Q cs ss M (pc + 1) lv (.int (x / y) :: st)) : TW X G nL Q cs ss M pc lv (.int y :: .int x :: st) := by
  obtain ⟨p, l, e, R, s, m, args, below, meth, c⟩ := X
  intro H locs ls hP hS hl
  exact lv_idiv hC.1.1 hC.1.2.1 hdg hy (k H locs ls hP hS hl)
theorem zt_idiv {ρ : Type} {κ : Int32 → Option ρ} {r : ρ} (hC : CX X G y cc nL ret rm) {x y : Int32} (h : idv x y κ = some r) (hdg : decode cc pc = .ok (.idiv, 1)) (k : ∀ v : Int32, κ v = some r → TW X G nL Q cs ss M (pc + 1) lv (.int v :: st)) : TW X G nL Q cs ss M pc lv (.int y :: .int x :: st) := by
  unfold idv at h
  split at h
  · cases h
  · exact zt_idivc hC (by assumption) hdg (k _ h)
theorem zt_iremc (hC : CX X G y cc nL ret rm) {x y : Int32} (hy : ¬ y = 0) (hdg : decode cc pc = .ok (.irem, 1)) (k : TW X G nL Q cs ss M (pc + 1) lv (.int (x - x / y * y) :: st)) : TW X G nL Q cs ss M pc lv (.int y :: .int x :: st) := by
  obtain ⟨p, l, e, R, s, m, args, below, meth, c⟩ := X
  intro H locs ls hP hS hl
  exact lv_irem hC.1.1 hC.1.2.1 hdg hy (k H locs ls hP hS hl)
theorem zt_irem {ρ : Type} {κ : Int32 → Option ρ} {r : ρ} (hC : CX X G y cc nL ret rm) {x y : Int32} (h : irm x y κ = some r) (hdg : decode cc pc = .ok (.irem, 1)) (k : ∀ v : Int32, κ v = some r → TW X G nL Q cs ss M (pc + 1) lv (.int v :: st)) : TW X G nL Q cs ss M pc lv (.int y :: .int x :: st) := by
  unfold irm at h
  split at h
  · cases h
  · exact zt_iremc hC (by assumption) hdg (k _ h)
theorem zt_ldivc (hC : CX X G y cc nL ret rm) {x y : Int64} (hy : ¬ y = 0) (hdg : decode cc pc = .ok (.ldiv, 1)) (k : TW X G nL Q cs ss M (pc + 1) lv (.long (x / y) :: st)) : TW X G nL Q cs ss M pc lv (.long y :: .long x :: st) := by
  obtain ⟨p, l, e, R, s, m, args, below, meth, c⟩ := X
  intro H locs ls hP hS hl
  exact lv_ldiv hC.1.1 hC.1.2.1 hdg hy (k H locs ls hP hS hl)
theorem zt_ldiv {ρ : Type} {κ : Int64 → Option ρ} {r : ρ} (hC : CX X G y cc nL ret rm) {x y : Int64} (h : ldv x y κ = some r) (hdg : decode cc pc = .ok (.ldiv, 1)) (k : ∀ v : Int64, κ v = some r → TW X G nL Q cs ss M (pc + 1) lv (.long v :: st)) : TW X G nL Q cs ss M pc lv (.long y :: .long x :: st) := by
  unfold ldv at h
  split at h
  · cases h
  · exact zt_ldivc hC (by assumption) hdg (k _ h)
theorem zt_lremc (hC : CX X G y cc nL ret rm) {x y : Int64} (hy : ¬ y = 0) (hdg : decode cc pc = .ok (.lrem, 1)) (k : TW X G nL Q cs ss M (pc + 1) lv (.long (x - x / y * y) :: st)) : TW X G nL Q cs ss M pc lv (.long y :: .long x :: st) := by
  obtain ⟨p, l, e, R, s, m, args, below, meth, c⟩ := X
  intro H locs ls hP hS hl
  exact lv_lrem hC.1.1 hC.1.2.1 hdg hy (k H locs ls hP hS hl)
theorem zt_lrem {ρ : Type} {κ : Int64 → Option ρ} {r : ρ} (hC : CX X G y cc nL ret rm) {x y : Int64} (h : lrm x y κ = some r) (hdg : decode cc pc = .ok (.lrem, 1)) (k : ∀ v : Int64, κ v = some r → TW X G nL Q cs ss M (pc + 1) lv (.long v :: st)) : TW X G nL Q cs ss M pc lv (.long y :: .long x :: st) := by
  unfold lrm at h
  split at h
  · cases h
  · exact zt_lremc hC (by assumption) hdg (k _ h)
theorem zt_ineg (hC : CX X G y cc nL ret rm) {x : Int32} (hdg : decode cc pc = .ok (.ineg, 1)) (k : TW X G nL Q cs ss M (pc + 1) lv (.int (-x) :: st)) : TW X G nL Q cs ss M pc lv (.int x :: st) := by
  obtain ⟨p, l, e, R, s, m, args, below, meth, c⟩ := X
  intro H locs ls hP hS hl
  exact lv_ineg hC.1.1 hC.1.2.1 hdg (k H locs ls hP hS hl)
theorem zt_i2l (hC : CX X G y cc nL ret rm) {x : Int32} (hdg : decode cc pc = .ok (.i2l, 1)) (k : TW X G nL Q cs ss M (pc + 1) lv (.long (x.toInt64) :: st)) : TW X G nL Q cs ss M pc lv (.int x :: st) := by
  obtain ⟨p, l, e, R, s, m, args, below, meth, c⟩ := X
  intro H locs ls hP hS hl
  exact lv_i2l hC.1.1 hC.1.2.1 hdg rfl (k H locs ls hP hS hl)
theorem zt_i2b (hC : CX X G y cc nL ret rm) {x : Int32} (hdg : decode cc pc = .ok (.i2b, 1)) (k : TW X G nL Q cs ss M (pc + 1) lv (.int (x.toInt8.toInt32) :: st)) : TW X G nL Q cs ss M pc lv (.int x :: st) := by
  obtain ⟨p, l, e, R, s, m, args, below, meth, c⟩ := X
  intro H locs ls hP hS hl
  exact lv_i2b hC.1.1 hC.1.2.1 hdg rfl (k H locs ls hP hS hl)
theorem zt_i2s (hC : CX X G y cc nL ret rm) {x : Int32} (hdg : decode cc pc = .ok (.i2s, 1)) (k : TW X G nL Q cs ss M (pc + 1) lv (.int (x.toInt16.toInt32) :: st)) : TW X G nL Q cs ss M pc lv (.int x :: st) := by
  obtain ⟨p, l, e, R, s, m, args, below, meth, c⟩ := X
  intro H locs ls hP hS hl
  exact lv_i2s hC.1.1 hC.1.2.1 hdg rfl (k H locs ls hP hS hl)
theorem zt_l2i (hC : CX X G y cc nL ret rm) {x : Int64} (hdg : decode cc pc = .ok (.l2i, 1)) (k : TW X G nL Q cs ss M (pc + 1) lv (.int (x.toInt32) :: st)) : TW X G nL Q cs ss M pc lv (.long x :: st) := by
  obtain ⟨p, l, e, R, s, m, args, below, meth, c⟩ := X
  intro H locs ls hP hS hl
  exact lv_l2i hC.1.1 hC.1.2.1 hdg rfl (k H locs ls hP hS hl)
theorem zt_lcmp (hC : CX X G y cc nL ret rm) {x y : Int64} (hdg : decode cc pc = .ok (.lcmp, 1)) (k : TW X G nL Q cs ss M (pc + 1) lv (.int (lg_cmp x y) :: st)) : TW X G nL Q cs ss M pc lv (.long y :: .long x :: st) := by
  obtain ⟨p, l, e, R, s, m, args, below, meth, c⟩ := X
  intro H locs ls hP hS hl
  exact W.lcmp hC.1.1 hC.1.2.1 hdg (k H locs ls hP hS hl)
theorem zt_dup (hC : CX X G y cc nL ret rm) {va : Value} (hva : va.category = 1) (hdg : decode cc pc = .ok (.dup, 1)) (k : TW X G nL Q cs ss M (pc + 1) lv (va :: va :: st)) : TW X G nL Q cs ss M pc lv (va :: st) := by
  obtain ⟨p, l, e, R, s, m, args, below, meth, c⟩ := X
  intro H locs ls hP hS hl
  exact lv_dup hC.1.1 hC.1.2.1 hdg hva (k H locs ls hP hS hl)
theorem zt_pop (hC : CX X G y cc nL ret rm) {va : Value} (hva : va.category = 1) (hdg : decode cc pc = .ok (.pop, 1)) (k : TW X G nL Q cs ss M (pc + 1) lv st) : TW X G nL Q cs ss M pc lv (va :: st) := by
  obtain ⟨p, l, e, R, s, m, args, below, meth, c⟩ := X
  intro H locs ls hP hS hl
  exact lv_pop hC.1.1 hC.1.2.1 hdg hva (k H locs ls hP hS hl)
theorem zt_dup_x1 (hC : CX X G y cc nL ret rm) {va vb : Value} (hva : va.category = 1) (hvb : vb.category = 1) (hdg : decode cc pc = .ok (.dup_x1, 1)) (k : TW X G nL Q cs ss M (pc + 1) lv (va :: vb :: va :: st)) : TW X G nL Q cs ss M pc lv (va :: vb :: st) := by
  obtain ⟨p, l, e, R, s, m, args, below, meth, c⟩ := X
  intro H locs ls hP hS hl
  exact lv_dup_x1 hC.1.1 hC.1.2.1 hdg hva hvb (k H locs ls hP hS hl)
theorem zt_dup_x2 (hC : CX X G y cc nL ret rm) {va vb vd : Value} (hva : va.category = 1) (hvb : vb.category = 1) (hvd : vd.category = 1) (hdg : decode cc pc = .ok (.dup_x2, 1)) (k : TW X G nL Q cs ss M (pc + 1) lv (va :: vb :: vd :: va :: st)) : TW X G nL Q cs ss M pc lv (va :: vb :: vd :: st) := by
  obtain ⟨p, l, e, R, s, m, args, below, meth, c⟩ := X
  intro H locs ls hP hS hl
  exact lv_dup_x2 hC.1.1 hC.1.2.1 hdg hva hvb hvd (k H locs ls hP hS hl)
theorem zt_dup2 (hC : CX X G y cc nL ret rm) {va vb : Value} (hva : va.category = 1) (hvb : vb.category = 1) (hdg : decode cc pc = .ok (.dup2, 1)) (k : TW X G nL Q cs ss M (pc + 1) lv (va :: vb :: va :: vb :: st)) : TW X G nL Q cs ss M pc lv (va :: vb :: st) := by
  obtain ⟨p, l, e, R, s, m, args, below, meth, c⟩ := X
  intro H locs ls hP hS hl
  exact lv_dup2_11 hC.1.1 hC.1.2.1 hdg hva hvb (k H locs ls hP hS hl)
theorem zt_if_eq {ρ : Type} {A B : Option ρ} {r : ρ} (hC : CX X G y cc nL ret rm) {x : Int32} {off : Int} {tgt : Nat} (h : (if x = 0 then A else B) = some r) (ht : (pc : Int) + off = (tgt : Int)) (hdg : decode cc pc = .ok (.ifCond .eq off, 3)) (k1 : A = some r → TW X G nL Q cs ss M tgt lv st) (k2 : B = some r → TW X G nL Q cs ss M (pc + 3) lv st) : TW X G nL Q cs ss M pc lv (.int x :: st) := by
  obtain ⟨p, l, e, R, s, m, args, below, meth, c⟩ := X
  intro H locs ls hP hS hl
  exact lv_if_eq hC.1.1 hC.1.2.1 hdg ht (fun c => k1 (ite_t c h) H locs ls hP hS hl) (fun c => k2 (ite_f c h) H locs ls hP hS hl)
theorem zt_icmp_eq {ρ : Type} {A B : Option ρ} {r : ρ} (hC : CX X G y cc nL ret rm) {x y : Int32} {off : Int} {tgt : Nat} (h : (if x = y then A else B) = some r) (ht : (pc : Int) + off = (tgt : Int)) (hdg : decode cc pc = .ok (.if_icmp .eq off, 3)) (k1 : A = some r → TW X G nL Q cs ss M tgt lv st) (k2 : B = some r → TW X G nL Q cs ss M (pc + 3) lv st) : TW X G nL Q cs ss M pc lv (.int y :: .int x :: st) := by
  obtain ⟨p, l, e, R, s, m, args, below, meth, c⟩ := X
  intro H locs ls hP hS hl
  exact lv_icmp_eq hC.1.1 hC.1.2.1 hdg ht (fun c => k1 (ite_t c h) H locs ls hP hS hl) (fun c => k2 (ite_f c h) H locs ls hP hS hl)
theorem zt_if_ne {ρ : Type} {A B : Option ρ} {r : ρ} (hC : CX X G y cc nL ret rm) {x : Int32} {off : Int} {tgt : Nat} (h : (if x = 0 then A else B) = some r) (ht : (pc : Int) + off = (tgt : Int)) (hdg : decode cc pc = .ok (.ifCond .ne off, 3)) (k1 : B = some r → TW X G nL Q cs ss M tgt lv st) (k2 : A = some r → TW X G nL Q cs ss M (pc + 3) lv st) : TW X G nL Q cs ss M pc lv (.int x :: st) := by
  obtain ⟨p, l, e, R, s, m, args, below, meth, c⟩ := X
  intro H locs ls hP hS hl
  exact lv_if_ne hC.1.1 hC.1.2.1 hdg ht (fun c => k1 (ite_f c h) H locs ls hP hS hl) (fun c => k2 (ite_t c h) H locs ls hP hS hl)
theorem zt_icmp_ne {ρ : Type} {A B : Option ρ} {r : ρ} (hC : CX X G y cc nL ret rm) {x y : Int32} {off : Int} {tgt : Nat} (h : (if x = y then A else B) = some r) (ht : (pc : Int) + off = (tgt : Int)) (hdg : decode cc pc = .ok (.if_icmp .ne off, 3)) (k1 : B = some r → TW X G nL Q cs ss M tgt lv st) (k2 : A = some r → TW X G nL Q cs ss M (pc + 3) lv st) : TW X G nL Q cs ss M pc lv (.int y :: .int x :: st) := by
  obtain ⟨p, l, e, R, s, m, args, below, meth, c⟩ := X
  intro H locs ls hP hS hl
  exact lv_icmp_ne hC.1.1 hC.1.2.1 hdg ht (fun c => k1 (ite_f c h) H locs ls hP hS hl) (fun c => k2 (ite_t c h) H locs ls hP hS hl)
theorem zt_if_lt {ρ : Type} {A B : Option ρ} {r : ρ} (hC : CX X G y cc nL ret rm) {x : Int32} {off : Int} {tgt : Nat} (h : (if x < 0 then A else B) = some r) (ht : (pc : Int) + off = (tgt : Int)) (hdg : decode cc pc = .ok (.ifCond .lt off, 3)) (k1 : A = some r → TW X G nL Q cs ss M tgt lv st) (k2 : B = some r → TW X G nL Q cs ss M (pc + 3) lv st) : TW X G nL Q cs ss M pc lv (.int x :: st) := by
  obtain ⟨p, l, e, R, s, m, args, below, meth, c⟩ := X
  intro H locs ls hP hS hl
  exact lv_if_lt hC.1.1 hC.1.2.1 hdg ht (fun c => k1 (ite_t c h) H locs ls hP hS hl) (fun c => k2 (ite_f c h) H locs ls hP hS hl)
theorem zt_icmp_lt {ρ : Type} {A B : Option ρ} {r : ρ} (hC : CX X G y cc nL ret rm) {x y : Int32} {off : Int} {tgt : Nat} (h : (if x < y then A else B) = some r) (ht : (pc : Int) + off = (tgt : Int)) (hdg : decode cc pc = .ok (.if_icmp .lt off, 3)) (k1 : A = some r → TW X G nL Q cs ss M tgt lv st) (k2 : B = some r → TW X G nL Q cs ss M (pc + 3) lv st) : TW X G nL Q cs ss M pc lv (.int y :: .int x :: st) := by
  obtain ⟨p, l, e, R, s, m, args, below, meth, c⟩ := X
  intro H locs ls hP hS hl
  exact lv_icmp_lt hC.1.1 hC.1.2.1 hdg ht (fun c => k1 (ite_t c h) H locs ls hP hS hl) (fun c => k2 (ite_f c h) H locs ls hP hS hl)
theorem zt_if_ge {ρ : Type} {A B : Option ρ} {r : ρ} (hC : CX X G y cc nL ret rm) {x : Int32} {off : Int} {tgt : Nat} (h : (if 0 ≤ x then A else B) = some r) (ht : (pc : Int) + off = (tgt : Int)) (hdg : decode cc pc = .ok (.ifCond .ge off, 3)) (k1 : A = some r → TW X G nL Q cs ss M tgt lv st) (k2 : B = some r → TW X G nL Q cs ss M (pc + 3) lv st) : TW X G nL Q cs ss M pc lv (.int x :: st) := by
  obtain ⟨p, l, e, R, s, m, args, below, meth, c⟩ := X
  intro H locs ls hP hS hl
  exact lv_if_ge hC.1.1 hC.1.2.1 hdg ht (fun c => k1 (ite_t c h) H locs ls hP hS hl) (fun c => k2 (ite_f c h) H locs ls hP hS hl)
theorem zt_icmp_ge {ρ : Type} {A B : Option ρ} {r : ρ} (hC : CX X G y cc nL ret rm) {x y : Int32} {off : Int} {tgt : Nat} (h : (if y ≤ x then A else B) = some r) (ht : (pc : Int) + off = (tgt : Int)) (hdg : decode cc pc = .ok (.if_icmp .ge off, 3)) (k1 : A = some r → TW X G nL Q cs ss M tgt lv st) (k2 : B = some r → TW X G nL Q cs ss M (pc + 3) lv st) : TW X G nL Q cs ss M pc lv (.int y :: .int x :: st) := by
  obtain ⟨p, l, e, R, s, m, args, below, meth, c⟩ := X
  intro H locs ls hP hS hl
  exact lv_icmp_ge hC.1.1 hC.1.2.1 hdg ht (fun c => k1 (ite_t c h) H locs ls hP hS hl) (fun c => k2 (ite_f c h) H locs ls hP hS hl)
theorem zt_if_gt {ρ : Type} {A B : Option ρ} {r : ρ} (hC : CX X G y cc nL ret rm) {x : Int32} {off : Int} {tgt : Nat} (h : (if 0 < x then A else B) = some r) (ht : (pc : Int) + off = (tgt : Int)) (hdg : decode cc pc = .ok (.ifCond .gt off, 3)) (k1 : A = some r → TW X G nL Q cs ss M tgt lv st) (k2 : B = some r → TW X G nL Q cs ss M (pc + 3) lv st) : TW X G nL Q cs ss M pc lv (.int x :: st) := by
  obtain ⟨p, l, e, R, s, m, args, below, meth, c⟩ := X
  intro H locs ls hP hS hl
  exact lv_if_gt hC.1.1 hC.1.2.1 hdg ht (fun c => k1 (ite_t c h) H locs ls hP hS hl) (fun c => k2 (ite_f c h) H locs ls hP hS hl)
theorem zt_icmp_gt {ρ : Type} {A B : Option ρ} {r : ρ} (hC : CX X G y cc nL ret rm) {x y : Int32} {off : Int} {tgt : Nat} (h : (if y < x then A else B) = some r) (ht : (pc : Int) + off = (tgt : Int)) (hdg : decode cc pc = .ok (.if_icmp .gt off, 3)) (k1 : A = some r → TW X G nL Q cs ss M tgt lv st) (k2 : B = some r → TW X G nL Q cs ss M (pc + 3) lv st) : TW X G nL Q cs ss M pc lv (.int y :: .int x :: st) := by
  obtain ⟨p, l, e, R, s, m, args, below, meth, c⟩ := X
  intro H locs ls hP hS hl
  exact lv_icmp_gt hC.1.1 hC.1.2.1 hdg ht (fun c => k1 (ite_t c h) H locs ls hP hS hl) (fun c => k2 (ite_f c h) H locs ls hP hS hl)
theorem zt_if_le {ρ : Type} {A B : Option ρ} {r : ρ} (hC : CX X G y cc nL ret rm) {x : Int32} {off : Int} {tgt : Nat} (h : (if x ≤ 0 then A else B) = some r) (ht : (pc : Int) + off = (tgt : Int)) (hdg : decode cc pc = .ok (.ifCond .le off, 3)) (k1 : A = some r → TW X G nL Q cs ss M tgt lv st) (k2 : B = some r → TW X G nL Q cs ss M (pc + 3) lv st) : TW X G nL Q cs ss M pc lv (.int x :: st) := by
  obtain ⟨p, l, e, R, s, m, args, below, meth, c⟩ := X
  intro H locs ls hP hS hl
  exact lv_if_le hC.1.1 hC.1.2.1 hdg ht (fun c => k1 (ite_t c h) H locs ls hP hS hl) (fun c => k2 (ite_f c h) H locs ls hP hS hl)
theorem zt_icmp_le {ρ : Type} {A B : Option ρ} {r : ρ} (hC : CX X G y cc nL ret rm) {x y : Int32} {off : Int} {tgt : Nat} (h : (if x ≤ y then A else B) = some r) (ht : (pc : Int) + off = (tgt : Int)) (hdg : decode cc pc = .ok (.if_icmp .le off, 3)) (k1 : A = some r → TW X G nL Q cs ss M tgt lv st) (k2 : B = some r → TW X G nL Q cs ss M (pc + 3) lv st) : TW X G nL Q cs ss M pc lv (.int y :: .int x :: st) := by
  obtain ⟨p, l, e, R, s, m, args, below, meth, c⟩ := X
  intro H locs ls hP hS hl
  exact lv_icmp_le hC.1.1 hC.1.2.1 hdg ht (fun c => k1 (ite_t c h) H locs ls hP hS hl) (fun c => k2 (ite_f c h) H locs ls hP hS hl)
theorem zt_goto (hC : CX X G y cc nL ret rm) {off : Int} {tgt : Nat} (ht : (pc : Int) + off = (tgt : Int)) (hdg : decode cc pc = .ok (.goto off, 3)) (k : TW X G nL Q cs ss M tgt lv st) : TW X G nL Q cs ss M pc lv st := by
  obtain ⟨p, l, e, R, s, m, args, below, meth, c⟩ := X
  intro H locs ls hP hS hl
  exact lv_goto hC.1.1 hC.1.2.1 hdg ht (k H locs ls hP hS hl)
theorem zt_ifnull (hC : CX X G y cc nL ret rm) {x : Nat} {off : Int} (hdg : decode cc pc = .ok (.ifnull off, 3)) (k : TW X G nL Q cs ss M (pc + 3) lv st) : TW X G nL Q cs ss M pc lv (.ref x :: st) := by
  obtain ⟨p, l, e, R, s, m, args, below, meth, c⟩ := X
  intro H locs ls hP hS hl
  exact lv_ifnull hC.1.1 hC.1.2.1 hdg (k H locs ls hP hS hl)
theorem zt_ifnullN (hC : CX X G y cc nL ret rm) {off : Int} {tgt : Nat} (ht : (pc : Int) + off = (tgt : Int)) (hdg : decode cc pc = .ok (.ifnull off, 3)) (k : TW X G nL Q cs ss M tgt lv st) : TW X G nL Q cs ss M pc lv (.null :: st) := by
  obtain ⟨p, l, e, R, s, m, args, below, meth, c⟩ := X
  intro H locs ls hP hS hl
  exact lv_ifnullN hC.1.1 hC.1.2.1 hdg ht (k H locs ls hP hS hl)
theorem zt_ifnonnull (hC : CX X G y cc nL ret rm) {x : Nat} {off : Int} {tgt : Nat} (ht : (pc : Int) + off = (tgt : Int)) (hdg : decode cc pc = .ok (.ifnonnull off, 3)) (k : TW X G nL Q cs ss M tgt lv st) : TW X G nL Q cs ss M pc lv (.ref x :: st) := by
  obtain ⟨p, l, e, R, s, m, args, below, meth, c⟩ := X
  intro H locs ls hP hS hl
  exact lv_ifnonnull hC.1.1 hC.1.2.1 hdg ht (k H locs ls hP hS hl)
theorem zt_ifnonnullN (hC : CX X G y cc nL ret rm) {off : Int} (hdg : decode cc pc = .ok (.ifnonnull off, 3)) (k : TW X G nL Q cs ss M (pc + 3) lv st) : TW X G nL Q cs ss M pc lv (.null :: st) := by
  obtain ⟨p, l, e, R, s, m, args, below, meth, c⟩ := X
  intro H locs ls hP hS hl
  exact lv_ifnonnullN hC.1.1 hC.1.2.1 hdg (k H locs ls hP hS hl)
theorem zt_sub (lv' : List (Nat × Value)) (hsub : ∀ q ∈ lv', q ∈ lv) (k : TW X G nL Q cs ss M pc lv' st) : TW X G nL Q cs ss M pc lv st := by
  obtain ⟨p, l, e, R, s, m, args, below, meth, c⟩ := X
  intro H locs ls hP hS hl
  exact k H locs ls hP hS ⟨hl.1, hl.2.1, fun q hq => hl.2.2 q (hsub q hq)⟩
/-- fewer locals: by their keys -/
theorem zt_keep (ks : List Nat) {lv' : List (Nat × Value)} (hk : ks.filterMap (fun k => (lvg lv k).map (fun v => (k, v))) = lv') (k : TW X G nL Q cs ss M pc lv' st) : TW X G nL Q cs ss M pc lv st := by
  refine zt_sub lv' (fun q hq => ?_) k
  rw [← hk] at hq
  obtain ⟨j, -, hj⟩ := List.mem_filterMap.mp hq
  cases hg : lvg lv j with
  | none => rw [hg] at hj; cases hj
  | some v => rw [hg] at hj; cases hj; exact lvg_mem hg
theorem zt_widen {cs' ss' : Nat} (h1 : cs ≤ cs') (h2 : ss ≤ ss') (k : TW X G nL Q cs' ss' M pc lv st) : TW X G nL Q cs ss M pc lv st := by
  obtain ⟨p, l, e, R, s, m, args, below, meth, c⟩ := X
  intro H locs ls hP hS hl
  exact W.widen h1 h2 (k H locs ls hP hS hl)
theorem sw_ne {x k : Int32} {j : Int} (h : ¬ x = k) (hk : k.toInt = j) : ¬ x.toInt = j := fun e => h (Int32.toInt_inj.mp (e.trans hk.symm))
theorem ite_or {ρ : Type} {c : Prop} [Decidable c] {A B : Option ρ} {r : ρ} (h : (if c then A else B) = some r) : (c ∧ A = some r) ∨ (¬ c ∧ B = some r) := by
  split at h
  · exact Or.inl ⟨by assumption, h⟩
  · exact Or.inr ⟨by assumption, h⟩
theorem zt_tsIn (hC : CX X G y cc nL ret rm) {dflt lo hi : Int} {offs : Array Int} {len : Nat} {x j : Int32} {off : Int} {tgt : Nat} (e : x = j) (h1 : ¬ j.toInt < lo) (h2 : ¬ hi < j.toInt) (ho : offs[(j.toInt - lo).toNat]? = some off) (ht : (pc : Int) + off = (tgt : Int)) (hdg : decode cc pc = .ok (.tableswitch dflt lo hi offs, len)) (k : TW X G nL Q cs ss M tgt lv st) : TW X G nL Q cs ss M pc lv (.int x :: st) := by
  subst e
  obtain ⟨p, l, e, R, s, m, args, below, meth, c⟩ := X
  intro H locs ls hP hS hl
  exact lv_tableIn hC.1.1 hC.1.2.1 hdg h1 h2 ho ht (k H locs ls hP hS hl)
theorem zt_tsOut (hC : CX X G y cc nL ret rm) {dflt lo hi : Int} {offs : Array Int} {len : Nat} {x : Int32} {tgt : Nat} (h1 : x.toInt < lo ∨ hi < x.toInt) (ht : (pc : Int) + dflt = (tgt : Int)) (hdg : decode cc pc = .ok (.tableswitch dflt lo hi offs, len)) (k : TW X G nL Q cs ss M tgt lv st) : TW X G nL Q cs ss M pc lv (.int x :: st) := by
  obtain ⟨p, l, e, R, s, m, args, below, meth, c⟩ := X
  intro H locs ls hP hS hl
  exact lv_tableOut hC.1.1 hC.1.2.1 hdg h1 ht (k H locs ls hP hS hl)
theorem zt_lsw (hC : CX X G y cc nL ret rm) {dflt : Int} {ps : Array (Int × Int)} {len : Nat} {x : Int32} {off : Int} {tgt : Nat} (hp : (ps.toList.zip (ps.toList.drop 1)).all (fun (a, next) => a.1 < next.1) = true) (ho : Op.lookupswitch.offset ps.toList dflt x.toInt = off) (ht : (pc : Int) + off = (tgt : Int)) (hdg : decode cc pc = .ok (.lookupswitch dflt ps, len)) (k : TW X G nL Q cs ss M tgt lv st) : TW X G nL Q cs ss M pc lv (.int x :: st) := by
  obtain ⟨p, l, e, R, s, m, args, below, meth, c⟩ := X
  intro H locs ls hP hS hl
  exact lv_lookup hC.1.1 hC.1.2.1 hdg hp ho ht (k H locs ls hP hS hl)
-- returns
theorem zt_iret (hC : CX X G y cc nL ret rm) {v : Int32} {M' : Mm} (hr : ret = some .int) (hM : M = M') (h1 : cs ≤ rm.cells) (h2 : ss ≤ rm.slots) (hdg : decode cc pc = .ok (.ireturn, 1)) : TW X G nL (RQ X G (some (.int v)) M' rm) cs ss M pc lv [.int v] := by
  subst hM
  obtain ⟨p, l, e, R, s, m, args, below, meth, c⟩ := X
  intro H locs ls hP hS hl
  refine W.widen h1 h2 ?_
  exact W.iret (v := v) hC.1.1 hC.1.2.1 (by rw [← hr]; exact hC.2.2.2.1) (fun t ht hW => ⟨rfl, by rw [ht]; exact hP, hS.F ht⟩) hS.2.2 hdg hC.2.2.2.2.1
theorem zt_zret (hC : CX X G y cc nL ret rm) {v : Int32} {M' : Mm} (hr : ret = some .boolean) (hM : M = M') (hv : v = 0 ∨ v = 1) (h1 : cs ≤ rm.cells) (h2 : ss ≤ rm.slots) (hdg : decode cc pc = .ok (.ireturn, 1)) : TW X G nL (RQ X G (some (.int v)) M' rm) cs ss M pc lv [.int v] := by
  subst hM
  obtain ⟨p, l, e, R, s, m, args, below, meth, c⟩ := X
  intro H locs ls hP hS hl
  refine W.widen h1 h2 ?_
  exact W.zret (v := v) hC.1.1 hC.1.2.1 (ty := .boolean) (by rw [← hr]; exact hC.2.2.2.1) (by rcases hv with rfl | rfl <;> rfl) (fun t ht hW => ⟨rfl, by rw [ht]; exact hP, hS.F ht⟩) hS.2.2 hdg hC.2.2.2.2.1
theorem zt_lret (hC : CX X G y cc nL ret rm) {v : Int64} {M' : Mm} (hr : ret = some .long) (hM : M = M') (h1 : cs ≤ rm.cells) (h2 : ss ≤ rm.slots) (hdg : decode cc pc = .ok (.lreturn, 1)) : TW X G nL (RQ X G (some (.long v)) M' rm) cs ss M pc lv [.long v] := by
  subst hM
  obtain ⟨p, l, e, R, s, m, args, below, meth, c⟩ := X
  intro H locs ls hP hS hl
  refine W.widen h1 h2 ?_
  exact W.lret (v := v) hC.1.1 hC.1.2.1 (by rw [← hr]; exact hC.2.2.2.1) (fun t ht hW => ⟨rfl, by rw [ht]; exact hP, hS.F ht⟩) hS.2.2 hdg hC.2.2.2.2.1
theorem zt_vret (hC : CX X G y cc nL ret rm) {M' : Mm} (hr : ret = none) (hM : M = M') (h1 : cs ≤ rm.cells) (h2 : ss ≤ rm.slots) (hdg : decode cc pc = .ok (.return_, 1)) : TW X G nL (RQ X G none M' rm) cs ss M pc lv [] := by
  subst hM
  obtain ⟨p, l, e, R, s, m, args, below, meth, c⟩ := X
  intro H locs ls hP hS hl
  refine W.widen h1 h2 ?_
  exact W.vret hC.1.1 hC.1.2.1 (by rw [← hr]; exact hC.2.2.2.1) (fun t ht hW => ⟨rfl, by rw [ht]; exact hP, hS.F ht⟩) hS.2.2 hdg hC.2.2.2.2.1
theorem zt_aret (hC : CX X G y cc nL ret rm) {v : Option Nat} {w : Value} {M' : Mm} {C : String} (hw : w = va_rf v) (hr : ret = some (.object C)) (hM : M = M') (h1 : cs ≤ rm.cells) (h2 : ss ≤ rm.slots) (hdg : decode cc pc = .ok (.areturn, 1)) : TW X G nL (RQ X G (some (va_rf v)) M' rm) cs ss M pc lv [w] := by
  subst hM
  subst hw
  obtain ⟨p, l, e, R, s, m, args, below, meth, c⟩ := X
  intro H locs ls hP hS hl
  refine W.widen h1 h2 ?_
  exact W.aret (v := va_rf v) (rt := .object C) hC.1.1 hC.1.2.1 (by rw [← hr]; exact hC.2.2.2.1) (Or.inl ⟨_, rfl⟩) (by cases v; exact Or.inl rfl; exact Or.inr ⟨_, rfl⟩) (fun t ht hW => ⟨rfl, by rw [ht]; exact hP, hS.F ht⟩) hS.2.2 hdg hC.2.2.2.2.1
-- fields
theorem cl_ok : ∀ {ci : Nat} {C : String} {T : u_T} {N : Nat}, vwCl[ci]? = some (C, T, N) → (∀ k, k < N → parseFieldDescriptor (T k).2.2.1 = some (clty ci k)) ∧ (∀ a, a < N → ∀ b, b < N → a ≠ b → (T a).2.1 ≠ (T b).2.1) := by
  intro ci C T N h
  match ci, h with
  | 0, h => cases h; exact ⟨tyX0_ok, nmX0⟩
  | 1, h => cases h; exact ⟨tyX1_ok, nmX1⟩
  | 2, h => cases h; exact ⟨tyX2_ok, nmX2⟩
  | 3, h => cases h; exact ⟨tyX3_ok, nmX3⟩
  | 4, h => cases h; exact ⟨tyX4_ok, nmX4⟩
  | 5, h => cases h; exact ⟨tyX5_ok, nmX5⟩
  | 6, h => cases h; exact ⟨tyX6_ok, nmX6⟩
  | 7, h => cases h; exact ⟨tyX7_ok, nmX7⟩
  | 8, h => cases h; exact ⟨tyX8_ok, nmX8⟩
  | 9, h => cases h; exact ⟨tyX9_ok, nmX9⟩
  | 10, h => cases h; exact ⟨tyX10_ok, nmX10⟩
  | 11, h => cases h; exact ⟨tyX11_ok, nmX11⟩
  | 12, h => cases h; exact ⟨tyX12_ok, nmX12⟩
  | n + 13, h => simp at h
theorem cl_in : ∀ {ci : Nat} {C : String} {T : u_T} {N : Nat}, vwCl[ci]? = some (C, T, N) → ∀ w ∈ u_ws C T N, w ∈ TS := by
  intro ci C T N h
  match ci, h with
  | 0, h => cases h; exact inTS0
  | 1, h => cases h; exact inTS1
  | 2, h => cases h; exact inTS2
  | 3, h => cases h; exact inTS3
  | 4, h => cases h; exact inTS4
  | 5, h => cases h; exact inTS5
  | 6, h => cases h; exact inTS6
  | 7, h => cases h; exact inTS7
  | 8, h => cases h; exact inTS8
  | 9, h => cases h; exact inTS9
  | 10, h => cases h; exact inTS10
  | 11, h => cases h; exact inTS11
  | 12, h => cases h; exact inTS12
  | n + 13, h => simp at h
theorem zt_get (hC : CX X G y cc nL ret rm) {ci : Nat} {C : String} {T : u_T} {N k idx : Nat} {ref : String} {a : Nat} (ht : (M.1 a).1 = ci + 4) (hc : vwCl[ci]? = some (C, T, N)) (hk : k < N) (hlink : Cond.fieldLink y.cls idx ref (T k).2.1 (T k).2.2.1 ∈ TS) (hsame : (T k).1 = ref ∨ Cond.sameField ref (T k).1 (T k).2.1 (T k).2.2.1 ∈ TS) (hdg : decode cc pc = .ok (.getfield idx, 3))
    (kk : TW X G nL Q cs ss M (pc + 3) lv (fv M ci a k :: st)) : TW X G nL Q cs ss M pc lv (.ref a :: st) := by
  obtain ⟨p, l, e, R, s, m, args, below, meth, c⟩ := X
  intro H locs ls hP hS hl
  obtain ⟨⟨hx, hb, hml, hown, hts⟩, ⟨hK, -, -⟩, hR, hret, hlk, hbs, hnm⟩ := hC
  obtain ⟨hba, r, h1, cell, q1, q2, q3, q4⟩ := Cel_obj (hP.2.2 a) ht
  have hr : r = (C, T, N) := Option.some.inj (h1.symm.trans hc)
  subst hr
  obtain ⟨hSl, hfc, kC, hkC, hkind⟩ := hK.1 ci _ hc
  obtain ⟨cf, kf, fi, f, hi, hsl⟩ := hSl k hk
  have hs2 : s.fieldFound? ref (T k).2.1 (T k).2.2.1 = some (cf, kf, fi, f) := by
    rcases hsame with e | e
    · rw [← e]; exact hi
    · exact u_same (hts _ e) _ hi
  refine W.getf hx hb hown (hts _ hlink) hs2 (u_facts hfc hkC (u_lays hts (cl_in hc) hk) hi).1 q1 (by rw [q3]; exact fun h => by cases h) (v := fv M ci a k) ?_ rfl rfl hdg (kk H locs ls hP hS hl)
  rw [hsl, q4 k hk]
theorem zt_gI {ρ : Type} {κ : Int32 → Option ρ} {r : ρ} (hC : CX X G y cc nL ret rm) {ci : Nat} {C : String} {T : u_T} {N k idx : Nat} {ref : String} {a : Nat} (h : gI ci M a k κ = some r) (hc : vwCl[ci]? = some (C, T, N)) (hk : k < N) (hrf : isRf (clty ci k) = false) (hlink : Cond.fieldLink y.cls idx ref (T k).2.1 (T k).2.2.1 ∈ TS) (hsame : (T k).1 = ref ∨ Cond.sameField ref (T k).1 (T k).2.1 (T k).2.2.1 ∈ TS) (hdg : decode cc pc = .ok (.getfield idx, 3))
    (kk : ∀ v : Int32, κ v = some r → TW X G nL Q cs ss M (pc + 3) lv (.int v :: st)) : TW X G nL Q cs ss M pc lv (.ref a :: st) := by
  unfold gI at h
  split at h
  · rename_i ht
    refine zt_get hC ht hc hk hlink hsame hdg ?_
    rw [show fv M ci a k = .int (M.2.1 a k) by simp [fv, hrf]]
    exact kk _ h
  · cases h
theorem zt_gR {ρ : Type} {κ : Nat → Option ρ} {r : ρ} (hC : CX X G y cc nL ret rm) {ci : Nat} {C : String} {T : u_T} {N k idx : Nat} {ref : String} {a : Nat} (h : gR ci M a k κ = some r) (hc : vwCl[ci]? = some (C, T, N)) (hk : k < N) (hrf : isRf (clty ci k) = true) (hlink : Cond.fieldLink y.cls idx ref (T k).2.1 (T k).2.2.1 ∈ TS) (hsame : (T k).1 = ref ∨ Cond.sameField ref (T k).1 (T k).2.1 (T k).2.2.1 ∈ TS) (hdg : decode cc pc = .ok (.getfield idx, 3))
    (kk : ∀ v : Nat, κ v = some r → TW X G nL Q cs ss M (pc + 3) lv (.ref v :: st)) : TW X G nL Q cs ss M pc lv (.ref a :: st) := by
  unfold gR at h
  split at h
  · rename_i ht
    obtain ⟨v, hv, h⟩ := opt_some h
    refine zt_get hC ht hc hk hlink hsame hdg ?_
    rw [show fv M ci a k = .ref v by simp [fv, hrf, hv, va_rf]]
    exact kk _ h
  · cases h
theorem zt_gN {ρ : Type} {κ0 : Option ρ} {κ : Nat → Option ρ} {r : ρ} (hC : CX X G y cc nL ret rm) {ci : Nat} {C : String} {T : u_T} {N k idx : Nat} {ref : String} {a : Nat} (h : gN ci M a k κ0 κ = some r) (hc : vwCl[ci]? = some (C, T, N)) (hk : k < N) (hrf : isRf (clty ci k) = true) (hlink : Cond.fieldLink y.cls idx ref (T k).2.1 (T k).2.2.1 ∈ TS) (hsame : (T k).1 = ref ∨ Cond.sameField ref (T k).1 (T k).2.1 (T k).2.2.1 ∈ TS) (hdg : decode cc pc = .ok (.getfield idx, 3))
    (k0 : κ0 = some r → TW X G nL Q cs ss M (pc + 3) lv (.null :: st)) (kk : ∀ v : Nat, κ v = some r → TW X G nL Q cs ss M (pc + 3) lv (.ref v :: st)) : TW X G nL Q cs ss M pc lv (.ref a :: st) := by
  unfold gN at h
  split at h
  · rename_i ht
    refine zt_get hC ht hc hk hlink hsame hdg ?_
    cases hv : M.2.2.2.1 a k with
    | none =>
      rw [hv] at h
      rw [show fv M ci a k = .null by simp [fv, hrf, hv, va_rf]]
      exact k0 h
    | some v =>
      rw [hv] at h
      rw [show fv M ci a k = .ref v by simp [fv, hrf, hv, va_rf]]
      exact kk _ h
  · cases h
theorem rule_cl {t : Nat} (h : isRule t = true) : ∃ (ci : Nat) (C : String) (T : u_T), t = ci + 4 ∧ vwCl[ci]? = some (C, T, 1) ∧ T 0 = ("FerryBells$Rule", "figure", "I", true) ∧ isRf (clty ci 0) = false ∧ clty ci 0 = .int := by
  simp only [isRule, Bool.or_eq_true, beq_iff_eq] at h
  rcases h with (((((rfl | rfl) | rfl) | rfl) | rfl) | rfl) | rfl
  · exact ⟨0, _, _, rfl, rfl, rfl, rfl, rfl⟩
  · exact ⟨2, _, _, rfl, rfl, rfl, rfl, rfl⟩
  · exact ⟨3, _, _, rfl, rfl, rfl, rfl, rfl⟩
  · exact ⟨4, _, _, rfl, rfl, rfl, rfl, rfl⟩
  · exact ⟨6, _, _, rfl, rfl, rfl, rfl, rfl⟩
  · exact ⟨8, _, _, rfl, rfl, rfl, rfl, rfl⟩
  · exact ⟨9, _, _, rfl, rfl, rfl, rfl, rfl⟩
theorem zt_gF {ρ : Type} {κ : Int32 → Option ρ} {r : ρ} (hC : CX X G y cc nL ret rm) {idx : Nat} {ref : String} {a : Nat} (h : gF M a κ = some r) (hlink : Cond.fieldLink y.cls idx ref "figure" "I" ∈ TS) (hsame : "FerryBells$Rule" = ref ∨ Cond.sameField ref "FerryBells$Rule" "figure" "I" ∈ TS) (hdg : decode cc pc = .ok (.getfield idx, 3))
    (kk : ∀ v : Int32, κ v = some r → TW X G nL Q cs ss M (pc + 3) lv (.int v :: st)) : TW X G nL Q cs ss M pc lv (.ref a :: st) := by
  unfold gF at h
  split at h
  · rename_i ht
    obtain ⟨ci, C, T, e1, e2, e3, e4, e5⟩ := rule_cl ht
    refine zt_get hC e1 e2 (k := 0) (by decide) (by rw [e3]; exact hlink) (by rw [e3]; exact hsame) hdg ?_
    rw [show fv M ci a 0 = .int (M.2.1 a 0) by simp [fv, e4]]
    exact kk _ h
  · cases h
theorem RP_at {G : Gl} {H : Heap} (hP : RP G M H) {a : Nat} (ht : (M.1 a).1 ≠ 0) : G.1 ≤ a := by
  have h := hP.2.2 a
  unfold Cel at h
  split at h <;> rename_i hq
  · exact absurd hq ht
  · exact h.1
  · exact h.1
  · exact h.1
  · exact h.1
/-- an object's cell after a store -/
theorem Cel_put {G : Gl} {H1 : Heap} {ci a k : Nat} {v : Value} {M' : Mm} (ht : (M.1 a).1 = ci + 4) (hM : M'.1 = M.1) {C : String} {T : u_T} {N : Nat} (hc : vwCl[ci]? = some (C, T, N)) (hba : G.1 ≤ a) (hob : t_OB a (G.2.1.1 ci) N (G.2.1.2 ci) H1 (updV (fv M ci a) k v)) (hf : ∀ j, j < N → updV (fv M ci a) k v j = fv M' ci a j) : Cel G M' a H1 := by
  unfold Cel
  rw [hM, ht]
  exact ⟨hba, (C, T, N), hc, hob.to hf⟩
theorem zt_putV (hC : CX X G y cc nL ret rm) {ci : Nat} {C : String} {T : u_T} {N k idx : Nat} {ref : String} {a : Nat} {v : Value} {M' : Mm} (ht : (M.1 a).1 = ci + 4) (hc : vwCl[ci]? = some (C, T, N)) (hk : k < N) (hlink : Cond.fieldLink y.cls idx ref (T k).2.1 (T k).2.2.1 ∈ TS) (hsame : (T k).1 = ref ∨ Cond.sameField ref (T k).1 (T k).2.1 (T k).2.2.1 ∈ TS)
    (hfin : (T k).2.2.2 = false ∨ ((T k).2.2.2 = true ∧ y.name = "<init>" ∧ (T k).1 = y.cls)) (hn : narrow (clty ci k) v = v) (hft : fits (clty ci k) v = true) (hM1 : M'.1 = M.1) (hM5 : nx M' = nx M) (hMo : ∀ b, b ≠ a → M'.2.1 b = M.2.1 b ∧ M'.2.2.1 b = M.2.2.1 b ∧ M'.2.2.2.1 b = M.2.2.2.1 b) (hMa : ∀ j, j < N → updV (fv M ci a) k v j = fv M' ci a j)
    (hdg : decode cc pc = .ok (.putfield idx, 3)) (kk : TW X G nL Q cs ss M' (pc + 3) lv st) : TW X G nL Q cs ss M pc lv (v :: .ref a :: st) := by
  obtain ⟨p, l, e, R, s, m, args, below, meth, c⟩ := X
  intro H locs ls hP hS hl
  obtain ⟨⟨hx, hb, hml, hown, hts⟩, ⟨hK, -, -⟩, hR, hret, hlk, hbs, hnm, -⟩ := hC
  obtain ⟨hba, r, h1, cell, q1, q2, q3, q4⟩ := Cel_obj (hP.2.2 a) ht
  have hr : r = (C, T, N) := Option.some.inj (h1.symm.trans hc)
  subst hr
  have hin := cl_in hc
  obtain ⟨hty, hne⟩ := cl_ok hc
  have hap := va_apart (own := y.cls) hts hin (clty ci) hty hne hK hc
  obtain ⟨hSl, hfc, kC, hkC, hkind⟩ := hK.1 ci _ hc
  obtain ⟨cf, kf, fi, f, hi, hsl⟩ := hSl k hk
  have hs2 : s.fieldFound? ref (T k).2.1 (T k).2.2.1 = some (cf, kf, fi, f) := by
    rcases hsame with e | e
    · rw [← e]; exact hi
    · exact u_same (hts _ e) _ hi
  have hst := (u_facts hfc hkC (u_lays hts hin hk) hi).1
  have end_ : ∀ H' : Heap, H'[a]? = some (cell.setSlot f.slot v) → H'.size = H.size → (∀ q, q ≠ a → H'[q]? = H[q]?) → W p l e R s m args below meth c H' (locs ++ [⟨a, f.slot⟩]) cs ss Q { F0 m pc ls (v :: .ref a :: st) with pc := pc + 3, stack := st } := by
    intro H' e1 e2 e3
    refine kk H' _ ls ⟨by rw [e2, hP.1, hM5], by rw [hM5]; exact hP.2.1, fun b => ?_⟩ (hS.put e2 e3 hba) hl
    by_cases hb2 : b = a
    · subst hb2
      rw [hsl] at e1
      exact Cel_put ht hM1 hc hba ⟨_, e1, q2, q3, t_set q4 hap hk v⟩ hMa
    · obtain ⟨w1, w2, w3⟩ := hMo b hb2
      exact Cel_kept (hP.2.2 b) (by rw [hM1]) w1 w2 w3 (e3 b hb2)
  have hlay := hts _ (hin _ (u_in_lay hk))
  unfold u_lay at hlay
  rcases hfin with hfin | ⟨hfin, hini, hdecl⟩
  · rw [if_neg (by rw [hfin]; decide)] at hlay
    have h6 := u_store hfc hkC hkind hlay hi (hty k hk) hn hft
    exact W.putK hx hb (f := f) ⟨hown, hts _ hlink, ⟨_, _, _, hs2⟩, hst⟩ (by rw [q2]; exact h6) q1 q3 (by rw [hsl]; exact k2_hasslot (q4 k hk)) rfl rfl hdg end_
  · rw [if_pos hfin] at hlay
    have hcf : m.cls = cf := by
      obtain ⟨_, _, c', _, _, _, -, -, hf', -, -, -, hown2, -⟩ := Cond.laysFinal_spec hlay
      have e1 : c' = cf := by have := hi.symm.trans hf'; simp at this; exact this.1.symm
      rw [hdecl] at hown2
      rw [← e1]; exact Option.some.inj (hown.symm.trans hown2)
    have h6 := u_fits hfc hkC hkind (Or.inr hlay) hi (hty k hk) hn hft
    exact W.putFinK hx hb hown (hts _ hlink) hs2 hst hcf (by rw [hnm]; exact hini) (by rw [q2]; exact h6) q1 q3 (by rw [hsl]; exact k2_hasslot (q4 k hk)) rfl rfl hdg end_
theorem fvI {ci a k : Nat} {v : Int32} (hrf : isRf (clty ci k) = false) : ∀ j, updV (fv M ci a) k (.int v) j = fv (sI M a k v) ci a j := by
  intro j
  by_cases hj : j = k
  · subst hj; simp [updV, fv, hrf, sI, up2]
  · simp [updV, hj, fv, sI, up2]
theorem fvR {ci a k : Nat} {v : Option Nat} (hrf : isRf (clty ci k) = true) : ∀ j, updV (fv M ci a) k (va_rf v) j = fv (sR M a k v) ci a j := by
  intro j
  by_cases hj : j = k
  · subst hj; simp [updV, fv, hrf, sR, up2]
  · simp [updV, hj, fv, sR, up2]
theorem sI_o {a k b : Nat} {v : Int32} (h : b ≠ a) : (sI M a k v).2.1 b = M.2.1 b ∧ (sI M a k v).2.2.1 b = M.2.2.1 b ∧ (sI M a k v).2.2.2.1 b = M.2.2.2.1 b := ⟨up2_ne h, rfl, rfl⟩
theorem sR_o {a k b : Nat} {v : Option Nat} (h : b ≠ a) : (sR M a k v).2.1 b = M.2.1 b ∧ (sR M a k v).2.2.1 b = M.2.2.1 b ∧ (sR M a k v).2.2.2.1 b = M.2.2.2.1 b := ⟨rfl, rfl, up2_ne h⟩
theorem zt_pI {ρ : Type} {κ : Mm → Option ρ} {r : ρ} (hC : CX X G y cc nL ret rm) {ci : Nat} {C : String} {T : u_T} {N k idx : Nat} {ref : String} {a : Nat} {v : Int32} (h : pI ci M a k v κ = some r) (hc : vwCl[ci]? = some (C, T, N)) (hk : k < N) (hty : clty ci k = .int) (hlink : Cond.fieldLink y.cls idx ref (T k).2.1 (T k).2.2.1 ∈ TS) (hsame : (T k).1 = ref ∨ Cond.sameField ref (T k).1 (T k).2.1 (T k).2.2.1 ∈ TS)
    (hfin : (T k).2.2.2 = false ∨ ((T k).2.2.2 = true ∧ y.name = "<init>" ∧ (T k).1 = y.cls)) (hdg : decode cc pc = .ok (.putfield idx, 3)) (kk : ∀ M' : Mm, κ M' = some r → TW X G nL Q cs ss M' (pc + 3) lv st) : TW X G nL Q cs ss M pc lv (.int v :: .ref a :: st) := by
  unfold pI at h
  split at h
  · rename_i ht
    exact zt_putV (M' := sI M a k v) hC ht hc hk hlink hsame hfin (by rw [hty]; rfl) (by rw [hty]; rfl) rfl rfl (fun b hb => sI_o hb) (fun j _ => fvI (by rw [hty]; rfl) j) hdg (kk _ h)
  · cases h
theorem zt_pZ {ρ : Type} {κ : Mm → Option ρ} {r : ρ} (hC : CX X G y cc nL ret rm) {ci : Nat} {C : String} {T : u_T} {N k idx : Nat} {ref : String} {a : Nat} {v : Int32} (h : pZ ci M a k v κ = some r) (hc : vwCl[ci]? = some (C, T, N)) (hk : k < N) (hty : clty ci k = .boolean) (hlink : Cond.fieldLink y.cls idx ref (T k).2.1 (T k).2.2.1 ∈ TS) (hsame : (T k).1 = ref ∨ Cond.sameField ref (T k).1 (T k).2.1 (T k).2.2.1 ∈ TS)
    (hfin : (T k).2.2.2 = false ∨ ((T k).2.2.2 = true ∧ y.name = "<init>" ∧ (T k).1 = y.cls)) (hdg : decode cc pc = .ok (.putfield idx, 3)) (kk : ∀ M' : Mm, κ M' = some r → TW X G nL Q cs ss M' (pc + 3) lv st) : TW X G nL Q cs ss M pc lv (.int v :: .ref a :: st) := by
  unfold pZ at h
  split at h
  · rename_i ht
    exact zt_putV (M' := sI M a k v) hC ht.1 hc hk hlink hsame hfin (by rw [hty]; rcases ht.2 with rfl | rfl <;> rfl) (by rw [hty]; rcases ht.2 with rfl | rfl <;> rfl) rfl rfl (fun b hb => sI_o hb) (fun j _ => fvI (by rw [hty]; rfl) j) hdg (kk _ h)
  · cases h
theorem rf_fits {t : FieldType} (h : isRf t = true) (v : Option Nat) : narrow t (va_rf v) = va_rf v ∧ fits t (va_rf v) = true := by
  cases t <;> first | (exact absurd h (by decide)) | (cases v <;> exact ⟨rfl, rfl⟩)
theorem zt_pR {ρ : Type} {κ : Mm → Option ρ} {r : ρ} (hC : CX X G y cc nL ret rm) {ci : Nat} {C : String} {T : u_T} {N k idx : Nat} {ref : String} {a : Nat} {v : Option Nat} {w : Value} (h : pR ci M a k v κ = some r) (hw : w = va_rf v) (hc : vwCl[ci]? = some (C, T, N)) (hk : k < N) (hrf : isRf (clty ci k) = true) (hlink : Cond.fieldLink y.cls idx ref (T k).2.1 (T k).2.2.1 ∈ TS) (hsame : (T k).1 = ref ∨ Cond.sameField ref (T k).1 (T k).2.1 (T k).2.2.1 ∈ TS)
    (hfin : (T k).2.2.2 = false ∨ ((T k).2.2.2 = true ∧ y.name = "<init>" ∧ (T k).1 = y.cls)) (hdg : decode cc pc = .ok (.putfield idx, 3)) (kk : ∀ M' : Mm, κ M' = some r → TW X G nL Q cs ss M' (pc + 3) lv st) : TW X G nL Q cs ss M pc lv (w :: .ref a :: st) := by
  subst hw
  unfold pR at h
  split at h
  · rename_i ht
    exact zt_putV (M' := sR M a k v) hC ht hc hk hlink hsame hfin (rf_fits hrf v).1 (rf_fits hrf v).2 rfl rfl (fun b hb => sR_o hb) (fun j _ => fvR hrf j) hdg (kk _ h)
  · cases h
theorem zt_pF {ρ : Type} {κ : Mm → Option ρ} {r : ρ} (hC : CX X G y cc nL ret rm) {idx : Nat} {a : Nat} {v : Int32} (h : pF M a v κ = some r) (hy : y.cls = "FerryBells$Rule") (hyn : y.name = "<init>") (hlink : Cond.fieldLink y.cls idx "FerryBells$Rule" "figure" "I" ∈ TS) (hdg : decode cc pc = .ok (.putfield idx, 3)) (kk : ∀ M' : Mm, κ M' = some r → TW X G nL Q cs ss M' (pc + 3) lv st) : TW X G nL Q cs ss M pc lv (.int v :: .ref a :: st) := by
  unfold pF at h
  split at h
  · rename_i ht
    obtain ⟨ci, C, T, e1, e2, e3, e4, e5⟩ := rule_cl ht
    exact zt_putV (M' := sI M a 0 v) hC e1 e2 (k := 0) (by decide) (by rw [e3]; exact hlink) (Or.inl (by rw [e3])) (Or.inr ⟨by rw [e3], hyn, by rw [e3, hy]⟩) (by rw [e5]; rfl) (by rw [e5]; rfl) rfl rfl (fun b hb => sI_o hb) (fun j _ => fvI e4 j) hdg (kk _ h)
  · cases h
-- arrays
theorem inA_iff {i : Int32} {n : Nat} (h : inA i n = true) : ¬ (i < 0 ∨ n ≤ i.toNatClampNeg) := by
  simp only [inA, Bool.not_eq_true', Bool.or_eq_false_iff, decide_eq_false_iff_not] at h
  exact fun q => q.elim h.1 h.2
theorem zt_ald {ρ : Type} {κ : Int32 → Option ρ} {r : ρ} (hC : CX X G y cc nL ret rm) {a : Nat} {i : Int32} (h : ald M a i κ = some r) (hdg : decode cc pc = .ok (.iaload, 1))
    (kk : ∀ v : Int32, κ v = some r → TW X G nL Q cs ss M (pc + 1) lv (.int v :: st)) : TW X G nL Q cs ss M pc lv (.int i :: .ref a :: st) := by
  unfold ald at h
  split at h
  · rename_i ht
    obtain ⟨ht, hi⟩ := ht
    obtain ⟨p, l, e, R, s, m, args, below, meth, c⟩ := X
    intro H locs ls hP hS hl
    have hin := inA_iff hi
    have hlt : i.toNatClampNeg < (M.1 a).2 := Nat.not_le.mp fun q => hin (Or.inr q)
    obtain ⟨hba, hcell⟩ := Cel_int (hP.2.2 a) ht
    exact W.iald (v := .int (M.2.1 a i.toNatClampNeg)) hC.1.1 hC.1.2.1 hcell ((hC.2.1.1.2 0 _ rfl).1 _ (fun j => .int (M.2.1 a j))) (fun q => by cases q) (by show ¬ (i < 0 ∨ (arrV _ _ _).slots.size ≤ _); rw [arrV_size]; exact hin) (by show (arrV _ _ _).slots[_]? = _; rw [arrV_read _ _ hlt]) rfl rfl hdg (kk _ h H locs ls hP hS hl)
  · cases h
theorem zt_ast {ρ : Type} {κ : Mm → Option ρ} {r : ρ} (hC : CX X G y cc nL ret rm) {a : Nat} {i x : Int32} (h : ast M a i x κ = some r) (hdg : decode cc pc = .ok (.iastore, 1))
    (kk : ∀ M' : Mm, κ M' = some r → TW X G nL Q cs ss M' (pc + 1) lv st) : TW X G nL Q cs ss M pc lv (.int x :: .int i :: .ref a :: st) := by
  unfold ast at h
  split at h
  · rename_i ht
    obtain ⟨ht, hi⟩ := ht
    obtain ⟨p, l, e, R, s, m, args, below, meth, c⟩ := X
    intro H locs ls hP hS hl
    have hin := inA_iff hi
    obtain ⟨hba, hcell⟩ := Cel_int (hP.2.2 a) ht
    refine W.iast hC.1.1 hC.1.2.1 hcell ((hC.2.1.1.2 0 _ rfl).1 _ (fun j => .int (M.2.1 a j))) (fun q => by cases q) (by show ¬ (i < 0 ∨ (arrV _ _ _).slots.size ≤ _); rw [arrV_size]; exact hin) rfl rfl hdg fun H1 e1 e2 e3 => ?_
    refine kk _ h H1 _ ls ⟨by rw [e2, hP.1]; rfl, hP.2.1, fun b => ?_⟩ (hS.put e2 e3 hba) hl
    by_cases hb2 : b = a
    · subst hb2
      unfold Cel
      rw [show ((sI M b i.toNatClampNeg x).1 b).1 = 1 from ht]
      refine ⟨hba, ?_⟩
      rw [e1, vp_cell_i, vp_cell_i, arrV_store]
      congr 2
      funext j
      by_cases hj : j = i.toNatClampNeg <;> simp [updV, sI, up2, hj]
    · obtain ⟨w1, w2, w3⟩ := sI_o (M := M) (k := i.toNatClampNeg) (v := x) hb2
      exact Cel_kept (hP.2.2 b) rfl w1 w2 w3 (e3 b hb2)
  · cases h
theorem zt_alq {ρ : Type} {κ : Nat → Option ρ} {r : ρ} (hC : CX X G y cc nL ret rm) {a : Nat} {i : Int32} (h : alq M a i κ = some r) (hdg : decode cc pc = .ok (.aaload, 1))
    (kk : ∀ v : Nat, κ v = some r → TW X G nL Q cs ss M (pc + 1) lv (.ref v :: st)) : TW X G nL Q cs ss M pc lv (.int i :: .ref a :: st) := by
  unfold alq at h
  split at h
  · rename_i ht
    obtain ⟨ht, hi⟩ := ht
    obtain ⟨v, hv, h⟩ := opt_some h
    obtain ⟨p, l, e, R, s, m, args, below, meth, c⟩ := X
    intro H locs ls hP hS hl
    have hin := inA_iff hi
    have hlt : i.toNatClampNeg < (M.1 a).2 := Nat.not_le.mp fun q => hin (Or.inr q)
    obtain ⟨hba, hcell⟩ := Cel_rf (hP.2.2 a) ht
    refine W.aald (v := va_rf (M.2.2.2.1 a i.toNatClampNeg)) (ty := .object RX7) hC.1.1 hC.1.2.1 hcell ((hC.2.1.1.2 2 _ rfl).1 _ (fun j => va_rf (M.2.2.2.1 a j))) rfl (fun q => by cases q) (by show ¬ (i < 0 ∨ (arrV _ _ _).slots.size ≤ _); rw [arrV_size]; exact hin) (by show (arrV _ _ _).slots[_]? = _; rw [arrV_read _ _ hlt]) rfl rfl hdg ?_
    rw [hv]
    exact kk _ h H locs ls hP hS hl
  · cases h
theorem zt_asq {ρ : Type} {κ : Mm → Option ρ} {r : ρ} (hC : CX X G y cc nL ret rm) {a v : Nat} {i : Int32} (h : asq M a i v κ = some r) (hdg : decode cc pc = .ok (.aastore, 1))
    (kk : ∀ M' : Mm, κ M' = some r → TW X G nL Q cs ss M' (pc + 1) lv st) : TW X G nL Q cs ss M pc lv (.ref v :: .int i :: .ref a :: st) := by
  unfold asq at h
  split at h
  · rename_i ht
    obtain ⟨ht, hi, hv⟩ := ht
    obtain ⟨p, l, e, R, s, m, args, below, meth, c⟩ := X
    intro H locs ls hP hS hl
    have hin := inA_iff hi
    have hlt : i.toNatClampNeg < (M.1 a).2 := Nat.not_le.mp fun q => hin (Or.inr q)
    have h0 : ¬ i < 0 := fun q => hin (Or.inl q)
    obtain ⟨hba, hcell⟩ := Cel_rf (hP.2.2 a) ht
    obtain ⟨hbv, r', hr', cellV, g1, g2, g3, -⟩ := Cel_obj (hP.2.2 v) (t := 7) hv
    have hcls := (hC.2.1.1.1 7 _ rfl).2
    obtain ⟨kA, comp, k1, k2, k3, -⟩ := (hC.2.1.1.2 2 _ rfl).2
    have hcomp : comp = G.2.1.1 7 := Option.some.inj (k3.symm.trans hcls.1)
    subst hcomp
    obtain ⟨kC, hkC, -⟩ := hcls.2
    refine W.aast hC.1.1 hC.1.2.1 hcell (fun q h => by cases h) (fun h => by cases h) k1 k2 rfl hkC ⟨h0, by show _ < (arrV _ _ _).slots.size; rw [arrV_size]; exact hlt⟩ g1 (fun q h => by rw [g3] at h; cases h) (by rw [g2]; exact hkC) (by rw [g2]; exact va_assign hcls) rfl rfl hdg fun H1 e1 e2 e3 => ?_
    refine kk _ h H1 _ ls ⟨by rw [e2, hP.1]; rfl, hP.2.1, fun b => ?_⟩ (hS.put e2 e3 hba) hl
    by_cases hb2 : b = a
    · subst hb2
      unfold Cel
      rw [show ((sR M b i.toNatClampNeg (some v)).1 b).1 = 3 from ht]
      refine ⟨hba, ?_⟩
      rw [e1, vp_cell_q, vp_cell_q, arrV_store]
      congr 2
      funext j
      by_cases hj : j = i.toNatClampNeg <;> simp [updV, sR, up2, hj, va_rf]
    · obtain ⟨w1, w2, w3⟩ := sR_o (M := M) (k := i.toNatClampNeg) (v := some v) hb2
      exact Cel_kept (hP.2.2 b) rfl w1 w2 w3 (e3 b hb2)
  · cases h
theorem zt_alen {ρ : Type} {κ : Int32 → Option ρ} {r : ρ} (hC : CX X G y cc nL ret rm) {a : Nat} (h : alen M a κ = some r) (hdg : decode cc pc = .ok (.arraylength, 1))
    (kk : ∀ v : Int32, κ v = some r → TW X G nL Q cs ss M (pc + 1) lv (.int v :: st)) : TW X G nL Q cs ss M pc lv (.ref a :: st) := by
  unfold alen at h
  split at h
  · rename_i ht
    obtain ⟨p, l, e, R, s, m, args, below, meth, c⟩ := X
    intro H locs ls hP hS hl
    rcases ht with ht | ht
    · obtain ⟨hba, hcell⟩ := Cel_int (hP.2.2 a) ht
      exact W.alen (n := nI (M.1 a).2) hC.1.1 hC.1.2.1 hcell ((hC.2.1.1.2 0 _ rfl).1 _ (fun j => .int (M.2.1 a j))) (by rw [vp_cell_i, arrV_size] <;> rfl) rfl rfl hdg (kk _ h H locs ls hP hS hl)
    · obtain ⟨hba, hcell⟩ := Cel_rf (hP.2.2 a) ht
      exact W.alen (n := nI (M.1 a).2) hC.1.1 hC.1.2.1 hcell ((hC.2.1.1.2 2 _ rfl).1 _ (fun j => va_rf (M.2.2.2.1 a j))) (by rw [vp_cell_q, arrV_size] <;> rfl) rfl rfl hdg (kk _ h H locs ls hP hS hl)
  · cases h
-- new cells
theorem Cel_old {G : Gl} {H H1 : Heap} {t n b : Nat} (hsz : H.size = nx M) (hb : b ≠ nx M) (h : Cel G M b H) (o1 : ∀ q, q < H.size → H1[q]? = H[q]?) : Cel G (nw M t n) b H1 := by
  have e1 : (nw M t n).1 b = M.1 b := by show (if b = M.2.2.2.2 then _ else _) = _; rw [if_neg hb]
  by_cases h0 : (M.1 b).1 = 0
  · unfold Cel
    rw [e1, h0]
    trivial
  · have hlt := Cel_lt h h0
    refine Cel_kept h e1 (upR_ne hb) (upR_ne hb) (upR_ne hb) (o1 b hlt)
theorem dv_obj {ci : Nat} {C : String} {T : u_T} {N : Nat} {n a : Nat} (hz : ∀ k, k < N → clty ci k = .int ∨ clty ci k = .boolean ∨ isRf (clty ci k) = true) (ha : a = nx M) : ∀ k, k < N → defaultValue (clty ci k) = fv (nw M (ci + 4) n) ci a k := by
  intro k hk
  subst ha
  have e2 : (nw M (ci + 4) n).2.1 (nx M) = fun _ => 0 := upR_at
  have e4 : (nw M (ci + 4) n).2.2.2.1 (nx M) = fun _ => none := upR_at
  unfold fv
  rw [e2, e4]
  rcases hz k hk with h | h | h
  · rw [h]; rfl
  · rw [h]; rfl
  · rw [if_pos h]
    generalize clty ci k = t at h
    cases t <;> first | (exact absurd h (by decide)) | rfl
theorem cl_kinds : ∀ {ci : Nat} {C : String} {T : u_T} {N : Nat}, vwCl[ci]? = some (C, T, N) → ∀ k, k < N → clty ci k = .int ∨ clty ci k = .boolean ∨ isRf (clty ci k) = true := by
  intro ci C T N h
  match ci, h with
  | 0, h => cases h; intro k hk; simp [clty, tyX0]
  | 1, h => cases h; intro k hk; (obtain rfl | rfl | rfl | rfl | rfl : k = 0 ∨ k = 1 ∨ k = 2 ∨ k = 3 ∨ k = 4 := by omega) <;> simp [clty, tyX1, isRf]
  | 2, h => cases h; intro k hk; simp [clty, tyX2]
  | 3, h => cases h; intro k hk; simp [clty, tyX3]
  | 4, h => cases h; intro k hk; simp [clty, tyX4]
  | 5, h => cases h; intro k hk; exact (by decide +kernel : ∀ k : Fin 6, clty 5 k.val = .int ∨ clty 5 k.val = .boolean ∨ isRf (clty 5 k.val) = true) ⟨k, hk⟩
  | 6, h => cases h; intro k hk; simp [clty, tyX6]
  | 7, h => cases h; intro k hk; exact (by decide +kernel : ∀ k : Fin 4, clty 7 k.val = .int ∨ clty 7 k.val = .boolean ∨ isRf (clty 7 k.val) = true) ⟨k, hk⟩
  | 8, h => cases h; intro k hk; simp [clty, tyX8]
  | 9, h => cases h; intro k hk; simp [clty, tyX9]
  | 10, h => cases h; intro k hk; exact (by decide +kernel : ∀ k : Fin 18, clty 10 k.val = .int ∨ clty 10 k.val = .boolean ∨ isRf (clty 10 k.val) = true) ⟨k, hk⟩
  | 11, h => cases h; intro k hk; exact (by decide +kernel : ∀ k : Fin 8, clty 11 k.val = .int ∨ clty 11 k.val = .boolean ∨ isRf (clty 11 k.val) = true) ⟨k, hk⟩
  | 12, h => cases h; intro k hk; exact (by decide +kernel : ∀ k : Fin 19, clty 12 k.val = .int ∨ clty 12 k.val = .boolean ∨ isRf (clty 12 k.val) = true) ⟨k, hk⟩
  | n + 13, h => simp at h
theorem nw_at {t n : Nat} : (nw M t n).1 (nx M) = (t, n) := by show (if _ then _ else _) = _; rw [if_pos rfl]
theorem zt_new (hC : CX X G y cc nL ret rm) {ci : Nat} {C : String} {T : u_T} {N idx : Nat} (hc : vwCl[ci]? = some (C, T, N)) (hcl : Cond.classLink y.cls idx C ∈ TS) (hinst : Cond.instantiable C N ∈ TS) (hini : Cond.initialized C ∈ TS) (h1 : cs + 1 ≤ rm.cells) (h2 : ss + N ≤ rm.slots) (hdg : decode cc pc = .ok (.new idx, 3))
    (kk : TW X G nL Q (cs + 1) (ss + N) (nw M (ci + 4) 0) (pc + 3) lv (.ref (nx M) :: st)) : TW X G nL Q cs ss M pc lv st := by
  obtain ⟨p, l, e, R, s, m, args, below, meth, c⟩ := X
  intro H locs ls hP hS hl
  obtain ⟨⟨hx, hb, hml, hown, hts⟩, ⟨hK, -, -⟩, rfl, hret, hlk, hbs, hnm, -⟩ := hC
  have hKn := hK.1 ci _ hc
  refine W.newcK hx hb hown (hts _ hcl) (hts _ hinst) (hts _ hini) rfl hdg h1 h2 hKn.2.1 hP.1 fun H1 kC hkC e1 z1 o1 => ?_
  refine kk H1 locs ls ⟨z1, Nat.le_succ_of_le hP.2.1, fun b => ?_⟩ ⟨by have := hS.1; have := hP.1; omega, fun q g1 g2 => by rw [o1 q (by have := hS.1; have := hP.1; omega)]; exact hS.2.1 q g1 g2, hS.2.2⟩ hl
  by_cases hb2 : b = nx M
  · subst hb2
    unfold Cel
    rw [nw_at]
    exact ⟨hP.2.1, _, hc, (u_born (clty ci) hts (cl_in hc) hKn hkC e1 (cl_ok hc).1).to (dv_obj (C := C) (T := T) (cl_kinds hc) rfl)⟩
  · exact Cel_old hP.1 hb2 (hP.2.2 b) (fun q hq => o1 q (by rw [← hP.1]; exact hq))
theorem zt_newa (hC : CX X G y cc nL ret rm) {n : Int32} {N : Nat} (hw : Cond.arrayClass .int ∈ TS) (hn : ¬ n < 0) (hN : n.toNatClampNeg = N) (hby : N * 4 ≤ 536870912) (h1 : cs + 1 ≤ rm.cells) (h2 : ss + N ≤ rm.slots) (hdg : decode cc pc = .ok (.newarray .int, 2))
    (kk : TW X G nL Q (cs + 1) (ss + N) (nw M 1 N) (pc + 2) lv (.ref (nx M) :: st)) : TW X G nL Q cs ss M pc lv (.int n :: st) := by
  obtain ⟨p, l, e, R, s, m, args, below, meth, c⟩ := X
  intro H locs ls hP hS hl
  obtain ⟨⟨hx, hb, hml, hown, hts⟩, ⟨hK, -, -⟩, rfl, hret, hlk, hbs, hnm, -⟩ := hC
  refine va_newaK hx hb (atype := .int) (hts _ hw) rfl hdg rfl hn hN hby h1 h2 hP.1 fun H1 cA e1 z1 o1 hAr hNm => ?_
  have hcA : cA = G.2.2.1 := by
    have h9 := (hK.2 0 _ rfl).2
    exact Option.some.inj (hNm.symm.trans h9)
  subst hcA
  refine kk H1 locs ls ⟨z1, Nat.le_succ_of_le hP.2.1, fun b => ?_⟩ ⟨by have := hS.1; have := hP.1; omega, fun q g1 g2 => by rw [o1 q (by have := hS.1; have := hP.1; omega)]; exact hS.2.1 q g1 g2, hS.2.2⟩ hl
  by_cases hb2 : b = nx M
  · subst hb2
    unfold Cel
    rw [nw_at]
    refine ⟨hP.2.1, ?_⟩
    rw [show (nw M 1 N).2.1 (nx M) = fun _ => 0 from upR_at]
    exact e1
  · exact Cel_old hP.1 hb2 (hP.2.2 b) (fun q hq => o1 q (by rw [← hP.1]; exact hq))
theorem zt_newl (hC : CX X G y cc nL ret rm) {n : Int32} {N : Nat} (hw : Cond.arrayClass .long ∈ TS) (hn : ¬ n < 0) (hN : n.toNatClampNeg = N) (hby : N * 8 ≤ 536870912) (h1 : cs + 1 ≤ rm.cells) (h2 : ss + N ≤ rm.slots) (hdg : decode cc pc = .ok (.newarray .long, 2))
    (kk : TW X G nL Q (cs + 1) (ss + N) (nw M 2 N) (pc + 2) lv (.ref (nx M) :: st)) : TW X G nL Q cs ss M pc lv (.int n :: st) := by
  obtain ⟨p, l, e, R, s, m, args, below, meth, c⟩ := X
  intro H locs ls hP hS hl
  obtain ⟨⟨hx, hb, hml, hown, hts⟩, ⟨hK, -, -⟩, rfl, hret, hlk, hbs, hnm, -⟩ := hC
  refine va_newaK hx hb (atype := .long) (hts _ hw) rfl hdg rfl hn hN hby h1 h2 hP.1 fun H1 cA e1 z1 o1 hAr hNm => ?_
  have hcA : cA = G.2.2.2.1 := by
    have h9 := (hK.2 1 _ rfl).2
    exact Option.some.inj (hNm.symm.trans h9)
  subst hcA
  refine kk H1 locs ls ⟨z1, Nat.le_succ_of_le hP.2.1, fun b => ?_⟩ ⟨by have := hS.1; have := hP.1; omega, fun q g1 g2 => by rw [o1 q (by have := hS.1; have := hP.1; omega)]; exact hS.2.1 q g1 g2, hS.2.2⟩ hl
  by_cases hb2 : b = nx M
  · subst hb2
    unfold Cel
    rw [nw_at]
    refine ⟨hP.2.1, ?_⟩
    rw [show (nw M 2 N).2.2.1 (nx M) = fun _ => 0 from upR_at]
    exact e1
  · exact Cel_old hP.1 hb2 (hP.2.2 b) (fun q hq => o1 q (by rw [← hP.1]; exact hq))
theorem zt_newq (hC : CX X G y cc nL ret rm) {n : Int32} {N idx : Nat} (hcl : Cond.classLink y.cls idx RX7 ∈ TS) (hn : ¬ n < 0) (hN : n.toNatClampNeg = N) (hby : N * 4 ≤ 536870912) (h1 : cs + 1 ≤ rm.cells) (h2 : ss + N ≤ rm.slots) (hdg : decode cc pc = .ok (.anewarray idx, 3))
    (kk : TW X G nL Q (cs + 1) (ss + N) (nw M 3 N) (pc + 3) lv (.ref (nx M) :: st)) : TW X G nL Q cs ss M pc lv (.int n :: st) := by
  obtain ⟨p, l, e, R, s, m, args, below, meth, c⟩ := X
  intro H locs ls hP hS hl
  obtain ⟨⟨hx, hb, hml, hown, hts⟩, ⟨hK, -, hAO⟩, rfl, hret, hlk, hbs, hnm, -⟩ := hC
  subst hN
  refine W.anew hx hb hown (hts _ hcl) (va_AO.use hAO) rfl hdg rfl hn hby h1 h2 fun cA kA comp f1 f2 f3 f4 => ?_
  have hcA : cA = G.2.2.2.2 := by
    obtain ⟨_, _, _, _, _, h9⟩ := (hK.2 2 _ rfl).2
    exact Option.some.inj (f1.symm.trans h9)
  subst hcA
  generalize hH1 : H.push ({ cls := G.2.2.2.2, slots := Array.replicate n.toNatClampNeg .null, vm := .none } : Cell) = H1
  have z1 : H1.size = H.size + 1 := by rw [← hH1, Array.size_push]
  have e1 : H1[H.size]? = some (arrV G.2.2.2.2 n.toNatClampNeg (fun _ => .null)) := by rw [← hH1, Array.getElem?_push_size, ← arrV_new]
  have o1 : ∀ q : Nat, q < H.size → H1[q]? = H[q]? := fun q hq => by rw [← hH1, Array.getElem?_push, if_neg (Nat.ne_of_lt hq)]
  have hz := hP.1
  rw [hz] at z1 e1
  have hk9 := kk H1 locs ls ⟨z1, Nat.le_succ_of_le hP.2.1, fun b => by
    by_cases hb2 : b = nx M
    · subst hb2
      unfold Cel
      rw [nw_at]
      refine ⟨hP.2.1, ?_⟩
      rw [show (nw M 3 n.toNatClampNeg).2.2.2.1 (nx M) = fun _ => none from upR_at, vp_cell_q]
      exact e1
    · exact Cel_old hP.1 hb2 (hP.2.2 b) o1⟩ ⟨by have := hS.1; have := hP.1; omega, fun q g1 g2 => by rw [o1 q (by have := hS.1; omega)]; exact hS.2.1 q g1 g2, hS.2.2⟩ hl
  rw [← hz] at hk9
  exact hk9
theorem zt_acp {ρ : Type} {κ : Mm → Option ρ} {r : ρ} (hC : CX X G y cc nL ret rm) {idx a b : Nat} {sp dp n : Int32} (h : acp M a sp b dp n κ = some r) (hlink : Cond.methodLink y.cls idx arraycopyName ∈ TS) (hnat : Cond.native arraycopyName ∈ TS) (hstat : Cond.static arraycopyName ∈ TS) (hini : Cond.initialized "java/lang/System" ∈ TS) (hfr : 1 ≤ rm.frames) (hlo : (st.map fun v => v.category).sum + (nativeFrameWords "java/lang/System" "arraycopy" 5 + 11) ≤ rm.locals) (hdg : decode cc pc = .ok (.invokestatic idx, 3))
    (kk : ∀ M' : Mm, κ M' = some r → TW X G nL Q cs ss M' (pc + 3) lv st) : TW X G nL Q cs ss M pc lv (.int n :: .int dp :: .ref b :: .int sp :: .ref a :: st) := by
  unfold acp at h
  split at h
  · rename_i ht
    obtain ⟨ha, hb9, h1, h2, h3, h4, h5⟩ := ht
    obtain ⟨p, l, e, R, s, m, args, below, meth, c⟩ := X
    intro H locs ls hP hS hl
    obtain ⟨⟨hx, hb, hml, hown, hts⟩, ⟨hK, -, -⟩, rfl, hret, hlk, hbs, hnm, -⟩ := hC
    obtain ⟨hba, hca⟩ := Cel_int (hP.2.2 a) ha
    obtain ⟨hbb, hcb⟩ := Cel_int (hP.2.2 b) hb9
    have nn : ∀ z : Int32, ¬ z < 0 → z.toInt = (z.toNatClampNeg : Int) := by
      intro z hz
      have hz0 : (0 : Int) ≤ z.toInt := by
        have := Int32.not_lt.mp hz
        simpa using Int32.le_iff_toInt_le.mp this
      show z.toInt = ((z.toInt.toNat : Nat) : Int)
      omega
    intro T hT X
    obtain ⟨-, k0, hk0, cm0, hkk0⟩ := (hK.2 0 _ rfl).1 (M.1 a).2 (fun j => .int (M.2.1 a j))
    obtain ⟨-, k1, hk1, cm1, hkk1⟩ := (hK.2 0 _ rfl).1 (M.1 b).2 (fun j => .int (M.2.1 b j))
    obtain ⟨vm', X', step⟩ := X.arraycopy hx hown (hts _ hlink) (hts _ hnat) (hts _ hstat) (hts _ hini) (src := a) (dst := b) (cs := vp_cell G.2.2.1 ((M.1 a).2, .inl (M.2.1 a))) (cd := vp_cell G.2.2.1 ((M.1 b).2, .inl (M.2.1 b))) (srcPos := sp) (destPos := dp) (n := n) (by rw [hT]; exact hca) (by rw [hT]; exact hcb)
      (fun _ h => by cases h) (fun _ h => by cases h) (fun h => by cases h) (fun h => by cases h) hk0 hk1 hkk0 hkk1 (by simp [refKind]) h1 h2 h3
      (by rw [nn sp h1, nn n h3]; show ¬ _ > ((arrV G.2.2.1 (M.1 a).2 (fun j => .int (M.2.1 a j))).slots.size : Int); rw [arrV_size]; omega)
      (by rw [nn dp h2, nn n h3]; show ¬ _ > ((arrV G.2.2.1 (M.1 b).2 (fun j => .int (M.2.1 b j))).slots.size : Int); rw [arrV_size]; omega)
      (fun vm₁ _ i hi => by
        have e : (vp_cell G.2.2.1 ((M.1 a).2, .inl (M.2.1 a))).slots.getD (sp.toNatClampNeg + i) .null = .int (M.2.1 a (sp.toNatClampNeg + i)) := by
          show (arrV G.2.2.1 (M.1 a).2 (fun j => .int (M.2.1 a j))).slots.getD _ _ = _
          rw [Array.getD_eq_getD_getElem?, arrV_read _ _ (by omega)]
          rfl
        refine ⟨?_, ?_⟩
        · rw [e]
          rfl
        · rw [e]
          exact trivial)
      (g := F0 m pc ls (.int n :: .int dp :: .ref b :: .int sp :: .ref a :: st)) rfl (by rw [hml]; exact hl.1) (rest := st) rfl (by rw [hb]; exact hdg) hfr (by show 2 * 0 + _ + _ ≤ _; omega)
    have e1 : copied (vp_cell G.2.2.1 ((M.1 a).2, .inl (M.2.1 a))) (vp_cell G.2.2.1 ((M.1 b).2, .inl (M.2.1 b))) sp dp n = vp_cell G.2.2.1 ((M.1 b).2, .inl (va_cpy (M.2.1 a) (M.2.1 b) sp.toNatClampNeg dp.toNatClampNeg n.toNatClampNeg)) := va_copied (fun z => .int z) G.2.2.1 G.2.2.1 (M.2.1 a) (M.2.1 b) h4
    rw [e1] at X' step
    have hlb : b < H.size := (Array.getElem?_eq_some_iff.mp hcb).1
    generalize hnc : vp_cell G.2.2.1 ((M.1 b).2, .inl (va_cpy (M.2.1 a) (M.2.1 b) sp.toNatClampNeg dp.toNatClampNeg n.toNatClampNeg)) = nc at X' step
    have hheap : ((T.setVm vm').setCell b nc).heap = H.setIfInBounds b nc := by rw [← hT]; rfl
    have oq : ∀ q : Nat, q ≠ b → (H.setIfInBounds b nc)[q]? = H[q]? := fun q hq => by simp [Array.getElem?_setIfInBounds, Ne.symm hq]
    obtain ⟨t, a1, b1⟩ := kk _ h (H.setIfInBounds b nc) _ ls ⟨by simp; exact hP.1, hP.2.1, fun q => by
      by_cases hq : q = b
      · subst hq
        unfold Cel
        rw [show ((sG M q (va_cpy (M.2.1 a) (M.2.1 q) sp.toNatClampNeg dp.toNatClampNeg n.toNatClampNeg)).1 q).1 = 1 from hb9]
        refine ⟨hbb, ?_⟩
        rw [show (sG M q (va_cpy (M.2.1 a) (M.2.1 q) sp.toNatClampNeg dp.toNatClampNeg n.toNatClampNeg)).2.1 q = va_cpy (M.2.1 a) (M.2.1 q) sp.toNatClampNeg dp.toNatClampNeg n.toNatClampNeg from upR_at]
        show (H.setIfInBounds q nc)[q]? = some _
        rw [show (sG M q (va_cpy (M.2.1 a) (M.2.1 q) sp.toNatClampNeg dp.toNatClampNeg n.toNatClampNeg)).1 = M.1 from rfl, hnc]
        simp [Array.getElem?_setIfInBounds, hlb]
      · exact Cel_kept (hP.2.2 q) rfl (upR_ne hq) rfl rfl (oq q hq)⟩ ⟨by simp; exact hS.1, fun q g1 g2 => by
        rw [oq q (fun e => g2 (by rw [e]; exact hbb))]
        exact hS.2.1 q g1 g2, fun q hq => by
        rcases List.mem_append.mp hq with h | h
        · exact hS.2.2 q h
        · obtain ⟨z, -, hz⟩ := List.mem_map.mp h
          rw [← hz]
          exact hbb⟩ hl _ hheap X'
    exact ⟨t, step t a1, b1⟩
  · cases h
theorem zt_mmin (hC : CX X G y cc nL ret rm) {idx : Nat} {x z : Int32} (hlink : Cond.methodLink y.cls idx Lib.Math.min.name ∈ TS) (hstat : Cond.static Lib.Math.min.name ∈ TS) (hini : Cond.initialized "java/lang/Math" ∈ TS) (hcode : Cond.code Lib.Math.min.name Lib.Math.min.code 2 (some .int) ∈ TS) (hfr : 1 ≤ rm.frames) (hlo : (st.map fun v => v.category).sum + 13 ≤ rm.locals) (h1 : cs ≤ rm.cells) (h2 : ss ≤ rm.slots) (hdg : decode cc pc = .ok (.invokestatic idx, 3))
    (kk : TW X G nL Q cs ss M (pc + 3) lv (.int (if z < x then z else x) :: st)) : TW X G nL Q cs ss M pc lv (.int z :: .int x :: st) := by
  obtain ⟨p, l, e, R, s, m, args, below, meth, c⟩ := X
  intro H locs ls hP hS hl
  obtain ⟨⟨hx, hb, hml, hown, hts⟩, -, rfl, -⟩ := hC
  exact va_mmin hx hb (by rw [hml]; exact hl.1.symm) hown (hts _ hlink) (hts _ hstat) (hts _ hini) (hts _ hcode) hfr hlo h1 h2 hdg (kk H locs ls hP hS hl)
theorem zt_mmax (hC : CX X G y cc nL ret rm) {idx : Nat} {x z : Int32} (hlink : Cond.methodLink y.cls idx Lib.Math.max.name ∈ TS) (hstat : Cond.static Lib.Math.max.name ∈ TS) (hini : Cond.initialized "java/lang/Math" ∈ TS) (hcode : Cond.code Lib.Math.max.name Lib.Math.max.code 2 (some .int) ∈ TS) (hfr : 1 ≤ rm.frames) (hlo : (st.map fun v => v.category).sum + 13 ≤ rm.locals) (h1 : cs ≤ rm.cells) (h2 : ss ≤ rm.slots) (hdg : decode cc pc = .ok (.invokestatic idx, 3))
    (kk : TW X G nL Q cs ss M (pc + 3) lv (.int (if x < z then z else x) :: st)) : TW X G nL Q cs ss M pc lv (.int z :: .int x :: st) := by
  obtain ⟨p, l, e, R, s, m, args, below, meth, c⟩ := X
  intro H locs ls hP hS hl
  obtain ⟨⟨hx, hb, hml, hown, hts⟩, -, rfl, -⟩ := hC
  exact va_mmax hx hb (by rw [hml]; exact hl.1.symm) hown (hts _ hlink) (hts _ hstat) (hts _ hini) (hts _ hcode) hfr hlo h1 h2 hdg (kk H locs ls hP hS hl)
-- calls
theorem zt_run {p : Program} {l : Launch} {e : Env} {R : Room} {s : State} {m : MethodId} {args : Array Value} {below : List Frame} {meth : Method} {c : Code} {H : Heap} {locs : List Loc} {ls : Array Slot} {rest st0 : List Value} {a : Array Value} {mc ms : Nat} {rv : Option Value} {M' : Mm}
    (hr : va_Run p l e R s m args below meth c H locs cs ss mc ms (F0 m pc ls st0) rest (QG G rv M' a) (fun q => G.1 ≤ q)) (hS : va_S (fun q => G.1 ≤ q) s.heap H locs) (hl : lv_has ls nL lv)
    (kk : TW (p, l, e, R, s, m, args, below, meth, c) G nL Q (cs + mc) (ss + ms) M' (pc + 3) lv (rv.toList ++ rest)) : W p l e R s m args below meth c H locs cs ss Q (F0 m pc ls st0) := by
  intro T hT X
  obtain ⟨v, st₀, t, T', L, h0, X', hL, e1, e2, ⟨hv, hRP, hz, hk⟩, stp⟩ := hr T hT X
  cases hv
  rw [h0] at hz hk
  obtain ⟨t2, a1, b1⟩ := kk T'.heap (locs ++ L) ls (by rw [e1]; exact hRP)
    ⟨Nat.le_trans hS.1 (by rw [e1]; exact hz), fun q h1 h2 => by rw [e1, hk q (Nat.lt_of_lt_of_le h1 hS.1) h2]; exact hS.2.1 q h1 h2, fun q hq => by
      rcases List.mem_append.mp hq with h | h
      · exact hS.2.2 q h
      · exact hL q h⟩ hl T' rfl X'
  exact ⟨t2, stp t2 a1, b1⟩
theorem TS_sub {ws : List Cond} (h : ∀ w ∈ ws, w ∈ TS) : GoodIn TS ws := fun w hw => TS_good w (h w hw)
theorem TS_cons {w : Cond} (h : w ∈ TS) : ∀ v ∈ w :: TS, v ∈ TS := fun v hv => (List.mem_cons.mp hv).elim (fun e => e ▸ h) id
variable {z : MethodName} {zc : ByteArray} {znL : Nat} {zret : Option FieldType} {zrm : Room} {As rest st0 : List Value} {rv : Option Value} {M' : Mm} {idx : Nat}
/-- what the room must leave for a call -/
abbrev fit (zrm rm : Room) (znL cs ss : Nat) : Prop := (zrm.frames + 1 ≤ rm.frames ∧ 8 + (znL + 11) + zrm.locals ≤ rm.locals) ∧ cs + zrm.cells ≤ rm.cells ∧ ss + zrm.slots ≤ rm.slots
theorem zt_callS (hC : CX X G y cc nL ret rm) (n : Nat) (hM : ∀ l : Launch, l.flags = flags0 → MT l G z zc znL zret zrm As M rv M') (hcls : z.cls = y.cls) (hcode : Cond.code z zc znL zret ∈ TS) (hlink : Cond.methodLink y.cls idx z ∈ TS) (hstat : Cond.static z ∈ TS) (hini : Cond.initialized z.cls ∈ TS) (hd : z.cls ≠ "java/lang/invoke/MethodHandle" ∧ z.cls ≠ "java/lang/invoke/VarHandle" ∧ (parseMethodDescriptor z.desc).map (fun d => d.parameters.length) = some n) (hn : As.length = n) (hf : fit zrm rm znL cs ss) {st1 : List Value} (hst : st0 = As.reverse ++ rest) (hcat : (rest.map fun v => v.category).sum ≤ 8) (hst1 : rv.toList ++ rest = st1) (hdg : decode cc pc = .ok (.invokestatic idx, 3))
    (kk : TW X G nL Q (cs + zrm.cells) (ss + zrm.slots) M' (pc + 3) lv st1) : TW X G nL Q cs ss M pc lv st0 := by
  subst hst1
  obtain ⟨p, l, e, R, s, m, args, below, meth, c⟩ := X
  intro H locs ls hP hS hl
  obtain ⟨⟨hx, hb, hml, hown, hts⟩, hK, rfl, hret, hlk, hbs, hnm, hfl⟩ := hC
  refine zt_run (va_runS (As := As) (rest := rest) ⟨hx, hb, hml, hown, hts⟩ (hM l hfl) (cwS n hts (TS_sub fun w hw => ?_) rfl rfl rfl ⟨hcls, hd⟩ hf.1) ⟨PG_blind, fun U hU hW => ⟨rfl, by rw [hU]; exact hP, KK_warm hW hK⟩⟩ rfl hn hl.1 hst (lv_room hcat) hdg hf.2) hS hl kk
  rcases List.mem_append.mp hw with h | h
  · rcases List.mem_cons.mp h with rfl | h
    · exact hlink
    · rcases List.mem_cons.mp h with rfl | h
      · exact hstat
      · rcases List.mem_cons.mp h with rfl | h
        · rw [← hcls]; exact hini
        · cases h
  · exact TS_cons hcode w h
theorem zt_callSN (hC : CX X G y cc nL ret rm) (n : Nat) (hM : ∀ l : Launch, l.flags = flags0 → MT l G z zc znL zret zrm As M rv M') (hcode : Cond.code z zc znL zret ∈ TS) (hlink : (y.cls, idx, z, "FerryBells") ∈ nestL) (hstat : Cond.static z ∈ TS) (hini : Cond.initialized z.cls ∈ TS) (hd : z.cls ≠ "java/lang/invoke/MethodHandle" ∧ z.cls ≠ "java/lang/invoke/VarHandle" ∧ (parseMethodDescriptor z.desc).map (fun d => d.parameters.length) = some n) (hn : As.length = n) (hf : fit zrm rm znL cs ss) {st1 : List Value} (hst : st0 = As.reverse ++ rest) (hcat : (rest.map fun v => v.category).sum ≤ 8) (hst1 : rv.toList ++ rest = st1) (hdg : decode cc pc = .ok (.invokestatic idx, 3))
    (kk : TW X G nL Q (cs + zrm.cells) (ss + zrm.slots) M' (pc + 3) lv st1) : TW X G nL Q cs ss M pc lv st0 := by
  subst hst1
  obtain ⟨p, l, e, R, s, m, args, below, meth, c⟩ := X
  intro H locs ls hP hS hl
  obtain ⟨⟨hx, hb, hml, hown, hts⟩, hK, rfl, hret, hlk, hbs, hnm, hfl⟩ := hC
  exact zt_run (va_runSN (As := As) (rest := rest) ⟨hx, hb, hml, hown, hts⟩ (hM l hfl) ⟨va_cnB n hts (TS_sub (TS_cons hcode)) rfl rfl rfl (hK.2.1 _ hlink) (hts _ hini) hd hf.1, hts _ hstat, trivial⟩ ⟨PG_blind, fun U hU hW => ⟨rfl, by rw [hU]; exact hP, KK_warm hW hK⟩⟩ rfl hn hl.1 hst (lv_room hcat) hdg hf.2) hS hl kk
theorem zt_callI (hC : CX X G y cc nL ret rm) (n : Nat) {b : Nat} (hM : ∀ l : Launch, l.flags = flags0 → MT l G z zc znL none zrm (.ref b :: As) M none M') (hcode : Cond.code z zc znL none ∈ TS) (hlink : Cond.methodLink y.cls idx z ∈ TS) (hinst : Cond.instanceMethod z ∈ TS) (hini : Cond.initialized z.cls ∈ TS) (hz : z.name = "<init>") (hd : z.cls ≠ "java/lang/invoke/MethodHandle" ∧ z.cls ≠ "java/lang/invoke/VarHandle" ∧ (parseMethodDescriptor z.desc).map (fun d => d.parameters.length) = some n) (hn : As.length = n) (hf : fit zrm rm znL cs ss) (hst : st0 = As.reverse ++ .ref b :: rest) (hcat : (rest.map fun v => v.category).sum ≤ 8) (hdg : decode cc pc = .ok (.invokespecial idx, 3))
    (kk : TW X G nL Q (cs + zrm.cells) (ss + zrm.slots) M' (pc + 3) lv rest) : TW X G nL Q cs ss M pc lv st0 := by
  obtain ⟨p, l, e, R, s, m, args, below, meth, c⟩ := X
  intro H locs ls hP hS hl
  obtain ⟨⟨hx, hb, hml, hown, hts⟩, hK, rfl, hret, hlk, hbs, hnm, hfl⟩ := hC
  exact zt_run (va_runI (As := As) (rest := rest) ⟨hx, hb, hml, hown, hts⟩ (hM l hfl) ⟨callB_of n hts (TS_sub (TS_cons hcode)) rfl rfl rfl (hts _ hini) (hts _ hlink) hd hf.1, hz, hts _ hinst⟩ ⟨PG_blind, fun U hU hW => ⟨rfl, by rw [hU]; exact hP, KK_warm hW hK⟩⟩ rfl hn hl.1 hst (lv_room hcat) hdg hf.2) hS hl kk
/-- a constructor called with much below it on the stack -/
theorem zt_callIw (hC : CX X G y cc nL ret rm) (n : Nat) {b : Nat} (hM : ∀ l : Launch, l.flags = flags0 → MT l G z zc znL none zrm (.ref b :: As) M none M') (hcode : Cond.code z zc znL none ∈ TS) (hlink : Cond.methodLink y.cls idx z ∈ TS) (hinst : Cond.instanceMethod z ∈ TS) (hini : Cond.initialized z.cls ∈ TS) (hz : z.name = "<init>") (hd : z.cls ≠ "java/lang/invoke/MethodHandle" ∧ z.cls ≠ "java/lang/invoke/VarHandle" ∧ (parseMethodDescriptor z.desc).map (fun d => d.parameters.length) = some n) (hn : As.length = n) (hf : (zrm.frames + 1 ≤ rm.frames ∧ 32 + (znL + 11) + zrm.locals ≤ rm.locals) ∧ cs + zrm.cells ≤ rm.cells ∧ ss + zrm.slots ≤ rm.slots) (hst : st0 = As.reverse ++ .ref b :: rest) (hcat : (rest.map fun v => v.category).sum ≤ 32) (hdg : decode cc pc = .ok (.invokespecial idx, 3))
    (kk : TW X G nL Q (cs + zrm.cells) (ss + zrm.slots) M' (pc + 3) lv rest) : TW X G nL Q cs ss M pc lv st0 := by
  obtain ⟨p, l, e, R, s, m, args, below, meth, c⟩ := X
  intro H locs ls hP hS hl
  obtain ⟨⟨hx, hb, hml, hown, hts⟩, hK, rfl, hret, hlk, hbs, hnm, hfl⟩ := hC
  have hcode0 := hts _ hcode
  have hK1 : Back l R p e below s args z 3 32 (PreOf R zrm.cells zrm.slots (PG G (.ref b :: As) M)) (PostOf (QG G none M') zrm.cells zrm.slots (fun q => G.1 ≤ q)) := back_of (bytes := zc) (maxL := znL) (ret := none) (hM l hfl) PG_blind rfl rfl hf.1.1 hf.1.2 (pay_in hts (TS_sub (TS_cons hcode))) List.mem_cons_self (fun a' U hW => word_at hW (Or.inl (by first | rfl | simp [Cond.onTables, Cond.keeps, Cond.steady])) (hts _ hini))
  refine zt_run (rv := none) (mc := zrm.cells) (ms := zrm.slots) (rest := rest) (a := (Value.ref b :: As).toArray) ?_ hS hl kk
  intro T hT X
  obtain ⟨v, vm₁, ⟨U', l2, c2, s2⟩, hW₁, X', ⟨g', mk, t, L, e1, e2, hq, h1, hL, h2, h3⟩, stp⟩ := callI X hx (bytes := zc) (maxL := znL) hown hz (hts _ hlink) (hts _ hinst) hcode0 ⟨hd.1, hd.2.1⟩ hK1 (g := F0 m pc ls st0) rfl (hl.1.trans hml.symm) (a := b) (argsL := As) (rest := rest) (fun sig h => by
      have h2 := hd.2.2
      rw [h] at h2
      exact hn.trans (Option.some.inj h2).symm) hst (by show 2 * 0 + _ ≤ 32; omega) (by rw [hb]; exact hdg)
    (fun vm₁ hW₁ => ⟨hf.2.1, hf.2.2, rfl, by show RP G M T.heap; rw [hT]; exact hP, KK_warm (s := s) (U := T.setVm vm₁) hW₁ hK⟩)
  dsimp only [Pt.U, Pt.locs, Pt.cells, Pt.slots] at X' e1 e2 h1 h2 h3 stp
  subst h1; subst h2; subst h3
  exact ⟨v, (T.setVm vm₁).calling g' mk (Value.ref b :: As).toArray, t, U', L, hT, X', hL, e1, e2, hq, stp⟩
theorem zt_callIN (hC : CX X G y cc nL ret rm) (n : Nat) {b : Nat} (hM : ∀ l : Launch, l.flags = flags0 → MT l G z zc znL none zrm (.ref b :: As) M none M') (hcode : Cond.code z zc znL none ∈ TS) (hlink : (y.cls, idx, z, "FerryBells") ∈ nestL) (hinst : Cond.instanceMethod z ∈ TS) (hini : Cond.initialized z.cls ∈ TS) (hz : z.name = "<init>") (hd : z.cls ≠ "java/lang/invoke/MethodHandle" ∧ z.cls ≠ "java/lang/invoke/VarHandle" ∧ (parseMethodDescriptor z.desc).map (fun d => d.parameters.length) = some n) (hn : As.length = n) (hf : fit zrm rm znL cs ss) (hst : st0 = As.reverse ++ .ref b :: rest) (hcat : (rest.map fun v => v.category).sum ≤ 8) (hdg : decode cc pc = .ok (.invokespecial idx, 3))
    (kk : TW X G nL Q (cs + zrm.cells) (ss + zrm.slots) M' (pc + 3) lv rest) : TW X G nL Q cs ss M pc lv st0 := by
  obtain ⟨p, l, e, R, s, m, args, below, meth, c⟩ := X
  intro H locs ls hP hS hl
  obtain ⟨⟨hx, hb, hml, hown, hts⟩, hK, rfl, hret, hlk, hbs, hnm, hfl⟩ := hC
  exact zt_run (va_runIN (As := As) (rest := rest) ⟨hx, hb, hml, hown, hts⟩ (hM l hfl) ⟨va_cnB n hts (TS_sub (TS_cons hcode)) rfl rfl rfl (hK.2.1 _ hlink) (hts _ hini) hd hf.1, hz, hts _ hinst⟩ ⟨PG_blind, fun U hU hW => ⟨rfl, by rw [hU]; exact hP, KK_warm hW hK⟩⟩ rfl hn hl.1 hst (lv_room hcat) hdg hf.2) hS hl kk
theorem zrecv_of {p : Program} {l : Launch} {e : Env} {R : Room} {s : State} {m : MethodId} {args : Array Value} {below : List Frame} {meth : Method} {c : Code} (hC : CX (p, l, e, R, s, m, args, below, meth, c) G y cc nL ret rm) {H : Heap} (hP : RP G M H) {b ci : Nat} {C : String} {T : u_T} {N : Nat} (ht : (M.1 b).1 = ci + 4) (hc : vwCl[ci]? = some (C, T, N)) : ∃ cellB : Cell, H[b]? = some cellB ∧ cellB.vm.isStatics = false ∧ s.vm.findClass C = some cellB.cls := by
  obtain ⟨hba, r, h1, cell, q1, q2, q3, q4⟩ := Cel_obj (hP.2.2 b) ht
  exact ⟨cell, q1, by rw [q3]; rfl, by rw [q2]; exact (hC.2.1.1.1 ci _ hc).2.1⟩
theorem zt_callV (hC : CX X G y cc nL ret rm) (n : Nat) {b ci : Nat} {C : String} {T : u_T} {N : Nat} (ht : (M.1 b).1 = ci + 4) (hc : vwCl[ci]? = some (C, T, N)) (hM : ∀ l : Launch, l.flags = flags0 → MT l G z zc znL zret zrm (.ref b :: As) M rv M') (hcls : z.cls = C) (hcode : Cond.code z zc znL zret ∈ TS) (hlink : Cond.methodLink y.cls idx z ∈ TS) (hinst : Cond.instanceMethod z ∈ TS) (hsel : Cond.selects C z z ∈ TS) (hini : Cond.initialized z.cls ∈ TS) (hd : z.cls ≠ "java/lang/invoke/MethodHandle" ∧ z.cls ≠ "java/lang/invoke/VarHandle" ∧ (parseMethodDescriptor z.desc).map (fun d => d.parameters.length) = some n) (hn : As.length = n) (hf : fit zrm rm znL cs ss) {st1 : List Value} (hst : st0 = As.reverse ++ .ref b :: rest) (hcat : (rest.map fun v => v.category).sum ≤ 8) (hst1 : rv.toList ++ rest = st1) (hdg : decode cc pc = .ok (.invokevirtual idx, 3))
    (kk : TW X G nL Q (cs + zrm.cells) (ss + zrm.slots) M' (pc + 3) lv st1) : TW X G nL Q cs ss M pc lv st0 := by
  subst hst1
  obtain ⟨p, l, e, R, s, m, args, below, meth, c⟩ := X
  intro H locs ls hP hS hl
  have hrc := zrecv_of hC hP ht hc
  obtain ⟨⟨hx, hb, hml, hown, hts⟩, hK, rfl, hret, hlk, hbs, hnm, hfl⟩ := hC
  refine zt_run (va_runV (As := As) (rest := rest) ⟨hx, hb, hml, hown, hts⟩ (hM l hfl) (cwV (C := C) n hts (TS_sub fun w hw => ?_) rfl rfl rfl ⟨hcls, hd⟩ hf.1) ⟨PG_blind, hrc, fun U hU hW => ⟨rfl, by rw [hU]; exact hP, KK_warm hW hK⟩⟩ rfl hn hl.1 hst (lv_room hcat) hdg hf.2) hS hl kk
  rcases List.mem_append.mp hw with h | h
  · rcases List.mem_cons.mp h with rfl | h
    · exact hlink
    · rcases List.mem_cons.mp h with rfl | h
      · exact hinst
      · rcases List.mem_cons.mp h with rfl | h
        · exact hsel
        · rcases List.mem_cons.mp h with rfl | h
          · rw [← hcls]; exact hini
          · cases h
  · exact TS_cons hcode w h
/-- the receiver's class picks z where x is named: x's own code is another's -/
theorem zt_callO (hC : CX X G y cc nL ret rm) (n : Nat) {b ci : Nat} {C : String} {T : u_T} {N : Nat} {x : MethodName} {owner : String} (ht : (M.1 b).1 = ci + 4) (hc : vwCl[ci]? = some (C, T, N)) (hM : ∀ l : Launch, l.flags = flags0 → MT l G z zc znL zret zrm (.ref b :: As) M rv M') (hcode : Cond.code z zc znL zret ∈ TS) (hlink : Cond.methodLink y.cls idx x ∈ TS) (hsm : Cond.sameMethod x.cls owner x.name x.desc ∈ TS) (hio : Cond.instanceMethod ⟨owner, x.name, x.desc⟩ ∈ TS) {b0 : ByteArray} {m0 : Nat} {r0 : Option FieldType} (h0 : Cond.code ⟨owner, x.name, x.desc⟩ b0 m0 r0 ∈ TS) (hsel : Cond.selects C x z ∈ TS) (hinst : Cond.instanceMethod z ∈ TS) (hini : Cond.initialized z.cls ∈ TS) (hd : owner ≠ "java/lang/invoke/MethodHandle" ∧ owner ≠ "java/lang/invoke/VarHandle" ∧ (parseMethodDescriptor x.desc).map (fun d => d.parameters.length) = some n) (hn : As.length = n) (hf : fit zrm rm znL cs ss) {st1 : List Value} (hst : st0 = As.reverse ++ .ref b :: rest) (hcat : (rest.map fun v => v.category).sum ≤ 8) (hst1 : rv.toList ++ rest = st1) (hdg : decode cc pc = .ok (.invokevirtual idx, 3))
    (kk : TW X G nL Q (cs + zrm.cells) (ss + zrm.slots) M' (pc + 3) lv st1) : TW X G nL Q cs ss M pc lv st0 := by
  subst hst1
  obtain ⟨p, l, e, R, s, m, args, below, meth, c⟩ := X
  intro H locs ls hP hS hl
  have hrc := zrecv_of hC hP ht hc
  obtain ⟨⟨hx, hb, hml, hown, hts⟩, hK, rfl, hret, hlk, hbs, hnm, hfl⟩ := hC
  refine zt_run (va_runU (As := As) (rest := rest) (C := C) ⟨hx, hb, hml, hown, hts⟩ (hM l hfl) (va_cwO (C := C) (owner := owner) (x := x) n hts (TS_sub fun w hw => ?_) rfl rfl rfl h0 hd hf.1) ⟨PG_blind, hrc, fun U hU hW => ⟨rfl, by rw [hU]; exact hP, KK_warm hW hK⟩⟩ rfl hn hl.1 hst (lv_room hcat) hdg hf.2) hS hl kk
  rcases List.mem_append.mp hw with h | h
  · rcases List.mem_cons.mp h with rfl | h
    · exact hlink
    · rcases List.mem_cons.mp h with rfl | h
      · exact hsm
      · rcases List.mem_cons.mp h with rfl | h
        · exact hio
        · rcases List.mem_cons.mp h with rfl | h
          · exact hsel
          · rcases List.mem_cons.mp h with rfl | h
            · exact hinst
            · rcases List.mem_cons.mp h with rfl | h
              · exact hini
              · cases h
  · exact TS_cons hcode w h
theorem zt_callSU (hC : CX X G y cc nL ret rm) (n : Nat) {b ci : Nat} {C : String} {T : u_T} {N : Nat} (ht : (M.1 b).1 = ci + 4) (hc : vwCl[ci]? = some (C, T, N)) (hM : ∀ l : Launch, l.flags = flags0 → MT l G z zc znL zret zrm (.ref b :: As) M rv M') (hcode : Cond.code z zc znL zret ∈ TS) (hlink : Cond.methodLink y.cls idx z ∈ TS) (hsm : Cond.sameMethod z.cls z.cls z.name z.desc ∈ TS) (hsup : Cond.superclass y.cls z.cls ∈ TS) (hinst : Cond.instanceMethod z ∈ TS) (hini : Cond.initialized z.cls ∈ TS) (hd : z.name ≠ "<init>" ∧ (parseMethodDescriptor z.desc).map (fun d => d.parameters.length) = some n) (hn : As.length = n) (hf : fit zrm rm znL cs ss) {st1 : List Value} (hst : st0 = As.reverse ++ .ref b :: rest) (hcat : (rest.map fun v => v.category).sum ≤ 8) (hst1 : rv.toList ++ rest = st1) (hdg : decode cc pc = .ok (.invokespecial idx, 3))
    (kk : TW X G nL Q (cs + zrm.cells) (ss + zrm.slots) M' (pc + 3) lv st1) : TW X G nL Q cs ss M pc lv st0 := by
  subst hst1
  obtain ⟨p, l, e, R, s, m, args, below, meth, c⟩ := X
  intro H locs ls hP hS hl
  have hrc := zrecv_of hC hP ht hc
  have hat := (hC.2.1.1.1 ci _ hc).2
  obtain ⟨⟨hx, hb, hml, hown, hts⟩, hK, rfl, hret, hlk, hbs, hnm, hfl⟩ := hC
  refine zt_run (va_runSU hat (As := As) (rest := rest) ⟨hx, hb, hml, hown, hts⟩ (hM l hfl) (va_cwSU n hts (TS_sub fun w hw => ?_) rfl rfl rfl hd hf.1) ⟨PG_blind, hrc, fun U hU hW => ⟨rfl, by rw [hU]; exact hP, KK_warm hW hK⟩⟩ rfl hn hl.1 hst (lv_room hcat) hdg hf.2) hS hl kk
  rcases List.mem_append.mp hw with h | h
  · rcases List.mem_cons.mp h with rfl | h
    · exact hlink
    · rcases List.mem_cons.mp h with rfl | h
      · exact hsm
      · rcases List.mem_cons.mp h with rfl | h
        · exact hsup
        · rcases List.mem_cons.mp h with rfl | h
          · exact hinst
          · rcases List.mem_cons.mp h with rfl | h
            · exact hini
            · cases h
  · exact TS_cons hcode w h
theorem zt_objI (hC : CX X G y cc nL ret rm) {b : Nat} (hlink : Cond.methodLink y.cls idx objectInit ∈ TS) (hinst : Cond.instanceMethod objectInit ∈ TS) (hcode : Cond.code objectInit ⟨#[0xb1]⟩ 1 none ∈ TS) (hst : st0 = .ref b :: rest) (hfr : 1 ≤ rm.frames) (hlo : (rest.map fun v => v.category).sum + 12 ≤ rm.locals) (hdg : decode cc pc = .ok (.invokespecial idx, 3))
    (kk : TW X G nL Q cs ss M (pc + 3) lv rest) : TW X G nL Q cs ss M pc lv st0 := by
  subst hst
  obtain ⟨p, l, e, R, s, m, args, below, meth, c⟩ := X
  intro H locs ls hP hS hl
  obtain ⟨⟨hx, hb, hml, hown, hts⟩, hK, rfl, hret, hlk, hbs, hnm, hfl⟩ := hC
  refine W.objInit hx hb hown (hts _ hlink) (hts _ hinst) (hts _ hcode) rfl (by rw [hml]; exact hl.1) rfl hdg hfr ?_ ?_
  · first | exact hlo | (simp only [F0, JFrame.monitorRoom]; omega)
  · exact kk H locs ls hP hS hl
theorem zt_newo {ρ : Type} {κ : Nat → Mm → Option ρ} {r : ρ} (hC : CX X G y cc nL ret rm) {ci : Nat} {C : String} {T : u_T} {N idx : Nat} (h : nwo (ci + 4) 0 M κ = some r) (hc : vwCl[ci]? = some (C, T, N)) (hcl : Cond.classLink y.cls idx C ∈ TS) (hinst : Cond.instantiable C N ∈ TS) (hini : Cond.initialized C ∈ TS) (h1 : cs + 1 ≤ rm.cells) (h2 : ss + N ≤ rm.slots) (hdg : decode cc pc = .ok (.new idx, 3))
    (kk : ∀ (a : Nat) (M' : Mm), κ a M' = some r → TW X G nL Q (cs + 1) (ss + N) M' (pc + 3) lv (.ref a :: st)) : TW X G nL Q cs ss M pc lv st := zt_new hC hc hcl hinst hini h1 h2 hdg (kk _ _ h)
theorem zt_newao {ρ : Type} {κ : Nat → Mm → Option ρ} {r : ρ} (hC : CX X G y cc nL ret rm) {n : Int32} {N : Nat} (h : nwo 1 N M κ = some r) (hw : Cond.arrayClass .int ∈ TS) (hn : ¬ n < 0) (hN : n.toNatClampNeg = N) (hby : N * 4 ≤ 536870912) (h1 : cs + 1 ≤ rm.cells) (h2 : ss + N ≤ rm.slots) (hdg : decode cc pc = .ok (.newarray .int, 2))
    (kk : ∀ (a : Nat) (M' : Mm), κ a M' = some r → TW X G nL Q (cs + 1) (ss + N) M' (pc + 2) lv (.ref a :: st)) : TW X G nL Q cs ss M pc lv (.int n :: st) := zt_newa hC hw hn hN hby h1 h2 hdg (kk _ _ h)
theorem zt_newqo {ρ : Type} {κ : Nat → Mm → Option ρ} {r : ρ} (hC : CX X G y cc nL ret rm) {n : Int32} {N idx : Nat} (h : nwo 3 N M κ = some r) (hcl : Cond.classLink y.cls idx RX7 ∈ TS) (hn : ¬ n < 0) (hN : n.toNatClampNeg = N) (hby : N * 4 ≤ 536870912) (h1 : cs + 1 ≤ rm.cells) (h2 : ss + N ≤ rm.slots) (hdg : decode cc pc = .ok (.anewarray idx, 3))
    (kk : ∀ (a : Nat) (M' : Mm), κ a M' = some r → TW X G nL Q (cs + 1) (ss + N) M' (pc + 3) lv (.ref a :: st)) : TW X G nL Q cs ss M pc lv (.int n :: st) := zt_newq hC hcl hn hN hby h1 h2 hdg (kk _ _ h)
end ROWS
theorem cl0 : vwCl[0]? = some (RX0, TX0, 1) := rfl
theorem cl1 : vwCl[1]? = some (RX1, TX1, 5) := rfl
theorem cl2 : vwCl[2]? = some (RX2, TX2, 1) := rfl
theorem cl3 : vwCl[3]? = some (RX3, TX3, 1) := rfl
theorem cl4 : vwCl[4]? = some (RX4, TX4, 1) := rfl
theorem cl5 : vwCl[5]? = some (RX5, TX5, 6) := rfl
theorem cl6 : vwCl[6]? = some (RX6, TX6, 1) := rfl
theorem cl7 : vwCl[7]? = some (RX7, TX7, 4) := rfl
theorem cl8 : vwCl[8]? = some (RX8, TX8, 1) := rfl
theorem cl9 : vwCl[9]? = some (RX9, TX9, 1) := rfl
theorem cl10 : vwCl[10]? = some (RX10, TX10, 18) := rfl
theorem cl11 : vwCl[11]? = some (RX11, TX11, 8) := rfl
theorem cl12 : vwCl[12]? = some (RX12, TX12, 19) := rfl
