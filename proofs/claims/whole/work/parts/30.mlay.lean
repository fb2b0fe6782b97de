/-! The model: a river is a row of ints; a memory whose row at 'a' is told by a function. -/
theorem sG_sG {M : Mm} {a : Nat} {g g' : Nat → Int32} : sG (sG M a g) a g' = sG M a g' := by
  simp only [sG, Prod.mk.injEq, true_and, and_true]
  funext b j
  simp only [upR]
  split <;> rfl
theorem sG_get {M : Mm} {a : Nat} : sG M a (M.2.1 a) = M := by
  obtain ⟨M1, M2, M3⟩ := M
  simp only [sG, Prod.mk.injEq, true_and, and_true]
  funext b j
  simp only [upR]
  split
  · subst_vars; rfl
  · rfl
theorem sI_sG {M : Mm} {a k : Nat} {g : Nat → Int32} {v : Int32} : sI (sG M a g) a k v = sG M a (upN g k v) := by
  simp only [sI, sG, Prod.mk.injEq, true_and, and_true]
  funext b j
  simp only [up2, upR, upN]
  split <;> rfl
theorem sI_sGo {M : Mm} {a o k : Nat} {g : Nat → Int32} {v : Int32} (h : o ≠ a) : sI (sG M a g) o k v = sG (sI M o k v) a g := by
  simp only [sI, sG, Prod.mk.injEq, true_and, and_true]
  funext b j
  simp only [up2, upR]
  by_cases h1 : b = a
  · subst h1
    simp only [if_true, if_neg (fun e => h e.symm : ¬ b = o)]
  · rw [if_neg h1]; simp only [if_neg h1]
theorem sG_i {M : Mm} {a : Nat} {g : Nat → Int32} : (sG M a g).2.1 a = g := by funext j; simp [sG, upR]
theorem sG_o {M : Mm} {a o : Nat} {g : Nat → Int32} (h : o ≠ a) : (sG M a g).2.1 o = M.2.1 o := by funext j; simp [sG, upR, h]
/-- an array's row of n ints -/
def AI (M : Mm) (a n : Nat) : Prop := M.1 a = (1, n)
section MLAY
variable {M : Mm} {a o n : Nat} {g : Nat → Int32} {ρ : Type} {N : Nat}
theorem m_ald (h : AI M a n) {j : Nat} (hj : j < n) (hn : n < 2 ^ 31) {κ : Int32 → Option ρ} : ald (sG M a g) a (nI j) κ = κ (g j) := by
  unfold AI at h
  have h1 : (sG M a g).1 a = (1, n) := h
  simp [ald, h1, inA_nI hj hn, sG_i, nIc (Nat.lt_trans hj hn)]
theorem m_ast (h : AI M a n) {j : Nat} {v : Int32} (hj : j < n) (hn : n < 2 ^ 31) {κ : Mm → Option ρ} : ast (sG M a g) a (nI j) v κ = κ (sG M a (upN g j v)) := by
  unfold AI at h
  have h1 : (sG M a g).1 a = (1, n) := h
  simp [ast, h1, inA_nI hj hn, sI_sG, nIc (Nat.lt_trans hj hn)]
theorem m_ck {c : Nat} (h : (M.1 o).1 = c + 4) {κ : Option ρ} : ck c (sG M a g) o κ = κ := if_pos h
theorem m_gI {c k : Nat} (h : (M.1 o).1 = c + 4) (ho : o ≠ a) {κ : Int32 → Option ρ} : gI c (sG M a g) o k κ = κ (M.2.1 o k) := by
  have h1 : ((sG M a g).1 o).1 = c + 4 := h
  unfold gI
  rw [if_pos h1, sG_o ho]
theorem m_pI {c k : Nat} {v : Int32} (h : (M.1 o).1 = c + 4) (ho : o ≠ a) {κ : Mm → Option ρ} : pI c (sG M a g) o k v κ = κ (sG (sI M o k v) a g) := by
  have h1 : ((sG M a g).1 o).1 = c + 4 := h
  unfold pI
  rw [if_pos h1, sI_sGo ho]
end MLAY
/-- the place of a boat's, a sort's, a queue's number -/
theorem iB (x w : Nat) : (50 : Int32) + 12 * nI x + nI w = nI (50 + 12 * x + w) := by
  rw [show (50 : Int32) = nI 50 from rfl, show (12 : Int32) = nI 12 from rfl, pk_mul, nI_add, nI_add]
theorem iS (t w : Nat) : (25 : Int32) + 5 * nI t + nI w = nI (25 + 5 * t + w) := by
  rw [show (25 : Int32) = nI 25 from rfl, show (5 : Int32) = nI 5 from rfl, pk_mul, nI_add, nI_add]
theorem iQ (l : Nat) : (74 : Int32) + 25 * nI l = nI (74 + 25 * l) := by
  rw [show (74 : Int32) = nI 74 from rfl, show (25 : Int32) = nI 25 from rfl, pk_mul, nI_add]
theorem iW (a b : Nat) : (9 : Int32) + 4 * nI a + nI b = nI (9 + 4 * a + b) := by
  rw [show (9 : Int32) = nI 9 from rfl, show (4 : Int32) = nI 4 from rfl, pk_mul, nI_add, nI_add]
def oM (o : Option Nat) : Int32 := match o with
  | none => -4
  | some t => nI t
def KB (v : Nat × Nat × List Nat) (R : Nat × Nat) (c : Nat) (g : Nat → Int32) : Prop :=
  g c = (if v.2.1 = 0 then nI v.1 else -4) ∧ g (c + 1) = (if v.2.1 = 0 then -4 else nI v.1) ∧ g (c + 2) = nI v.2.1 ∧ g (c + 3) = nI v.2.2.length ∧ g (c + 4) = nI R.1 ∧ g (c + 5) = nI R.2 ∧ ∀ j t, v.2.2[j]? = some t → g (c + 6 + j) = nI t
def KQ (q : List (Nat × Nat)) (mn c : Nat) (g : Nat → Int32) : Prop :=
  g c = nI q.length ∧ ∀ j p, q[j]? = some p → g (c + 1 + j) = nI p.1 ∧ g (c + 13 + j) = nI (mn - p.2)
def KRel (D : Nat → Nat) (S : SP) (g : Nat → Int32) : Prop :=
  (g 0 = nI (sn S 0) ∧ g 1 = nI (sn S 1) ∧ g 2 = nI (sn S 2) ∧ g 3 = nI (sn S 3)) ∧
  (g 4 = sc S 0 ∧ g 5 = sc S 1 ∧ g 6 = sc S 2 ∧ g 7 = sc S 3 ∧ g 8 = sc S 4) ∧
  (∀ i, i < 16 → g (9 + i) = nI (sy S i)) ∧ (∀ t k, t < sn S 1 → k < 5 → g (25 + 5 * t + k) = nI (sf S t k)) ∧
  (∀ x, x < sn S 4 → KB (sB S x) (sK S x) (50 + 12 * x) g) ∧ (∀ l, l < 4 → KQ (sQ S l) (sn S 3 + D l) (74 + 25 * l) g)
theorem KB_of {v : Nat × Nat × List Nat} {R : Nat × Nat} {c : Nat} {g g' : Nat → Int32} (h : KB v R c g) (h6 : v.2.2.length ≤ 6) (he : ∀ j, c ≤ j → j < c + 12 → g' j = g j) : KB v R c g' := by
  obtain ⟨a1, a2, a3, a4, a5, a6, a7⟩ := h
  refine ⟨?_, ?_, ?_, ?_, ?_, ?_, fun j t hj => ?_⟩
  · rw [he _ (by omega) (by omega)]; exact a1
  · rw [he _ (by omega) (by omega)]; exact a2
  · rw [he _ (by omega) (by omega)]; exact a3
  · rw [he _ (by omega) (by omega)]; exact a4
  · rw [he _ (by omega) (by omega)]; exact a5
  · rw [he _ (by omega) (by omega)]; exact a6
  · have := gE hj
    rw [he _ (by omega) (by omega)]; exact a7 j t hj
theorem KQ_of {q : List (Nat × Nat)} {mn c : Nat} {g g' : Nat → Int32} (h : KQ q mn c g) (h12 : q.length ≤ 12) (he : ∀ j, c ≤ j → j < c + 25 → g' j = g j) : KQ q mn c g' := by
  obtain ⟨a1, a2⟩ := h
  refine ⟨by rw [he _ (by omega) (by omega)]; exact a1, fun j p hj => ?_⟩
  have := gE hj
  rw [he _ (by omega) (by omega), he _ (by omega) (by omega)]
  exact a2 j p hj
section MSMALL
variable {M : Mm} {a : Nat} {g : Nat → Int32} {N : Nat} {S : SP} {D : Nat → Nat}
theorem m_boatOf (h : AI M a 174) {x : Nat} (i : Int32) (w : Nat) (hi : i = nI w) (hx : x < 2) (hw : w < 12) : f_X12_boatOf N a (nI x) i (sG M a g) = some (g (50 + 12 * x + w), sG M a g) := by
  unfold f_X12_boatOf
  rw [hi, iB, m_ald h (by omega) (by decide)]
theorem m_sets (h : AI M a 174) {x : Nat} {v : Int32} (i : Int32) (w : Nat) (hi : i = nI w) (hx : x < 2) (hw : w < 12) : f_X12_sets N a (nI x) i v (sG M a g) = some ((), sG M a (upN g (50 + 12 * x + w) v)) := by
  unfold f_X12_sets
  rw [hi, iB, m_ast h (by omega) (by decide)]
theorem m_get (h : AI M a 174) {t : Nat} (i : Int32) (w : Nat) (hi : i = nI w) (ht : t < 5) (hw : w < 5) : f_X12_get N a (nI t) i (sG M a g) = some (g (25 + 5 * t + w), sG M a g) := by
  unfold f_X12_get
  rw [hi, iS, m_ald h (by omega) (by decide)]
theorem m_standing (h : AI M a 174) {l : Nat} (hl : l < 4) : f_X12_standing N a (nI l) (sG M a g) = some (g (74 + 25 * l), sG M a g) := by
  unfold f_X12_standing
  rw [iQ, m_ald h (by omega) (by decide)]
theorem m_sinceOf (h : AI M a 174) {l j : Nat} (hl : l < 4) (hj : j < 12) : f_X12_sinceOf N a (nI l) (nI j) (sG M a g) = some (g (74 + 25 * l + 13 + j), sG M a g) := by
  unfold f_X12_sinceOf
  rw [iQ, show (13 : Int32) = nI 13 from rfl, nI_add, nI_add, m_ald h (by omega) (by decide)]
theorem m_isAt (h : AI M a 174) {x : Nat} (hx : x < sn S 4) (wf : WF S) (hk : KRel D S g) : f_X12_isAt N a (nI x) (sG M a g) = some (b32 ((sB S x).2.1 = 0), sG M a g) := by
  have h2 := wf.1.2.2.2.2.1.2
  have h1 := (hk.2.2.2.2.1 x hx).1
  have w1 := (wf.2.1 x hx).1
  have hL := wf.1.1
  unfold f_X12_isAt b32
  rw [m_boatOf h 0 0 rfl (by omega) (by decide), bnd_one, Nat.add_zero, h1]
  by_cases hz : (sB S x).2.1 = 0
  · rw [if_pos hz, if_neg (nI_neg (by omega)), if_pos hz]
  · rw [if_neg hz, if_pos (by decide), if_neg hz]
theorem m_sort (hk : KRel D S g) {t w : Nat} (ht : t < sn S 1) (hw : w < 5) : g (25 + 5 * t + w) = nI (sf S t w) := hk.2.2.2.1 t w ht hw
end MSMALL
