/-! The model's cells, all told by one record; what holds of it between calls. -/
def mc (b p : Nat) : Nat := b + 104 + p
def MW (b : Nat) (M : Mm) (r : Nat → Nat → Int32) : Mm := (M.1, fun a j => if b + 104 ≤ a ∧ a < b + 116 then r (a - (b + 104)) j else M.2.1 a j, M.2.2)
def gM (b : Nat) (M : Mm) : Nat → Nat → Int32 := fun p j => M.2.1 (mc b p) j
def lM (p : Nat) : Nat := match p with | 1 => 174 | 2 => 174 | 3 => 174 | 4 => 174 | 5 => 8 | 6 => 8 | 7 => 8 | 8 => 800 | 9 => 8 | 10 => 8 | 11 => 5 | _ => 0
def refsM : List (Nat × Nat) := [(0, 1), (1, 2), (2, 3), (3, 4), (4, 5), (5, 6), (6, 7), (7, 8), (8, 9), (9, 10), (16, 11)]
def MLAY (b : Nat) (M : Mm) : Prop := (M.1 (mc b 0)).1 = 16 ∧ (∀ p, 1 ≤ p → p < 12 → M.1 (mc b p) = (1, lM p)) ∧ ∀ q ∈ refsM, M.2.2.2.1 (mc b 0) q.1 = some (mc b q.2)
section MWS
variable {b : Nat} {M : Mm} {r : Nat → Nat → Int32} {ρ : Type} {N : Nat}
theorem MW_i {p : Nat} (hp : p < 12) : (MW b M r).2.1 (mc b p) = r p := by
  funext j
  show (if b + 104 ≤ b + 104 + p ∧ b + 104 + p < b + 116 then r (b + 104 + p - (b + 104)) j else _) = _
  rw [if_pos ⟨by omega, by omega⟩, show b + 104 + p - (b + 104) = p by omega]
theorem MW_o {a : Nat} (ha : a < b + 104 ∨ b + 116 ≤ a) : (MW b M r).2.1 a = M.2.1 a := by
  funext j
  exact if_neg (by omega)
theorem MW_get : MW b M (gM b M) = M := by
  obtain ⟨M1, M2, M3⟩ := M
  simp only [MW, gM, Prod.mk.injEq, true_and, and_true]
  funext a j
  split
  · rename_i h
    have : mc b (a - (b + 104)) = a := by unfold mc; omega
    rw [this]
  · rfl
theorem MW_MW {r' : Nat → Nat → Int32} : MW b (MW b M r) r' = MW b M r' := by
  simp only [MW, Prod.mk.injEq, true_and, and_true]
  funext a j
  split <;> rfl
theorem sG_MW {p : Nat} (hp : p < 12) {g : Nat → Int32} : sG (MW b M r) (mc b p) g = MW b M (upR r p g) := by
  simp only [sG, MW, Prod.mk.injEq, true_and, and_true]
  funext a j
  simp only [upR]
  by_cases h : a = mc b p
  · subst h
    rw [if_pos rfl, if_pos (by unfold mc; omega), if_pos (by unfold mc; omega)]
  · rw [if_neg h]
    by_cases h2 : b + 104 ≤ a ∧ a < b + 116
    · rw [if_pos h2, if_pos h2, if_neg (by unfold mc at h; omega)]
    · rw [if_neg h2, if_neg h2]
theorem sI_MW {p : Nat} (hp : p < 12) {k : Nat} {v : Int32} : sI (MW b M r) (mc b p) k v = MW b M (up2 r p k v) := by
  simp only [sI, MW, Prod.mk.injEq, true_and, and_true]
  funext a j
  simp only [up2]
  by_cases h : a = mc b p
  · subst h
    rw [if_pos rfl, if_pos (show b + 104 ≤ mc b p ∧ mc b p < b + 116 by unfold mc; omega), if_pos (show b + 104 ≤ mc b p ∧ mc b p < b + 116 by unfold mc; omega), if_pos (show mc b p - (b + 104) = p by unfold mc; omega), show mc b p - (b + 104) = p by unfold mc; omega]
  · rw [if_neg h]
    by_cases h2 : b + 104 ≤ a ∧ a < b + 116
    · rw [if_pos h2, if_pos h2, if_neg (by unfold mc at h; omega)]
    · rw [if_neg h2, if_neg h2]
theorem MW_as {p : Nat} (hp : p < 12) : MW b M r = sG (MW b M r) (mc b p) (r p) := by
  rw [sG_MW hp]
  congr 1
  funext a j
  simp only [upR]
  split
  · subst_vars; rfl
  · rfl
theorem n_gR (h : MLAY b M) {k p : Nat} (hq : (k, p) ∈ refsM) {κ : Nat → Option ρ} : gR 12 (MW b M r) (mc b 0) k κ = κ (mc b p) := by
  have h1 : ((MW b M r).1 (mc b 0)).1 = 16 := h.1
  have h2 : (MW b M r).2.2.2.1 (mc b 0) k = some (mc b p) := h.2.2 _ hq
  unfold gR
  rw [if_pos h1, h2]
  rfl
theorem n_ck (h : MLAY b M) {κ : Option ρ} : ck 12 (MW b M r) (mc b 0) κ = κ := if_pos h.1
theorem n_gI (h : MLAY b M) {k : Nat} {κ : Int32 → Option ρ} : gI 12 (MW b M r) (mc b 0) k κ = κ (r 0 k) := by
  have h1 : ((MW b M r).1 (mc b 0)).1 = 16 := h.1
  unfold gI
  rw [if_pos h1, MW_i (by decide)]
theorem n_pI (h : MLAY b M) {k : Nat} {v : Int32} {κ : Mm → Option ρ} : pI 12 (MW b M r) (mc b 0) k v κ = κ (MW b M (up2 r 0 k v)) := by
  have h1 : ((MW b M r).1 (mc b 0)).1 = 16 := h.1
  unfold pI
  rw [if_pos h1, sI_MW (by decide)]
theorem n_pZ (h : MLAY b M) {k : Nat} {v : Int32} (hv : v = 0 ∨ v = 1) {κ : Mm → Option ρ} : pZ 12 (MW b M r) (mc b 0) k v κ = κ (MW b M (up2 r 0 k v)) := by
  have h1 : ((MW b M r).1 (mc b 0)).1 = 16 := h.1
  unfold pZ
  rw [if_pos ⟨h1, hv⟩, sI_MW (by decide)]
theorem lM_lt (p : Nat) : lM p < 2 ^ 31 := by
  unfold lM
  split <;> decide
theorem n_ald (h : MLAY b M) {p j : Nat} (h1 : 1 ≤ p) (hp : p < 12) (hj : j < lM p) {κ : Int32 → Option ρ} : ald (MW b M r) (mc b p) (nI j) κ = κ (r p j) := by
  rw [MW_as hp, m_ald (M := MW b M r) (n := lM p) (h.2.1 p h1 hp) hj (lM_lt p)]
theorem n_ast (h : MLAY b M) {p j : Nat} {v : Int32} (h1 : 1 ≤ p) (hp : p < 12) (hj : j < lM p) {κ : Mm → Option ρ} : ast (MW b M r) (mc b p) (nI j) v κ = κ (MW b M (up2 r p j v)) := by
  rw [MW_as hp, m_ast (M := MW b M r) (n := lM p) (h.2.1 p h1 hp) hj (lM_lt p), sG_MW hp]
  congr 2
  funext a i
  simp only [upR, up2, upN]
  split
  · subst_vars; rfl
  · rfl
theorem AI_MW (h : MLAY b M) {p : Nat} (h1 : 1 ≤ p) (hp : p < 5) : AI (MW b M r) (mc b p) 174 := by
  have := h.2.1 p h1 (by omega)
  rcases (show p = 1 ∨ p = 2 ∨ p = 3 ∨ p = 4 by omega) with rfl | rfl | rfl | rfl <;> exact this
-- numbers between bounds
theorem i64_lt (x y : Int32) : x.toInt64 < y.toInt64 ↔ x < y := by
  rw [Int64.lt_iff_toInt_lt, Int32.lt_iff_toInt_lt, Int32.toInt_toInt64, Int32.toInt_toInt64]
theorem m_isIn {M : Mm} (x lo hi : Int32) (lo' hi' : Int64) (h1 : lo' = lo.toInt64) (h2 : hi' = hi.toInt64) : f_X12_isIn N (Int32.toInt64 x) lo' hi' M = some (b32 (lo ≤ x ∧ x ≤ hi), M) := by
  unfold f_X12_isIn b32
  rw [h1, h2]
  by_cases c1 : x < lo
  · rw [if_pos ((lg_cmp_lt _ _).mpr ((i64_lt _ _).mpr c1)), if_neg (fun q => absurd c1 (Int32.not_lt.mpr q.1))]
  · rw [if_neg (fun q => c1 ((i64_lt _ _).mp ((lg_cmp_lt _ _).mp q)))]
    by_cases c2 : hi < x
    · rw [if_pos ((lg_cmp_gt _ _).mpr ((i64_lt _ _).mpr c2)), if_neg (fun q => absurd c2 (Int32.not_lt.mpr q.2))]
    · rw [if_neg (fun q => c2 ((i64_lt _ _).mp ((lg_cmp_gt _ _).mp q))), if_pos ⟨Int32.not_lt.mp c1, Int32.not_lt.mp c2⟩]
theorem b32_01 {p : Prop} [Decidable p] : b32 p = 0 ∨ b32 p = 1 := by
  unfold b32
  split
  · exact Or.inr rfl
  · exact Or.inl rfl
theorem le_iff_predlt {x : Int32} {n : Nat} (h1 : 1 ≤ n) (hn : n < 2 ^ 30) : x ≤ nI n - 1 ↔ x < nI n := by
  have e : nI n - 1 = nI (n - 1) := by rw [show (1 : Int32) = nI 1 from rfl, pk_sub h1]
  rw [e, Int32.le_iff_toInt_le, Int32.lt_iff_toInt_lt, nI_toInt (by omega), nI_toInt (by omega)]
  omega
theorem m_isLanding (h : MLAY b M) {S : SP} {D : Nat → Nat} (hk : KRel D S (r 1)) (wf : WF S) {x : Int32} : f_X12_isLanding N (mc b 0) x (MW b M r) = some (b32 (0 ≤ x ∧ x < nI (sn S 0)), MW b M r) := by
  have hL := wf.1.1
  unfold f_X12_isLanding
  rw [n_gR h (p := 1) (by decide), show ald (ρ := Int32 × Mm) (MW b M r) (mc b 1) 0 = ald (MW b M r) (mc b 1) (nI 0) from rfl, n_ald h (by decide) (by decide) (by decide), hk.1.1, m_isIn x 0 (nI (sn S 0) - 1) 0 _ rfl rfl, bnd_one]
  rw [show rq (ρ := Int32 × Mm) (b32 (0 ≤ x ∧ x ≤ nI (sn S 0) - 1) = 0 ∨ b32 (0 ≤ x ∧ x ≤ nI (sn S 0) - 1) = 1) (some (b32 (0 ≤ x ∧ x ≤ nI (sn S 0) - 1), MW b M r)) = some (b32 (0 ≤ x ∧ x ≤ nI (sn S 0) - 1), MW b M r) from if_pos b32_01]
  have := le_iff_predlt (x := x) (n := sn S 0) (by omega) (by omega)
  simp only [b32, this]
theorem m_isSort (h : MLAY b M) {S : SP} {D : Nat → Nat} (hk : KRel D S (r 1)) (wf : WF S) {x : Int32} : f_X12_isSort N (mc b 0) x (MW b M r) = some (b32 (0 ≤ x ∧ x < nI (sn S 1)), MW b M r) := by
  have h5 := wf.1.2.1
  unfold f_X12_isSort
  rw [n_gR h (p := 1) (by decide), show ald (ρ := Int32 × Mm) (MW b M r) (mc b 1) 1 = ald (MW b M r) (mc b 1) (nI 1) from rfl, n_ald h (by decide) (by decide) (by decide), hk.1.2.1, m_isIn x 0 (nI (sn S 1) - 1) 0 _ rfl rfl, bnd_one]
  rw [show rq (ρ := Int32 × Mm) (b32 (0 ≤ x ∧ x ≤ nI (sn S 1) - 1) = 0 ∨ b32 (0 ≤ x ∧ x ≤ nI (sn S 1) - 1) = 1) (some (b32 (0 ≤ x ∧ x ≤ nI (sn S 1) - 1), MW b M r)) = some (b32 (0 ≤ x ∧ x ≤ nI (sn S 1) - 1), MW b M r) from if_pos b32_01]
  congr 2
  unfold b32
  congr 1
  apply propext
  by_cases hz : sn S 1 = 0
  · rw [hz]
    constructor
    · rintro ⟨q1, q2⟩
      exact absurd (Int32.le_trans q1 q2) (by decide)
    · rintro ⟨q1, q2⟩
      rw [nI_0] at q2
      exact absurd q2 (Int32.not_lt.mpr q1)
  · rw [le_iff_predlt (by omega) (by omega)]
theorem m_isShelf {M : Mm} {x : Int32} : f_X12_isShelf N x M = some (b32 (0 ≤ x ∧ x ≤ 7), M) := by
  unfold f_X12_isShelf
  rw [m_isIn x 0 7 0 7 rfl rfl, bnd_one]
  exact if_pos b32_01
theorem m_isDay {M : Mm} {x : Int32} : f_X12_isDay N x M = some (b32 (1 ≤ x ∧ x ≤ 120), M) := by
  unfold f_X12_isDay
  rw [m_isIn x 1 120 1 120 rfl rfl, bnd_one]
  exact if_pos b32_01
end MWS
def SHm (r : Nat → Nat → Int32) (d : Nat) (v : SV) : Prop :=
  (v.1 = 0 ∧ r 5 d = 0) ∨ (v.1 = 1 ∧ r 5 d = 1 ∧ r 9 d = nI v.2.1 ∧ r 10 d = nI v.2.2.1 ∧ v.2.1 < 7 ∧ v.2.2.1 < 10) ∨
  (v.1 = 2 ∧ r 5 d = 2 ∧ r 6 d = nI v.2.1 ∧ r 7 d = nI v.2.2.1 ∧ v.2.1 < 3 ∧ v.2.2.1 ≤ 100 ∧ ∀ i, i < 100 → r 8 (100 * d + i) = v.2.2.2 i)
def MDR (S : SP) (pic : Option SP) (sh : Nat → SV) (r : Nat → Nat → Int32) : Prop :=
  KRel K0 S (r 1) ∧ (∀ P, pic = some P → KRel K0 P (r 2)) ∧ r 0 10 = b32 (pic.isSome = true) ∧ r 0 18 = 0 ∧ ∀ d, d < 8 → SHm r d (sh d)
