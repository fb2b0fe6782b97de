/-! The class' worlds: reads, and what small methods answer. -/
theorem bnd_one {α ρ : Type} {a : α} {M : Mm} {κ : α → Mm → Option ρ} : bnd (some (a, M)) κ = κ a M := rfl
theorem nIc {n : Nat} (h : n < 2 ^ 31) : (nI n).toNatClampNeg = n := nI_clamp h
theorem nI_neg {n : Nat} (h : n < 2 ^ 31) : ¬ nI n < 0 := nI_pos h
theorem nI_z {n : Nat} (h : n < 2 ^ 31) : nI n = 0 ↔ n = 0 := by
  have := nI_eq (a := n) (b := 0) h (by decide)
  rwa [nI_0] at this
theorem nI_le0 {n : Nat} (h : n < 2 ^ 31) : nI n ≤ 0 ↔ n = 0 := by
  have := nI_leI (a := n) (b := 0) h (by decide)
  rw [nI_0] at this
  rw [this]; omega
theorem nI_0lt {n : Nat} (h : n < 2 ^ 31) : 0 < nI n ↔ 0 < n := by
  have := nI_ltI (a := 0) (b := n) (by decide) h
  rwa [nI_0] at this
theorem inA_nI {n m : Nat} (h : n < m) (hm : m < 2 ^ 31) : inA (nI n) m = true := by
  simp only [inA, Bool.not_eq_true', Bool.or_eq_false_iff, decide_eq_false_iff_not, nIc (Nat.lt_trans h hm)]
  exact ⟨nI_neg (Nat.lt_trans h hm), Nat.not_le.mpr h⟩
/-- a guarded read, a guarded write -/
def rd (n : Nat) (f : Nat → Int32) (i : Int32) : Int32 := if i < 0 then 0 else if nI n ≤ i then 0 else f i.toNatClampNeg
theorem rd_nI {n : Nat} {f : Nat → Int32} {j : Nat} (h : j < n) (hn : n < 2 ^ 31) : rd n f (nI j) = f j := by
  unfold rd
  rw [if_neg (nI_neg (Nat.lt_trans h hn)), if_neg (nI_ge h hn), nIc (Nat.lt_trans h hn)]
def wrt (n : Nat) (r : WR) (l : Nat) (i v : Int32) : WR := if i < 0 then r else if nI n ≤ i then r else (up2 r.1 l i.toNatClampNeg v, r.2)
theorem wrt_nI {n : Nat} {r : WR} {l j : Nat} {v : Int32} (h : j < n) (hn : n < 2 ^ 31) : wrt n r l (nI j) v = (up2 r.1 l j v, r.2) := by
  unfold wrt
  rw [if_neg (nI_neg (Nat.lt_trans h hn)), if_neg (nI_ge h hn), nIc (Nat.lt_trans h hn)]
theorem inA_of {i : Int32} {n : Nat} (h0 : ¬ i < 0) (h1 : ¬ nI n ≤ i) (hn : n < 2 ^ 31) : inA i n = true := by
  obtain ⟨j, hj, rfl⟩ := nI_of h0
  have : j < n := by
    rcases Nat.lt_or_ge j n with q | q
    · exact q
    · exact absurd (nI_le q hj) h1
  exact inA_nI this hn
section CLS
variable {b : Nat} {M : Mm} {w : Nat} {r : WR} {N : Nat}
theorem kW_lt (l : Nat) : (kW l).2 < 2 ^ 31 := by
  unfold kW
  split <;> decide
theorem e_at (h : LAY b M) (hw : w < 7) {l : Nat} (hl : l ∈ oks) (hk : (kW l).1 = 1) {i : Int32} : f_X11_at N (wA b w l) i (SW b M w r) = some (rd (kW l).2 (r.1 l) i, SW b M w r) := by
  unfold f_X11_at rd
  by_cases h0 : i < 0
  · rw [if_pos h0, if_pos h0]
  · rw [if_neg h0, if_neg h0, q_alen h hw hl hk]
    by_cases h1 : nI (kW l).2 ≤ i
    · rw [if_pos h1, if_pos h1]
    · rw [if_neg h1, if_neg h1, q_ald h hw hl hk (inA_of h0 h1 (kW_lt l))]
theorem e_change (h : LAY b M) (hw : w < 7) {l : Nat} (hl : l ∈ oks) (hk : (kW l).1 = 1) {i v : Int32} : f_X11_change N (wA b w l) i v (SW b M w r) = some ((), SW b M w (wrt (kW l).2 r l i v)) := by
  unfold f_X11_change wrt
  by_cases h0 : i < 0
  · rw [if_pos h0, if_pos h0]
  · rw [if_neg h0, if_neg h0, q_alen h hw hl hk]
    by_cases h1 : nI (kW l).2 ≤ i
    · rw [if_pos h1, if_pos h1]
    · rw [if_neg h1, if_neg h1, q_ast h hw hl hk (inA_of h0 h1 (kW_lt l))]
theorem e_ofSort (h : LAY b M) (hw : w < 7) {s k : Int32} : f_X10_ofSort N (wA b w 0) s k (SW b M w r) = some (rd 25 (r.1 2) (s * 5 + k), SW b M w r) := by
  unfold f_X10_ofSort rd
  by_cases h0 : s * 5 + k < 0
  · rw [if_pos h0, if_pos h0]
  · rw [if_neg h0, if_neg h0, q_gR h hw (l := 2) (by decide), q_alen h hw (l := 2) (by decide) rfl, show nI (kW 2).2 = nI 25 from rfl]
    by_cases h1 : nI 25 ≤ s * 5 + k
    · rw [if_pos h1, if_pos h1]
    · rw [if_neg h1, if_neg h1, q_gR h hw (l := 2) (by decide), q_ald h hw (l := 2) (by decide) rfl (inA_of h0 h1 (kW_lt 2))]
theorem e_standingAt (h : LAY b M) (hw : w < 7) {l : Int32} : f_X10_standingAt N (wA b w 0) l (SW b M w r) = some (rd 4 (r.1 9) l, SW b M w r) := by
  unfold f_X10_standingAt rd
  by_cases h0 : l < 0
  · rw [if_pos h0, if_pos h0]
  · rw [if_neg h0, if_neg h0, q_gR h hw (l := 9) (by decide), q_alen h hw (l := 9) (by decide) rfl, show nI (kW 9).2 = nI 4 from rfl]
    by_cases h1 : nI 4 ≤ l
    · rw [if_pos h1, if_pos h1]
    · rw [if_neg h1, if_neg h1, q_gR h hw (l := 9) (by decide), q_ald h hw (l := 9) (by decide) rfl (inA_of h0 h1 (kW_lt 9))]
def b32 (p : Prop) [Decidable p] : Int32 := if p then 1 else 0
theorem b32_0 {p : Prop} [Decidable p] : b32 p = 0 ↔ ¬ p := by unfold b32; split <;> simp [*]
theorem b32_if {ρ : Type} {p : Prop} [Decidable p] {A B : ρ} : (if b32 p = 0 then A else B) = (if p then B else A) := by
  by_cases hp : p <;> simp [b32, hp]
theorem e_hasLanding (h : LAY b M) (hw : w < 7) {l : Int32} : f_X10_hasLanding N (wA b w 0) l (SW b M w r) = some (b32 (0 ≤ l ∧ l < r.1 0 0), SW b M w r) := by
  unfold f_X10_hasLanding b32
  by_cases h0 : l < 0
  · rw [if_pos h0, if_neg (fun q => absurd h0 (Int32.not_lt.mpr q.1))]
  · rw [if_neg h0, q_gI h hw]
    by_cases h1 : r.1 0 0 ≤ l
    · rw [if_pos h1, if_neg (fun q => absurd q.2 (Int32.not_lt.mpr h1))]
    · rw [if_neg h1, if_pos ⟨Int32.not_lt.mp h0, Int32.not_le.mp h1⟩]
theorem e_hasSort (h : LAY b M) (hw : w < 7) {l : Int32} : f_X10_hasSort N (wA b w 0) l (SW b M w r) = some (b32 (0 ≤ l ∧ l < r.1 0 2), SW b M w r) := by
  unfold f_X10_hasSort b32
  by_cases h0 : l < 0
  · rw [if_pos h0, if_neg (fun q => absurd h0 (Int32.not_lt.mpr q.1))]
  · rw [if_neg h0, q_gI h hw]
    by_cases h1 : r.1 0 2 ≤ l
    · rw [if_pos h1, if_neg (fun q => absurd q.2 (Int32.not_lt.mpr h1))]
    · rw [if_neg h1, if_pos ⟨Int32.not_lt.mp h0, Int32.not_le.mp h1⟩]
theorem e_way (h : LAY b M) (hw : w < 7) {i j : Int32} : f_X10_way N (wA b w 0) i j (SW b M w r) = some (rd 16 (r.1 1) (i * 4 + j), SW b M w r) := by
  unfold f_X10_way
  rw [q_gR h hw (l := 1) (by decide), e_at h hw (by decide) rfl]
  rfl
theorem e_whoStands (h : LAY b M) (hw : w < 7) {i j : Int32} : f_X10_whoStands N (wA b w 0) i j (SW b M w r) = some (rd 48 (r.1 10) (i * 12 + j), SW b M w r) := by
  unfold f_X10_whoStands
  rw [q_gR h hw (l := 10) (by decide), e_at h hw (by decide) rfl]
  rfl
theorem e_sinceStands (h : LAY b M) (hw : w < 7) {i j : Int32} : f_X10_sinceStands N (wA b w 0) i j (SW b M w r) = some (r.1 0 6 + rd 25 (r.1 2) (rd 48 (r.1 10) (i * 12 + j) * 5 + 3) - rd 48 (r.1 11) (i * 12 + j), SW b M w r) := by
  unfold f_X10_sinceStands
  rw [q_gI h hw, q_gR h hw (l := 10) (by decide), e_at h hw (by decide) rfl, bnd_one, q_ck h hw, e_ofSort h hw, bnd_one, q_gR h hw (l := 11) (by decide), e_at h hw (by decide) rfl, bnd_one]
  rfl
theorem e_gain (h : LAY b M) (hw : w < 7) : f_X10_gain N (wA b w 0) (SW b M w r) = some (r.1 0 15 - r.1 0 13, SW b M w r) := by
  unfold f_X10_gain
  rw [q_gI h hw, q_gI h hw]
theorem e_figureOf (h : LAY b M) (hw : w < 7) {k : Int32} : f_X10_figureOf N (wA b w 0) k (SW b M w r) = some (if k = 0 then r.1 0 13 else if k = 1 then r.1 0 14 else if k = 2 then r.1 0 15 else if k = 3 then r.1 0 16 else -1, SW b M w r) := by
  unfold f_X10_figureOf
  repeat (first | rw [q_gI h hw] | split | rfl)
/-- ints that are small naturals: sums and products -/
theorem nIm4 (a : Nat) : nI a * 4 = nI (a * 4) := pk_mul a 4
theorem nIm5 (a : Nat) : nI a * 5 = nI (a * 5) := pk_mul a 5
theorem nIm12 (a : Nat) : nI a * 12 = nI (a * 12) := pk_mul a 12
theorem k_at (h : LAY b M) (hw : w < 7) {l n j : Nat} (hl : l ∈ oks) (hk : kW l = (1, n)) (hj : j < n) : f_X11_at N (wA b w l) (nI j) (SW b M w r) = some (r.1 l j, SW b M w r) := by
  have hn : n < 2 ^ 31 := by have := kW_lt l; rwa [hk] at this
  rw [e_at h hw hl (by rw [hk]), hk, rd_nI hj hn]
theorem k_change (h : LAY b M) (hw : w < 7) {l n j : Nat} {v : Int32} (hl : l ∈ oks) (hk : kW l = (1, n)) (hj : j < n) : f_X11_change N (wA b w l) (nI j) v (SW b M w r) = some ((), SW b M w (up2 r.1 l j v, r.2)) := by
  have hn : n < 2 ^ 31 := by have := kW_lt l; rwa [hk] at this
  rw [e_change h hw hl (by rw [hk]), hk, wrt_nI hj hn]
theorem rule_no (h : LAY b M) (hw : w < 7) {q kd fg : Nat} (hq : isRl M q kd fg) : ∀ l ∈ oks, q ≠ wA b w l := by
  intro l hl e
  have h1 := (h w hw).1 l hl
  have h2 := hq.1
  rw [e, h1] at h2
  obtain ⟨-, -, hk, -⟩ := hq
  have : ∀ l ∈ oks, ∀ k, k < 7 → (kW l).1 ≠ rtag k := by decide
  exact this l hl kd hk h2
theorem rule_SW (h : LAY b M) (hw : w < 7) {q kd fg : Nat} (hq : isRl M q kd fg) : isRl (SW b M w r) q kd fg := by
  refine ⟨hq.1, ?_, hq.2.2⟩
  rw [SW_io (rule_no h hw hq)]
  exact hq.2.1
theorem rule_SWr (h : LAY b M) (hw : w < 7) {q kd fg : Nat} (hq : isRl (SW b M w r) q kd fg) : isRl M q kd fg := by
  have h1 : isRl M q kd (fg) ∨ True := Or.inr trivial
  have hno : ∀ l ∈ oks, q ≠ wA b w l := rule_no (M := SW b M w r) (LAY_SW hw h) hw hq
  refine ⟨hq.1, ?_, hq.2.2⟩
  have := hq.2.1
  rwa [SW_io hno] at this
end CLS
