/-! Where everything lies: the class' worlds, their cells by labels; a memory whose world w is told by a record. -/
-- world 0 the real one, 1 the picture, 2 .. 6 those in mind; labels: 0 itself, 1 ways, 2 sorts' rows, 3 first boat, 4 its seats, 6 second boat, 7 its seats, 9 standing, 10 who, 11 until
def oW (w : Nat) : Nat := match w with | 0 => 1 | 1 => 13 | 2 => 25 | 3 => 26 | 4 => 27 | 5 => 28 | _ => 29
def pW (w : Nat) : Nat := match w with | 0 => 2 | 1 => 14 | 2 => 74 | 3 => 63 | 4 => 52 | 5 => 41 | _ => 30
def rA (w l : Nat) : Nat := if l = 0 then oW w else pW w + (l - 1)
def wA (b w l : Nat) : Nat := b + rA w l
def oks : List Nat := [0, 1, 2, 3, 4, 6, 7, 9, 10, 11]
def kW (l : Nat) : Nat × Nat := match l with | 0 => (14, 0) | 1 => (1, 16) | 2 => (1, 25) | 3 => (5, 0) | 4 => (1, 6) | 6 => (5, 0) | 7 => (1, 6) | 9 => (1, 4) | 10 => (1, 48) | 11 => (1, 48) | _ => (0, 0)
theorem rA_inj : ∀ w, w < 7 → ∀ w', w' < 7 → ∀ l ∈ oks, ∀ l' ∈ oks, rA w l = rA w' l' → w = w' ∧ l = l' := by decide +kernel
theorem wA_inj {b w w' l l' : Nat} (hw : w < 7) (hw' : w' < 7) (hl : l ∈ oks) (hl' : l' ∈ oks) (h : wA b w l = wA b w' l') : w = w' ∧ l = l' := rA_inj w hw w' hw' l hl l' hl' (Nat.add_left_cancel h)
def refsW : List (Nat × Nat) := [(1, 1), (3, 2), (7, 3), (8, 6), (10, 9), (11, 10), (12, 11)]
def LAY (b : Nat) (M : Mm) : Prop := ∀ w, w < 7 → (∀ l ∈ oks, M.1 (wA b w l) = kW l) ∧ (∀ q ∈ refsW, M.2.2.2.1 (wA b w 0) q.1 = some (wA b w q.2)) ∧ (M.2.2.2.1 (wA b w 3) 3 = some (wA b w 4) ∧ M.2.2.2.1 (wA b w 6) 3 = some (wA b w 7)) ∧ M.2.2.2.1 (wA b w 0) 17 = (if 2 ≤ w ∧ w < 6 then some (wA b (w + 1) 0) else none)
abbrev WR : Type := (Nat → Nat → Int32) × (Nat → Option Nat)
def labOf (b w a : Nat) : Option Nat := oks.find? (fun l => a == wA b w l)
theorem labOf_at {b w l : Nat} (hw : w < 7) (hl : l ∈ oks) : labOf b w (wA b w l) = some l := by
  unfold labOf
  cases hf : oks.find? (fun l' => wA b w l == wA b w l') with
  | none => exact absurd (List.find?_eq_none.mp hf l hl) (by simp)
  | some l' =>
    have h1 := List.find?_some hf
    have h2 := List.mem_of_find?_eq_some hf
    simp only [beq_iff_eq] at h1
    rw [(wA_inj hw hw hl h2 h1).2]
theorem labOf_no {b w a : Nat} (h : ∀ l ∈ oks, a ≠ wA b w l) : labOf b w a = none := List.find?_eq_none.mpr fun l hl => by simpa using h l hl
theorem labOf_some {b w a l : Nat} (h : labOf b w a = some l) : a = wA b w l ∧ l ∈ oks := ⟨by simpa using List.find?_some h, List.mem_of_find?_eq_some h⟩
def SW (b : Nat) (M : Mm) (w : Nat) (r : WR) : Mm := (M.1, fun a j => match labOf b w a with | some l => r.1 l j | none => M.2.1 a j, M.2.2.1, fun a k => match labOf b w a with | some l => if k = 4 ∧ (l = 3 ∨ l = 6) then r.2 l else M.2.2.2.1 a k | none => M.2.2.2.1 a k, M.2.2.2.2)
def gW (b : Nat) (M : Mm) (w : Nat) : WR := (fun l j => M.2.1 (wA b w l) j, fun l => M.2.2.2.1 (wA b w l) 4)
section SWS
variable {b : Nat} {M : Mm} {w : Nat} {r : WR}
theorem SW_1 : (SW b M w r).1 = M.1 := rfl
theorem SW_nx : nx (SW b M w r) = nx M := rfl
theorem SW_i (hw : w < 7) {l : Nat} (hl : l ∈ oks) : (SW b M w r).2.1 (wA b w l) = r.1 l := by
  funext j; simp only [SW, labOf_at hw hl]
theorem SW_q (hw : w < 7) {l : Nat} (hl : l = 3 ∨ l = 6) : (SW b M w r).2.2.2.1 (wA b w l) 4 = r.2 l := by
  have h : l ∈ oks := by rcases hl with rfl | rfl <;> decide
  simp only [SW, labOf_at hw h, true_and, hl, if_true]
theorem SW_io {a : Nat} (h : ∀ l ∈ oks, a ≠ wA b w l) : (SW b M w r).2.1 a = M.2.1 a := by
  funext j; simp only [SW, labOf_no h]
theorem SW_qo {a k : Nat} (h : ¬ (k = 4 ∧ (a = wA b w 3 ∨ a = wA b w 6))) : (SW b M w r).2.2.2.1 a k = M.2.2.2.1 a k := by
  simp only [SW]
  split
  · rename_i l hl
    obtain ⟨e1, e2⟩ := labOf_some hl
    rw [if_neg]
    rintro ⟨h1, rfl | rfl⟩
    · exact h ⟨h1, Or.inl e1⟩
    · exact h ⟨h1, Or.inr e1⟩
  · rfl
theorem SW_get (hw : w < 7) : SW b M w (gW b M w) = M := by
  obtain ⟨M1, M2, M3, M4, M5⟩ := M
  simp only [SW, gW, Prod.mk.injEq, true_and, and_true]
  constructor
  · funext a j
    cases h : labOf b w a with
    | none => rfl
    | some l => rw [(labOf_some h).1]
  · funext a k
    cases h : labOf b w a with
    | none => rfl
    | some l =>
      simp only
      split
      · rename_i e; rw [(labOf_some h).1, e.1]
      · rfl
theorem SW_SW {r' : WR} : SW b (SW b M w r) w r' = SW b M w r' := by
  simp only [SW, Prod.mk.injEq, true_and, and_true]
  constructor
  · funext a j
    cases h : labOf b w a <;> rfl
  · funext a k
    cases h : labOf b w a with
    | none => rfl
    | some l => simp only; split <;> rfl
theorem LAY_of {M' : Mm} (h : LAY b M) (h1 : M'.1 = M.1) (h2 : ∀ w, w < 7 → (∀ k, k ≠ 4 → M'.2.2.2.1 (wA b w 3) k = M.2.2.2.1 (wA b w 3) k ∧ M'.2.2.2.1 (wA b w 6) k = M.2.2.2.1 (wA b w 6) k) ∧ ∀ k, M'.2.2.2.1 (wA b w 0) k = M.2.2.2.1 (wA b w 0) k) : LAY b M' := by
  intro w hw
  obtain ⟨a1, a2, a3, a4⟩ := h w hw
  obtain ⟨c1, c2⟩ := h2 w hw
  refine ⟨fun l hl => by rw [h1]; exact a1 l hl, fun q hq => by rw [c2]; exact a2 q hq, ?_, by rw [c2]; exact a4⟩
  rw [(c1 3 (by decide)).1, (c1 3 (by decide)).2]
  exact a3
theorem LAY_SW (hw : w < 7) (h : LAY b M) : LAY b (SW b M w r) := by
  refine LAY_of h rfl fun w' hw' => ⟨fun k hk => ⟨SW_qo fun q => hk q.1, SW_qo fun q => hk q.1⟩, fun k => SW_qo ?_⟩
  rintro ⟨-, q | q⟩
  · exact absurd (wA_inj hw' hw (by decide) (by decide) q).2 (by decide)
  · exact absurd (wA_inj hw' hw (by decide) (by decide) q).2 (by decide)
-- a store into the world is a store into its record
theorem sI_SW (hw : w < 7) {l k : Nat} {v : Int32} (hl : l ∈ oks) : sI (SW b M w r) (wA b w l) k v = SW b M w (up2 r.1 l k v, r.2) := by
  simp only [sI, SW, Prod.mk.injEq, true_and, and_true]
  funext a j
  simp only [up2]
  by_cases ha : a = wA b w l
  · subst ha
    simp only [labOf_at hw hl, if_true]
  · rw [if_neg ha]
    cases h : labOf b w a with
    | none => rfl
    | some l' =>
      obtain ⟨e1, e2⟩ := labOf_some h
      have : ¬ l' = l := fun e => ha (by rw [e1, e])
      simp only [if_neg this]
theorem sG_SW (hw : w < 7) {l : Nat} {g : Nat → Int32} (hl : l ∈ oks) : sG (SW b M w r) (wA b w l) g = SW b M w (upR r.1 l g, r.2) := by
  simp only [sG, SW, Prod.mk.injEq, true_and, and_true]
  funext a j
  simp only [upR]
  by_cases ha : a = wA b w l
  · subst ha
    simp only [labOf_at hw hl, if_true]
  · rw [if_neg ha]
    cases h : labOf b w a with
    | none => rfl
    | some l' =>
      obtain ⟨e1, e2⟩ := labOf_some h
      have : ¬ l' = l := fun e => ha (by rw [e1, e])
      simp only [if_neg this]
def upq (f : Nat → Option Nat) (l : Nat) (v : Option Nat) : Nat → Option Nat := fun j => if j = l then v else f j
theorem sR_SW (hw : w < 7) {l : Nat} {v : Option Nat} (hl : l = 3 ∨ l = 6) : sR (SW b M w r) (wA b w l) 4 v = SW b M w (r.1, upq r.2 l v) := by
  have hlo : l ∈ oks := by rcases hl with rfl | rfl <;> decide
  simp only [sR, SW, Prod.mk.injEq, true_and, and_true]
  funext a k
  simp only [up2]
  by_cases ha : a = wA b w l
  · subst ha
    simp only [labOf_at hw hlo, if_true]
    by_cases hk : k = 4
    · subst hk; simp [hl, upq]
    · simp [hk]
  · rw [if_neg ha]
    cases h : labOf b w a with
    | none => rfl
    | some l' =>
      obtain ⟨e1, e2⟩ := labOf_some h
      have : ¬ l' = l := fun e => ha (by rw [e1, e])
      simp only [upq, if_neg this]
-- the programs' steps on such a memory
variable {ρ : Type}
theorem q_ck (h : LAY b M) (hw : w < 7) {κ : Option ρ} : ck 10 (SW b M w r) (wA b w 0) κ = κ := by
  have := (h w hw).1 0 (by decide)
  simp [ck, SW_1, this, kW]
theorem q_gI (h : LAY b M) (hw : w < 7) {k : Nat} {κ : Int32 → Option ρ} : gI 10 (SW b M w r) (wA b w 0) k κ = κ (r.1 0 k) := by
  have := (h w hw).1 0 (by decide)
  simp [gI, SW_1, this, kW, SW_i hw (show 0 ∈ oks by decide)]
theorem q_pI (h : LAY b M) (hw : w < 7) {k : Nat} {v : Int32} {κ : Mm → Option ρ} : pI 10 (SW b M w r) (wA b w 0) k v κ = κ (SW b M w (up2 r.1 0 k v, r.2)) := by
  have := (h w hw).1 0 (by decide)
  simp [pI, SW_1, this, kW, sI_SW hw (show 0 ∈ oks by decide)]
theorem q_pZ (h : LAY b M) (hw : w < 7) {k : Nat} {v : Int32} (hv : v = 0 ∨ v = 1) {κ : Mm → Option ρ} : pZ 10 (SW b M w r) (wA b w 0) k v κ = κ (SW b M w (up2 r.1 0 k v, r.2)) := by
  have := (h w hw).1 0 (by decide)
  simp [pZ, SW_1, this, kW, sI_SW hw (show 0 ∈ oks by decide), hv]
theorem q_gR (h : LAY b M) (hw : w < 7) {k l : Nat} (hq : (k, l) ∈ refsW) {κ : Nat → Option ρ} : gR 10 (SW b M w r) (wA b w 0) k κ = κ (wA b w l) := by
  have h1 := (h w hw).1 0 (by decide)
  have h2 := (h w hw).2.1 _ hq
  have h3 : (SW b M w r).2.2.2.1 (wA b w 0) k = some (wA b w l) := by
    rw [SW_qo]
    · exact h2
    · rintro ⟨-, q | q⟩
      · exact absurd (wA_inj hw hw (by decide) (by decide) q).2 (by decide)
      · exact absurd (wA_inj hw hw (by decide) (by decide) q).2 (by decide)
  simp [gR, SW_1, h1, kW, h3]
theorem q_alen (h : LAY b M) (hw : w < 7) {l : Nat} (hl : l ∈ oks) (hk : (kW l).1 = 1) {κ : Int32 → Option ρ} : alen (SW b M w r) (wA b w l) κ = κ (nI (kW l).2) := by
  have h1 := (h w hw).1 l hl
  simp [alen, SW_1, h1, hk]
theorem q_ald (h : LAY b M) (hw : w < 7) {l : Nat} (hl : l ∈ oks) (hk : (kW l).1 = 1) {i : Int32} {κ : Int32 → Option ρ} (hi : inA i (kW l).2 = true) : ald (SW b M w r) (wA b w l) i κ = κ (r.1 l i.toNatClampNeg) := by
  have h1 := (h w hw).1 l hl
  simp [ald, SW_1, h1, hk, hi, SW_i hw hl]
theorem q_ast (h : LAY b M) (hw : w < 7) {l : Nat} (hl : l ∈ oks) (hk : (kW l).1 = 1) {i v : Int32} {κ : Mm → Option ρ} (hi : inA i (kW l).2 = true) : ast (SW b M w r) (wA b w l) i v κ = κ (SW b M w (up2 r.1 l i.toNatClampNeg v, r.2)) := by
  have h1 := (h w hw).1 l hl
  simp [ast, SW_1, h1, hk, hi, sI_SW hw hl]
theorem q_bgI (h : LAY b M) (hw : w < 7) {l : Nat} (hl : l = 3 ∨ l = 6) {k : Nat} {κ : Int32 → Option ρ} : gI 1 (SW b M w r) (wA b w l) k κ = κ (r.1 l k) := by
  have hlo : l ∈ oks := by rcases hl with rfl | rfl <;> decide
  have h1 := (h w hw).1 l hlo
  have h2 : kW l = (5, 0) := by rcases hl with rfl | rfl <;> rfl
  simp [gI, SW_1, h1, h2, SW_i hw hlo]
theorem q_bck (h : LAY b M) (hw : w < 7) {l : Nat} (hl : l = 3 ∨ l = 6) {κ : Option ρ} : ck 1 (SW b M w r) (wA b w l) κ = κ := by
  have hlo : l ∈ oks := by rcases hl with rfl | rfl <;> decide
  have h1 := (h w hw).1 l hlo
  have h2 : kW l = (5, 0) := by rcases hl with rfl | rfl <;> rfl
  simp [ck, SW_1, h1, h2]
theorem q_bpI (h : LAY b M) (hw : w < 7) {l : Nat} (hl : l = 3 ∨ l = 6) {k : Nat} {v : Int32} {κ : Mm → Option ρ} : pI 1 (SW b M w r) (wA b w l) k v κ = κ (SW b M w (up2 r.1 l k v, r.2)) := by
  have hlo : l ∈ oks := by rcases hl with rfl | rfl <;> decide
  have h1 := (h w hw).1 l hlo
  have h2 : kW l = (5, 0) := by rcases hl with rfl | rfl <;> rfl
  simp [pI, SW_1, h1, h2, sI_SW hw hlo]
theorem q_bseat (h : LAY b M) (hw : w < 7) {l : Nat} (hl : l = 3 ∨ l = 6) {κ : Nat → Option ρ} : gR 1 (SW b M w r) (wA b w l) 3 κ = κ (wA b w (l + 1)) := by
  have hlo : l ∈ oks := by rcases hl with rfl | rfl <;> decide
  have h1 := (h w hw).1 l hlo
  have h2 : kW l = (5, 0) := by rcases hl with rfl | rfl <;> rfl
  have h3 : (SW b M w r).2.2.2.1 (wA b w l) 3 = some (wA b w (l + 1)) := by
    rw [SW_qo (fun q => absurd q.1 (by decide))]
    rcases hl with rfl | rfl
    · exact (h w hw).2.2.1.1
    · exact (h w hw).2.2.1.2
  simp [gR, SW_1, h1, h2, h3]
theorem q_brule (h : LAY b M) (hw : w < 7) {l : Nat} (hl : l = 3 ∨ l = 6) {κ : Nat → Option ρ} : gR 1 (SW b M w r) (wA b w l) 4 κ = (r.2 l).elim none κ := by
  have hlo : l ∈ oks := by rcases hl with rfl | rfl <;> decide
  have h1 := (h w hw).1 l hlo
  have h2 : kW l = (5, 0) := by rcases hl with rfl | rfl <;> rfl
  simp [gR, SW_1, h1, h2, SW_q hw hl]
theorem q_bpR (h : LAY b M) (hw : w < 7) {l : Nat} (hl : l = 3 ∨ l = 6) {v : Option Nat} {κ : Mm → Option ρ} : pR 1 (SW b M w r) (wA b w l) 4 v κ = κ (SW b M w (r.1, upq r.2 l v)) := by
  have hlo : l ∈ oks := by rcases hl with rfl | rfl <;> decide
  have h1 := (h w hw).1 l hlo
  have h2 : kW l = (5, 0) := by rcases hl with rfl | rfl <;> rfl
  simp [pR, SW_1, h1, h2, sR_SW hw hl]
end SWS
