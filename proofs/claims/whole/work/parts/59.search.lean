/-! bestGoings: what the search keeps. -/
def gn (P : SP) : Int32 := sc P 3 - sc P 1
/-- the best of the codes in A: its value g, its number t (-1: none yet) -/
def BST (A : Nat → Prop) (f : Nat → Int32) (g t : Int32) : Prop := (t = -1 ∧ ∀ c, ¬ A c) ∨ ∃ c, c < 625 ∧ t = nI c ∧ A c ∧ g = f c ∧ ∀ c', A c' → f c' < f c ∨ (f c' = f c ∧ c ≤ c')
theorem BST_dom {A A' : Nat → Prop} {f : Nat → Int32} {g t : Int32} (h : BST A f g t) (h1 : ∀ c, A c → A' c) (h2 : ∀ c, A' c → ∃ c0, A c0 ∧ f c0 = f c ∧ c0 ≤ c) : BST A' f g t := by
  rcases h with ⟨e, hn⟩ | ⟨c, hc, e1, e2, e3, e4⟩
  · refine Or.inl ⟨e, fun c hc => ?_⟩
    obtain ⟨c0, q, -⟩ := h2 c hc
    exact hn c0 q
  · refine Or.inr ⟨c, hc, e1, h1 c e2, e3, fun c' hc' => ?_⟩
    obtain ⟨c0, q1, q2, q3⟩ := h2 c' hc'
    rcases e4 c0 q1 with h | ⟨h, h'⟩
    · exact Or.inl (by rw [← q2]; exact h)
    · exact Or.inr ⟨by rw [← q2]; exact h, Nat.le_trans h' q3⟩
theorem BST_eq {A A' : Nat → Prop} {f : Nat → Int32} {g t : Int32} (h : BST A f g t) (h1 : ∀ c, A c ↔ A' c) : BST A' f g t := BST_dom h (fun c hc => (h1 c).mp hc) (fun c hc => ⟨c, (h1 c).mpr hc, rfl, Nat.le_refl _⟩)
def KEW (b w : Nat) (X X' : Mm) : Prop := RM X X' ∧ ∀ w', w' < w → ∀ P, WF P → WRel X P (gW b X w') → WRel X' P (gW b X' w')
theorem KEW_refl (b w : Nat) (X : Mm) : KEW b w X X := ⟨fun _ _ _ h => h, fun _ _ _ _ h => h⟩
theorem KEW_trans {b w : Nat} {X X' X'' : Mm} (h1 : KEW b w X X') (h2 : KEW b w X' X'') : KEW b w X X'' := ⟨fun q kd fg h => h2.1 q kd fg (h1.1 q kd fg h), fun w' hw P wf h => h2.2 w' hw P wf (h1.2 w' hw P wf h)⟩
theorem KEW_mono {b w v : Nat} {X X' : Mm} (hv : v ≤ w) (h : KEW b w X X') : KEW b v X X' := ⟨h.1, fun w' hw P wf => h.2 w' (by omega) P wf⟩
section SEARCH
variable {b : Nat} {M X : Mm} {S P : SP} {pic : Option SP} {sh : Nat → SV} {N w : Nat} {ρ : Type}
theorem KEW_SW (hL : LAY b X) (hw : w < 7) {r : WR} : KEW b w X (SW b X w r) := ⟨RM_SW hL hw, fun _ _ _ wf h => WRel_BC (WRel_M (RM_SW hL hw) h) wf (gW_other hw (by omega) (by omega))⟩
theorem KEW_b (hX : CXL b X) (hw : w ≤ 7) {k : Nat} {v : Int32} : KEW b w X (sI X b k v) := ⟨RM_b hX, fun _ _ _ wf h => WRel_BC (WRel_M (RM_b hX) h) wf (gW_b (by omega))⟩
theorem CLS_bk (hc : CLS b S pic sh X) {k : Nat} (hk : k ≠ 2) {v : Int32} : CLS b S pic sh (sI X b k v) := by
  obtain ⟨h1, h2, h3, h4, h5⟩ := hc
  refine CLS_bx h1 h2 h3 h5 ?_
  have : (sI X b k v).2.1 b 2 = X.2.1 b 2 := by simp [sI, up2, Ne.symm hk]
  rw [this]; exact h4
theorem SW_b (hw : w < 7) {r : WR} : (SW b X w r).2.1 b = X.2.1 b := SW_io (fun l hl e => by have := wA_rng (b := b) hw hl; omega)
theorem WRel_at (hL : LAY b X) (hw : w < 7) {r : WR} (h : WRel X P r) (wf : WF P) : WRel (SW b X w r) P (gW b (SW b X w r) w) := WRel_BC (WRel_M (RM_SW hL hw) h) wf (gW_same hw)
theorem x_k (hL : LAY b X) (hw : w < 7) : (X.1 (wA b w 0)).1 = 14 := by rw [(hL w hw).1 0 (by decide)]; rfl
theorem g_gI (hL : LAY b X) (hw : w < 7) {k : Nat} {κ : Int32 → Option ρ} : gI 10 X (wA b w 0) k κ = κ (X.2.1 (wA b w 0) k) := if_pos (x_k hL hw)
theorem g_f3 (hL : LAY b X) (hw : w < 7) {κ : Nat → Option ρ} : gR 10 X (wA b w 0) 7 κ = κ (wA b w 3) := by
  unfold gR
  rw [if_pos (x_k hL hw), (hL w hw).2.1 (7, 3) (by decide)]; rfl
theorem g_bI (hL : LAY b X) (hw : w < 7) {k : Nat} {κ : Int32 → Option ρ} : gI 1 X (wA b w 3) k κ = κ (X.2.1 (wA b w 3) k) := by
  unfold gI
  rw [if_pos (by rw [(hL w hw).1 3 (by decide)]; rfl)]
theorem g_below (hL : LAY b X) (h2 : 2 ≤ w) (h6 : w < 6) {κ0 : Option ρ} {κ : Nat → Option ρ} : gN 10 X (wA b w 0) 17 κ0 κ = κ (wA b (w + 1) 0) := by
  unfold gN
  rw [if_pos (x_k hL (by omega)), (hL w (by omega)).2.2.2, if_pos ⟨h2, h6⟩]; rfl
theorem c_weigh (hX : CXL b X) {A : Nat → Prop} {f : Nat → Int32} {c0 : Nat} (hc0 : c0 < 625) (h : BST A f (X.2.1 b 6) (X.2.1 b 7)) : ∃ X', f_X11_weigh N b (f c0) (nI c0) X = some ((), X') ∧ (X' = X ∨ X' = sI (sI X b 6 (f c0)) b 7 (nI c0)) ∧ BST (fun c => A c ∨ c = c0) f (X'.2.1 b 6) (X'.2.1 b 7) := by
  have gI11 : ∀ (k : Nat) (κ : Int32 → Option (Unit × Mm)), gI 11 X b k κ = κ (X.2.1 b k) := fun k κ => if_pos hX.1
  have hset : j_X11_weigh_31 N b (f c0) (nI c0) X = some ((), sI (sI X b 6 (f c0)) b 7 (nI c0)) := by
    have p1 : ∀ (Y : Mm) (k : Nat) (v : Int32) (κ : Mm → Option (Unit × Mm)), (Y.1 b).1 = 15 → pI 11 Y b k v κ = κ (sI Y b k v) := fun Y k v κ hY => if_pos hY
    unfold j_X11_weigh_31
    rw [p1 X 6 _ _ hX.1, p1 (sI X b 6 (f c0)) 7 _ _ hX.1]
  have hnew6 : (sI (sI X b 6 (f c0)) b 7 (nI c0)).2.1 b 6 = f c0 := by simp [sI, up2]
  have hnew7 : (sI (sI X b 6 (f c0)) b 7 (nI c0)).2.1 b 7 = nI c0 := by simp [sI, up2]
  unfold f_X11_weigh
  rw [gI11]
  rcases h with ⟨e, hn⟩ | ⟨c, hc, e1, e2, e3, e4⟩
  · rw [e, if_pos (by decide), hset]
    refine ⟨_, rfl, Or.inr rfl, Or.inr ⟨c0, hc0, hnew7, Or.inr rfl, hnew6, fun c' hc' => ?_⟩⟩
    rcases hc' with q | rfl
    · exact absurd q (hn c')
    · exact Or.inr ⟨rfl, Nat.le_refl _⟩
  · rw [e1, if_neg (nI_neg (by omega)), gI11, e3]
    by_cases h1 : f c < f c0
    · rw [if_pos h1, hset]
      refine ⟨_, rfl, Or.inr rfl, Or.inr ⟨c0, hc0, hnew7, Or.inr rfl, hnew6, fun c' hc' => ?_⟩⟩
      rcases hc' with q | rfl
      · rcases e4 c' q with q1 | ⟨q1, -⟩
        · exact Or.inl (Int32.lt_trans q1 h1)
        · exact Or.inl (by rw [q1]; exact h1)
      · exact Or.inr ⟨rfl, Nat.le_refl _⟩
    · rw [if_neg h1, gI11, e3]
      by_cases h2 : f c0 = f c
      · rw [if_pos h2, gI11, e1]
        by_cases h3 : c ≤ c0
        · rw [if_pos (nI_le h3 (by omega))]
          refine ⟨X, rfl, Or.inl rfl, Or.inr ⟨c, hc, e1, Or.inl e2, e3, fun c' hc' => ?_⟩⟩
          rcases hc' with q | rfl
          · exact e4 c' q
          · exact Or.inr ⟨h2, h3⟩
        · rw [if_neg (nI_ge (by omega) (by omega)), hset]
          refine ⟨_, rfl, Or.inr rfl, Or.inr ⟨c0, hc0, hnew7, Or.inr rfl, hnew6, fun c' hc' => ?_⟩⟩
          rcases hc' with q | rfl
          · rcases e4 c' q with q1 | ⟨q1, q2⟩
            · exact Or.inl (by rw [h2]; exact q1)
            · exact Or.inr ⟨by rw [h2]; exact q1, by omega⟩
          · exact Or.inr ⟨rfl, Nat.le_refl _⟩
      · rw [if_neg h2]
        refine ⟨X, rfl, Or.inl rfl, Or.inr ⟨c, hc, e1, Or.inl e2, e3, fun c' hc' => ?_⟩⟩
        rcases hc' with q | rfl
        · exact e4 c' q
        · exact Or.inl (Int32.lt_of_le_of_ne (Int32.not_lt.mp h1) h2)
theorem w_become (hL : LAY b X) (hNB : NB b X) {w1 : Nat} (hw : w < 7) (hw1 : w1 < 7) (hne : w1 ≠ w) (hr : WRel X P (gW b X w1)) (wf : WF P) (h4 : sn P 4 = 1) : ∃ r', f_X10_become N (wA b w 0) (wA b w1 0) X = some ((), SW b X w r') ∧ WRel X P r' ∧ R36 r' := by
  have hM2 : SW b X w (gW b X w) = X := SW_get hw
  obtain ⟨q3, hq3⟩ := hNB w1 hw1 3 (Or.inl rfl)
  obtain ⟨q6, hq6⟩ := hNB w1 hw1 6 (Or.inr rfl)
  have hz : X.2.1 (wA b w1 0) 9 = 0 := by
    have : X.2.1 (wA b w1 0) 9 = nI (sn P 4 - 1) := hr.1.2.2.2.2
    rw [this, h4]; rfl
  obtain ⟨r', e1, e2, e3, e6⟩ := k_become (N := N) (r := gW b X w) hL (w := w) (w1 := w1) hw hw1 hne hq3 hq6 (Or.inl hz)
  rw [hM2] at e1
  exact ⟨r', e1, WRel_BC hr wf e2, ⟨q3, e3⟩, q6, e6⟩
end SEARCH
-- the class' methods, with the one called below them left open
def gB (N : Nat) (F : Nat → Nat → Int32 → Int32 → Int32 → Mm → Option (Unit × Mm)) (k3 : Nat → Nat → Nat → Int32 → Int32 → Int32 → Int32 → Mm → Option (Unit × Mm)) (x0 : Nat) (x1 : Nat) (x2 : Nat) (x3 : Int32) (x4 : Int32) (x5 : Int32) (x6 : Int32) (M : Mm) : Option (Unit × Mm) := gI 10 M x1 0 (fun v1 => (if v1 < x6 then some ((), M) else gR 10 M x1 7 (fun v2 => gI 1 M v2 0 (fun v3 => (if (x6 - (1 : Int32)) = v3 then k3 x0 x1 x2 x3 x4 x5 (x6 + (1 : Int32)) M else ck 10 M x2 (bnd (f_X10_become N x2 x1 M) (fun v4 M5 => gR 10 M5 x2 7 (fun v7 => ck 10 M5 x2 (bnd (f_X10_send N x2 v7 (x6 - (1 : Int32)) M5) (fun v8 M9 => ck 10 M9 x2 (bnd (f_X10_close N x2 M9) (fun v11 M12 => ck 11 M12 x0 (bnd (F x0 x2 (x3 * (5 : Int32)) (x4 + (x6 * x3)) (x5 - (1 : Int32)) M12) (fun v14 M15 => k3 x0 x1 x2 x3 x4 x5 (x6 + (1 : Int32)) M15))))))))))))))
def gL (N : Nat) (F : Nat → Nat → Int32 → Int32 → Int32 → Mm → Option (Unit × Mm)) : Nat → Nat → Nat → Nat → Int32 → Int32 → Int32 → Int32 → Mm → Option (Unit × Mm)
  | 0 => fun _ _ _ _ _ _ _ _ => none
  | n + 1 => gB N F (gL N F n)
def gJ (N : Nat) (k4 : Nat → Nat → Int32 → Int32 → Int32 → Mm → Option (Unit × Mm)) (x0 : Nat) (x1 : Nat) (x2 : Int32) (x3 : Int32) (x5 : Int32) (M : Mm) : Option (Unit × Mm) := gR 10 M x1 7 (fun v1 => ck 10 M x1 (bnd (f_X10_ask N x1 v1 M) (fun v2 M3 => ck 10 M3 x1 (bnd (f_X10_close N x1 M3) (fun v5 M6 => k4 x0 x1 x2 x3 (x5 + (-1 : Int32)) M6)))))
def gEx (N : Nat) (Bp : (Nat → Nat → Int32 → Int32 → Int32 → Mm → Option (Unit × Mm)) → Nat → Nat → Int32 → Int32 → Int32 → Mm → Option (Unit × Mm)) (k4 : Nat → Nat → Int32 → Int32 → Int32 → Mm → Option (Unit × Mm)) (x0 : Nat) (x1 : Nat) (x2 : Int32) (x3 : Int32) (x5 : Int32) (M : Mm) : Option (Unit × Mm) := (if x5 ≤ 0 then ck 10 M x1 (bnd (f_X10_gain N x1 M) (fun v1 M2 => ck 11 M2 x0 (bnd (f_X11_weigh N x0 v1 x3 M2) (fun v4 M5 => some ((), M5))))) else ck 10 M x1 (bnd (f_X10_bring N x1 M) (fun v7 M8 => gR 10 M8 x1 7 (fun v10 => gI 1 M8 v10 1 (fun v11 => (if v11 = 0 then (if (625 : Int32) ≤ x2 then gJ N k4 x0 x1 x2 x3 x5 M8 else Bp k4 x0 x1 x2 x3 x5 M8) else gJ N k4 x0 x1 x2 x3 x5 M8))))))
def gEL (N : Nat) (Bp : (Nat → Nat → Int32 → Int32 → Int32 → Mm → Option (Unit × Mm)) → Nat → Nat → Int32 → Int32 → Int32 → Mm → Option (Unit × Mm)) : Nat → Nat → Nat → Int32 → Int32 → Int32 → Mm → Option (Unit × Mm)
  | 0 => fun _ _ _ _ _ _ => none
  | n + 1 => gEx N Bp (gEL N Bp n)
def gP (N : Nat) (Fb : Nat → Nat → Nat → Int32 → Int32 → Int32 → Mm → Option (Unit × Mm)) (k4 : Nat → Nat → Int32 → Int32 → Int32 → Mm → Option (Unit × Mm)) (x0 : Nat) (x1 : Nat) (x2 : Int32) (x3 : Int32) (x5 : Int32) (M8 : Mm) : Option (Unit × Mm) := gN 10 M8 x1 17 (gJ N k4 x0 x1 x2 x3 x5 M8) (fun _ => (gN 10 M8 x1 17 (none) (fun v13 => ck 11 M8 x0 (bnd (Fb x0 x1 v13 x2 x3 x5 M8) (fun _ M15 => some ((), M15))))))
def gP0 (N : Nat) (k4 : Nat → Nat → Int32 → Int32 → Int32 → Mm → Option (Unit × Mm)) (x0 : Nat) (x1 : Nat) (x2 : Int32) (x3 : Int32) (x5 : Int32) (M8 : Mm) : Option (Unit × Mm) := gN 10 M8 x1 17 (gJ N k4 x0 x1 x2 x3 x5 M8) (fun _ => (gN 10 M8 x1 17 (none) (fun _ => none)))
theorem gEL0 (N : Nat) : ∀ fu, l_X11_explore0_4 N fu = gEL N (gP0 N) fu := by
  intro fu
  induction fu with
  | zero => rfl
  | succ n ih => show b_X11_explore0_4 N (l_X11_explore0_4 N n) = gEx N (gP0 N) (gEL N (gP0 N) n); rw [ih]; rfl
theorem gL1 (N : Nat) : ∀ fu, l_X11_branch1_3 N fu = gL N (f_X11_explore0 N) fu := by
  intro fu
  induction fu with
  | zero => rfl
  | succ n ih => show b_X11_branch1_3 N (l_X11_branch1_3 N n) = gB N (f_X11_explore0 N) (gL N (f_X11_explore0 N) n); rw [ih]; rfl
theorem gL2 (N : Nat) : ∀ fu, l_X11_branch2_3 N fu = gL N (f_X11_explore1 N) fu := by
  intro fu
  induction fu with
  | zero => rfl
  | succ n ih => show b_X11_branch2_3 N (l_X11_branch2_3 N n) = gB N (f_X11_explore1 N) (gL N (f_X11_explore1 N) n); rw [ih]; rfl
theorem gL3 (N : Nat) : ∀ fu, l_X11_branch3_3 N fu = gL N (f_X11_explore2 N) fu := by
  intro fu
  induction fu with
  | zero => rfl
  | succ n ih => show b_X11_branch3_3 N (l_X11_branch3_3 N n) = gB N (f_X11_explore2 N) (gL N (f_X11_explore2 N) n); rw [ih]; rfl
theorem gL4 (N : Nat) : ∀ fu, l_X11_branch4_3 N fu = gL N (f_X11_explore3 N) fu := by
  intro fu
  induction fu with
  | zero => rfl
  | succ n ih => show b_X11_branch4_3 N (l_X11_branch4_3 N n) = gB N (f_X11_explore3 N) (gL N (f_X11_explore3 N) n); rw [ih]; rfl
theorem gEL1 (N : Nat) : ∀ fu, l_X11_explore1_4 N fu = gEL N (gP N (f_X11_branch1 N)) fu := by
  intro fu
  induction fu with
  | zero => rfl
  | succ n ih => show b_X11_explore1_4 N (l_X11_explore1_4 N n) = gEx N _ (gEL N _ n); rw [ih]; rfl
theorem gEL2 (N : Nat) : ∀ fu, l_X11_explore2_4 N fu = gEL N (gP N (f_X11_branch2 N)) fu := by
  intro fu
  induction fu with
  | zero => rfl
  | succ n ih => show b_X11_explore2_4 N (l_X11_explore2_4 N n) = gEx N _ (gEL N _ n); rw [ih]; rfl
theorem gEL3 (N : Nat) : ∀ fu, l_X11_explore3_4 N fu = gEL N (gP N (f_X11_branch3 N)) fu := by
  intro fu
  induction fu with
  | zero => rfl
  | succ n ih => show b_X11_explore3_4 N (l_X11_explore3_4 N n) = gEx N _ (gEL N _ n); rw [ih]; rfl
theorem gEL4 (N : Nat) : ∀ fu, l_X11_explore4_4 N fu = gEL N (gP N (f_X11_branch4 N)) fu := by
  intro fu
  induction fu with
  | zero => rfl
  | succ n ih => show b_X11_explore4_4 N (l_X11_explore4_4 N n) = gEx N _ (gEL N _ n); rw [ih]; rfl
