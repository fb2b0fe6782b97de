/-! A new rule; keep. -/
section KEEP
variable {b : Nat} {M M2 : Mm} {S : SP} {pic : Option SP} {sh : Nat → SV} {r : Nat → Nat → Int32} {N : Nat}
def nR (M : Mm) (kd : Nat) (v : Int32) : Mm := sI (nw M (rtag kd) 0) (nx M) 0 v
theorem c_makeRule {kd : Nat} {v : Int32} (hk : kd < 7) : f_X11_makeRule N (nI kd) v M = some (some (nx M), nR M kd v) := by
  have hp : ∀ t, isRule t = true → pF (nw M t 0) (nx M) v (fun M1 => some ((), M1)) = some ((), sI (nw M t 0) (nx M) 0 v) := fun t ht => by
    unfold pF
    rw [if_pos]
    show isRule (if nx M = nx M then (t, 0) else M.1 (nx M)).1 = true
    rw [if_pos rfl]; exact ht
  unfold f_X11_makeRule nwo f_X8_init f_X0_init f_X2_init f_X4_init f_X3_init f_X9_init f_X6_init
  dsimp only
  rw [hp 13 rfl, hp 8 rfl, hp 6 rfl, hp 7 rfl, hp 4 rfl, hp 12 rfl, hp 10 rfl]
  simp only [bnd_one]
  unfold nR
  match kd, hk with
  | 0, _ => rw [if_neg (by decide), if_neg (by decide), if_neg (by decide), if_neg (by decide), if_neg (by decide), if_neg (by decide)]; rfl
  | 1, _ => rw [if_pos (by decide)]; rfl
  | 2, _ => rw [if_neg (by decide), if_pos (by decide)]; rfl
  | 3, _ => rw [if_neg (by decide), if_neg (by decide), if_pos (by decide)]; rfl
  | 4, _ => rw [if_neg (by decide), if_neg (by decide), if_neg (by decide), if_pos (by decide)]; rfl
  | 5, _ => rw [if_neg (by decide), if_neg (by decide), if_neg (by decide), if_neg (by decide), if_pos (by decide)]; rfl
  | 6, _ => rw [if_neg (by decide), if_neg (by decide), if_neg (by decide), if_neg (by decide), if_neg (by decide), if_pos (by decide)]; rfl
theorem nR_k {kd a : Nat} {v : Int32} (h : a ≠ nx M) : (nR M kd v).1 a = M.1 a := if_neg h
theorem nR_i {kd a : Nat} {v : Int32} (h : a ≠ nx M) : (nR M kd v).2.1 a = M.2.1 a := by
  have hh : ¬ a = M.2.2.2.2 := h
  funext j; simp [nR, sI, nw, up2, upR, nx, hh]
theorem nR_l {kd a : Nat} {v : Int32} (h : a ≠ nx M) : (nR M kd v).2.2.1 a = M.2.2.1 a := by
  have hh : ¬ a = M.2.2.2.2 := h
  funext j; simp [nR, sI, nw, upR, hh]
theorem nR_q {kd a : Nat} {v : Int32} (h : a ≠ nx M) : (nR M kd v).2.2.2.1 a = M.2.2.2.1 a := by
  have hh : ¬ a = M.2.2.2.2 := h
  funext j; simp [nR, sI, nw, upR, hh]
theorem FR_nR {kd : Nat} {v : Int32} : FR b M (nR M kd v) := ⟨Nat.le_succ _, fun a ha _ => ⟨nR_k (by omega), nR_i (by omega), nR_l (by omega), nR_q (by omega)⟩, fun a ha => nR_k (by have : nx M + 1 ≤ a := ha; omega)⟩
theorem RM_nR (hg : GOOD b M) {kd : Nat} {v : Int32} : RM M (nR M kd v) := by
  intro q k f hq
  have hne : q ≠ nx M := by
    rintro rfl
    have h1 := hq.1
    rw [hg.2 _ (Nat.le_refl _)] at h1
    have : ∀ k, k < 7 → (0 : Nat) ≠ rtag k := by decide
    exact this k hq.2.2.1 h1
  exact ⟨by rw [nR_k hne]; exact hq.1, by rw [nR_i hne]; exact hq.2.1, hq.2.2⟩
theorem isRl_nR {kd fg : Nat} (hk : kd < 7) (hf : fg < 10) : isRl (nR M kd (nI fg)) (nx M) kd fg := by
  refine ⟨?_, ?_, hk, hf⟩
  · show (if nx M = nx M then (rtag kd, 0) else M.1 (nx M)).1 = rtag kd
    rw [if_pos rfl]
  · simp [nR, sI, up2]
theorem CLS_nR (hc : CLS b S pic sh M) (hg : GOOD b M) {kd : Nat} {v : Int32} : CLS b S pic sh (nR M kd v) := by
  obtain ⟨⟨hL, hX, hNB⟩, h0, hp, hf, hsh⟩ := hc
  have hR := RM_nR (kd := kd) (v := v) hg
  have hb := hg.1
  have hw : ∀ w, w < 7 → ∀ l ∈ oks, wA b w l ≠ nx M := fun w hw l hl => by
    have := wA_rng (b := b) hw hl
    omega
  have hW : ∀ w P, w < 7 → WR1 b M w P → WR1 b (nR M kd v) w P := fun w P hw7 hh => by
    refine ⟨WRel_BC (WRel_M hR hh.1) hh.2.1 ⟨fun k _ => ?_, fun l hl j _ => ?_, fun l hl => ⟨fun k _ => ?_, ?_⟩⟩, hh.2.1, hh.2.2⟩
    · show (nR M kd v).2.1 _ k = M.2.1 _ k
      rw [nR_i (hw w hw7 0 (by decide))]
    · show (nR M kd v).2.1 _ j = M.2.1 _ j
      rw [nR_i (hw w hw7 l (oks7 l hl))]
    · show (nR M kd v).2.1 _ k = M.2.1 _ k
      rw [nR_i (hw w hw7 l (by rcases hl with rfl | rfl <;> decide))]
    · show (nR M kd v).2.2.2.1 _ 4 = M.2.2.2.1 _ 4
      rw [nR_q (hw w hw7 l (by rcases hl with rfl | rfl <;> decide))]
  refine ⟨⟨?_, ?_, ?_⟩, hW 0 S (by decide) h0, fun P hP => hW 1 P (by decide) (hp P hP), by rw [nR_i (by omega)]; exact hf, fun d hd => ?_⟩
  · intro w hw7
    obtain ⟨a1, a2, a3, a4⟩ := hL w hw7
    rw [nR_q (hw w hw7 0 (by decide)), nR_q (hw w hw7 3 (by decide)), nR_q (hw w hw7 6 (by decide))]
    exact ⟨fun l hl => by rw [nR_k (hw w hw7 l hl)]; exact a1 l hl, a2, a3, a4⟩
  · obtain ⟨x1, x2, x3, x4⟩ := hX
    unfold CXL
    rw [nR_k (by omega), nR_q (by omega), nR_k (by omega), nR_k (by omega), nR_k (by omega)]
    refine ⟨x1, x2, x3, fun d hd => ?_⟩
    rw [nR_q (by omega), nR_k (by omega), nR_q (by omega), nR_k (by omega)]
    exact x4 d hd
  · intro w hw7 l hl
    rw [nR_q (hw w hw7 l (by rcases hl with rfl | rfl <;> decide))]
    exact hNB w hw7 l hl
  · have hs := hsh d hd
    unfold SHc at hs ⊢
    rw [nR_i (by omega), nR_i (by omega), nR_q (by omega)]
    rcases hs with hs | ⟨g0, ⟨q, g1, g2⟩, g3⟩ | hs
    · exact Or.inl hs
    · exact Or.inr (Or.inl ⟨g0, ⟨q, g1, hR _ _ _ g2⟩, g3⟩)
    · exact Or.inr (Or.inr hs)
end KEEP
