section KNOW2
variable {s : State} {args : Array Value}
theorem KK_start (hts : ∀ w ∈ lw_tbl, w.before args s = true) : ∃ (D : va_G) (a1 a2 a3 : ClassId), ∀ b, KK (b, D, a1, a2, a3) s := by
  obtain ⟨D, hD⟩ := KN_start hts
  obtain ⟨ai, ki, ci, f1, f2, f3⟩ := Cond.arrayClass_spec (hts (.arrayClass .int) (by decide +kernel))
  obtain ⟨al, kl, cl, g1, g2, g3⟩ := Cond.arrayClass_spec (hts (.arrayClass .long) (by decide +kernel))
  have hO : (Cond.arrayOver (.object RX7)).before args s = true := hts _ (by decide +kernel)
  obtain ⟨comp, aq, kq, q1, q2, q3, q4, q5⟩ := Cond.arrayOver_spec hO
  refine ⟨D, ai, al, aq, fun b => ⟨⟨hD, fun k q hk => ?_⟩, NN_start hts, va_AO.of hO⟩⟩
  match k, hk with
  | 0, hk =>
    cases hk
    exact ⟨fun n z => ⟨fun k h => (by cases h), ki, f2, ci, f3⟩, f1⟩
  | 1, hk =>
    cases hk
    exact ⟨fun n z => ⟨fun k h => (by cases h), kl, g2, cl, g3⟩, g1⟩
  | 2, hk =>
    cases hk
    exact ⟨fun n z => ⟨fun k h => (by cases h), kq, q3, comp, q4⟩, kq, comp, q3, q4, q1, q5⟩
  | k + 3, hk => simp at hk
theorem XK_start {G : Gl} (hts : ∀ w ∈ lw_tbl, w.before args s = true) (hgv : (Jvm.Cond.and given_1 narrow_1).before args s = true) (hG : G.1 = s.heap.size) : XK G s s.heap := by
  have hs := flat_of_before _ hgv
  have hA : ∀ a : Nat, a < s.heap.size → ¬ (fun q : Nat => G.1 ≤ q) a := fun a ha => by show ¬ G.1 ≤ a; omega
  have hi : (Cond.initialized Bundle.tN).before args s = true := hts _ (by decide +kernel)
  obtain ⟨D, hD⟩ := KN_start hts
  have f11 : s.vm.findClass "FerryBells" = some (D.1 11) := (hD 11 _ rfl).2.1
  have f2 : s.vm.findClass "FerryBells$Busy" = some (D.1 2) := (hD 2 _ rfl).2.1
  have f8 : s.vm.findClass "FerryBells$Told" = some (D.1 8) := (hD 8 _ rfl).2.1
  have f6 : s.vm.findClass "FerryBells$Rule" = some (D.1 6) := (hD 6 _ rfl).2.1
  refine ⟨vx_Zqof (hts _ (by decide +kernel)) hi (hs _ (by decide +kernel)) hA, vx_Zqof (hts _ (by decide +kernel)) hi (hs _ (by decide +kernel)) hA, fun q hq => ?_, fun q hq => ?_, fun q hq => va_Nw.of rfl (hts _ (i_decl q hq)), fun q hq => va_Nw.of rfl (hts _ (i_cast q hq))⟩
  · have hw := hts _ (i_str q hq)
    have hf : ∃ c, s.vm.findClass q.1 = some c := by
      rcases (by simpa [strL] using hq : q = ("FerryBells", 300, "no such shelf") ∨ q = ("FerryBells", 310, "no row, or no such place") ∨ q = ("FerryBells$Busy", 35, "a busy one's failure") ∨ q = ("FerryBells$Told", 26, "a told one's failure") ∨ q = ("FerryBells$Rule", 36, "a rule's failure")) with rfl | rfl | rfl | rfl | rfl
      · exact ⟨_, f11⟩
      · exact ⟨_, f11⟩
      · exact ⟨_, f2⟩
      · exact ⟨_, f8⟩
      · exact ⟨_, f6⟩
    obtain ⟨c, hc⟩ := hf
    obtain ⟨k, cf, i, a, -, -, -, -, -, h6⟩ := Cond.stringRef_spec hc hw
    exact ⟨a, vk_R.of hw h6⟩
  · have : ∀ q ∈ ncL, Cond.not (.castable q.1 q.2) ∈ flatC (Jvm.Cond.and given_1 narrow_1) := by decide +kernel
    exact va_Nc.of (hs _ (this q hq))
end KNOW2
