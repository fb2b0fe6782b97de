/-! The methods that throw, and those that catch. -/
theorem wd_834 : Cond.codeWith yX11_toss cX11_toss 4 (some .int) [(26, 32, 33, 337), (26, 32, 42, 298), (26, 32, 52, 308)] ∈ TS := TS_in (List.mem_of_getElem? (i := 834) (by decide +kernel)) rfl
abbrev cLel : ByteArray := method_3_code
def yLel : MethodName := ⟨"FerryBellsLaw", "element", "(LFerryBells;II[J)I"⟩
theorem wd_968 : Cond.codeWith yLel cLel 5 (some .int) [(0, 9, 12, 13), (0, 9, 16, 15)] ∈ TS := TS_in (List.mem_of_getElem? (i := 968) (by decide +kernel)) rfl
def rm_fail : Room := { frames := 6, cells := 1, slots := 6, locals := 82 }
def rm_X11_element : Room := { frames := 6, cells := 1, slots := 6, locals := 82 }
def rm_X11_toss : Room := { frames := 7, cells := 1, slots := 6, locals := 110 }
def rm_Lel : Room := { frames := 7, cells := 1, slots := 6, locals := 110 }
theorem c_X2_fail {l : Launch} (hfl : l.flags = flags0) {G : Gl} {b : Nat} {M : Mm} : MO l G yX2_fail (Cond.code yX2_fail cX2_fail 1 none) rm_fail [.ref b] M (.inr xUOE) M :=
  zx_start hfl (lv := [(0, .ref b)]) (by decide) (Nat.le_of_ble_eq_true rfl) rfl (fun X hC hX hT => zx_throwS (text := "a busy one's failure") (ps := [16, 880, 889, 893, 896, 898, 881, 882, 28, 29, 883, 888, 894, 914, 870, 915, 872, 916, 874, 884, 886, 876, 910, 911,
    913, 876, 901, 902, 903, 904, 904, 905, 906, 907, 907, 908, 909, 910, 900, 859, 867, 868, 869, 871, 873, 875, 879,
    878, 877]) hC hX hT (by decide) (by decide) (by decide) wd_858 wd_21 (by decide +kernel) (by decide +kernel) (by decide +kernel) dX2_fail_0 dX2_fail_3 dX2_fail_4 dX2_fail_6 dX2_fail_9 rfl ⟨Nat.le_of_ble_eq_true rfl, Nat.le_of_ble_eq_true rfl, Nat.le_of_ble_eq_true rfl, Nat.le_of_ble_eq_true rfl⟩) (st_of hfl)
theorem c_X8_fail {l : Launch} (hfl : l.flags = flags0) {G : Gl} {b : Nat} {M : Mm} : MO l G yX8_fail (Cond.code yX8_fail cX8_fail 1 none) rm_fail [.ref b] M (.inr xIAE) M :=
  zx_start hfl (lv := [(0, .ref b)]) (by decide) (Nat.le_of_ble_eq_true rfl) rfl (fun X hC hX hT => zx_throwS (text := "a told one's failure") (ps := [16, 880, 889, 893, 896, 898, 881, 882, 28, 29, 883, 888, 894, 914, 870, 915, 872, 916, 874, 884, 886, 876, 910, 911,
    913, 876, 943, 944, 945, 904, 904, 905, 906, 907, 907, 908, 909, 910, 942, 933, 935, 891, 936, 937, 938, 939, 879,
    878, 940]) hC hX hT (by decide) (by decide) (by decide) wd_932 wd_19 (by decide +kernel) (by decide +kernel) (by decide +kernel) dX8_fail_0 dX8_fail_3 dX8_fail_4 dX8_fail_6 dX8_fail_9 rfl ⟨Nat.le_of_ble_eq_true rfl, Nat.le_of_ble_eq_true rfl, Nat.le_of_ble_eq_true rfl, Nat.le_of_ble_eq_true rfl⟩) (st_of hfl)
theorem c_X6_fail {l : Launch} (hfl : l.flags = flags0) {G : Gl} {b : Nat} {M : Mm} : MO l G yX6_fail (Cond.code yX6_fail cX6_fail 1 none) rm_fail [.ref b] M (.inr xISE) M :=
  zx_start hfl (lv := [(0, .ref b)]) (by decide) (Nat.le_of_ble_eq_true rfl) rfl (fun X hC hX hT => zx_throwS (text := "a rule's failure") (ps := [16, 880, 889, 893, 896, 898, 881, 882, 28, 29, 883, 888, 894, 914, 870, 915, 872, 916, 874, 884, 886, 876, 910, 911,
    913, 876, 961, 962, 963, 904, 904, 905, 906, 907, 907, 908, 909, 910, 960, 951, 953, 892, 954, 955, 956, 957, 879,
    878, 958]) hC hX hT (by decide) (by decide) (by decide) wd_950 wd_20 (by decide +kernel) (by decide +kernel) (by decide +kernel) dX6_fail_0 dX6_fail_3 dX6_fail_4 dX6_fail_6 dX6_fail_9 rfl ⟨Nat.le_of_ble_eq_true rfl, Nat.le_of_ble_eq_true rfl, Nat.le_of_ble_eq_true rfl, Nat.le_of_ble_eq_true rfl⟩) (st_of hfl)
