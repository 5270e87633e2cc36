theorem okl_0 : (List.range 50).all (fun i => okLf (MN 177).cls (MB 177) (i + 0) (cd_L_law (i + 0))) = true := by decide +kernel
theorem okl_50 : (List.range 50).all (fun i => okLf (MN 177).cls (MB 177) (i + 50) (cd_L_law (i + 50))) = true := by decide +kernel
theorem okl_100 : (List.range 50).all (fun i => okLf (MN 177).cls (MB 177) (i + 100) (cd_L_law (i + 100))) = true := by decide +kernel
theorem okl_150 : (List.range 50).all (fun i => okLf (MN 177).cls (MB 177) (i + 150) (cd_L_law (i + 150))) = true := by decide +kernel
theorem okl_200 : (List.range 50).all (fun i => okLf (MN 177).cls (MB 177) (i + 200) (cd_L_law (i + 200))) = true := by decide +kernel
theorem okl_250 : (List.range 50).all (fun i => okLf (MN 177).cls (MB 177) (i + 250) (cd_L_law (i + 250))) = true := by decide +kernel
theorem okl_300 : (List.range 50).all (fun i => okLf (MN 177).cls (MB 177) (i + 300) (cd_L_law (i + 300))) = true := by decide +kernel
theorem okl_350 : (List.range 50).all (fun i => okLf (MN 177).cls (MB 177) (i + 350) (cd_L_law (i + 350))) = true := by decide +kernel
theorem okl_400 : (List.range 50).all (fun i => okLf (MN 177).cls (MB 177) (i + 400) (cd_L_law (i + 400))) = true := by decide +kernel
theorem okl_450 : (List.range 50).all (fun i => okLf (MN 177).cls (MB 177) (i + 450) (cd_L_law (i + 450))) = true := by decide +kernel
theorem okl_500 : (List.range 50).all (fun i => okLf (MN 177).cls (MB 177) (i + 500) (cd_L_law (i + 500))) = true := by decide +kernel
theorem okl_550 : (List.range 50).all (fun i => okLf (MN 177).cls (MB 177) (i + 550) (cd_L_law (i + 550))) = true := by decide +kernel
theorem okl_600 : (List.range 50).all (fun i => okLf (MN 177).cls (MB 177) (i + 600) (cd_L_law (i + 600))) = true := by decide +kernel
theorem okl_650 : (List.range 50).all (fun i => okLf (MN 177).cls (MB 177) (i + 650) (cd_L_law (i + 650))) = true := by decide +kernel
theorem okl_700 : (List.range 50).all (fun i => okLf (MN 177).cls (MB 177) (i + 700) (cd_L_law (i + 700))) = true := by decide +kernel
theorem okl_750 : (List.range 50).all (fun i => okLf (MN 177).cls (MB 177) (i + 750) (cd_L_law (i + 750))) = true := by decide +kernel
theorem okl_800 : (List.range 50).all (fun i => okLf (MN 177).cls (MB 177) (i + 800) (cd_L_law (i + 800))) = true := by decide +kernel
theorem okl_850 : (List.range 50).all (fun i => okLf (MN 177).cls (MB 177) (i + 850) (cd_L_law (i + 850))) = true := by decide +kernel
theorem okl_900 : (List.range 33).all (fun i => okLf (MN 177).cls (MB 177) (i + 900) (cd_L_law (i + 900))) = true := by decide +kernel
theorem okc_L_law : ∀ pc, okLf (MN 177).cls (MB 177) pc (cd_L_law pc) = true := by
  have key : ∀ (k n pc : Nat), (List.range n).all (fun i => okLf (MN 177).cls (MB 177) (i + k) (cd_L_law (i + k))) = true → k ≤ pc → pc < k + n → okLf (MN 177).cls (MB 177) pc (cd_L_law pc) = true := by
    intro k n pc h h1 h2
    have := List.all_eq_true.mp h (pc - k) (List.mem_range.mpr (by omega))
    rwa [show pc - k + k = pc by omega] at this
  intro pc
  rcases Nat.lt_or_ge 932 pc with q | q
  · rw [cd_L_law, ble_f q]; rfl
  rcases Nat.lt_or_ge pc 50 with z | z
  · exact key 0 50 pc okl_0 (by omega) (by omega)
  rcases Nat.lt_or_ge pc 100 with z | z
  · exact key 50 50 pc okl_50 (by omega) (by omega)
  rcases Nat.lt_or_ge pc 150 with z | z
  · exact key 100 50 pc okl_100 (by omega) (by omega)
  rcases Nat.lt_or_ge pc 200 with z | z
  · exact key 150 50 pc okl_150 (by omega) (by omega)
  rcases Nat.lt_or_ge pc 250 with z | z
  · exact key 200 50 pc okl_200 (by omega) (by omega)
  rcases Nat.lt_or_ge pc 300 with z | z
  · exact key 250 50 pc okl_250 (by omega) (by omega)
  rcases Nat.lt_or_ge pc 350 with z | z
  · exact key 300 50 pc okl_300 (by omega) (by omega)
  rcases Nat.lt_or_ge pc 400 with z | z
  · exact key 350 50 pc okl_350 (by omega) (by omega)
  rcases Nat.lt_or_ge pc 450 with z | z
  · exact key 400 50 pc okl_400 (by omega) (by omega)
  rcases Nat.lt_or_ge pc 500 with z | z
  · exact key 450 50 pc okl_450 (by omega) (by omega)
  rcases Nat.lt_or_ge pc 550 with z | z
  · exact key 500 50 pc okl_500 (by omega) (by omega)
  rcases Nat.lt_or_ge pc 600 with z | z
  · exact key 550 50 pc okl_550 (by omega) (by omega)
  rcases Nat.lt_or_ge pc 650 with z | z
  · exact key 600 50 pc okl_600 (by omega) (by omega)
  rcases Nat.lt_or_ge pc 700 with z | z
  · exact key 650 50 pc okl_650 (by omega) (by omega)
  rcases Nat.lt_or_ge pc 750 with z | z
  · exact key 700 50 pc okl_700 (by omega) (by omega)
  rcases Nat.lt_or_ge pc 800 with z | z
  · exact key 750 50 pc okl_750 (by omega) (by omega)
  rcases Nat.lt_or_ge pc 850 with z | z
  · exact key 800 50 pc okl_800 (by omega) (by omega)
  rcases Nat.lt_or_ge pc 900 with z | z
  · exact key 850 50 pc okl_850 (by omega) (by omega)
  exact key 900 33 pc okl_900 (by omega) (by omega)
