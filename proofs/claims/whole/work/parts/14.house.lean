-- House (told: cell 1): reads; Now (cell 4)
section HOUSE
variable {G : GG} {d : Nat} {M : WM} {n : Nat}
theorem c_hasWord (hw : wg M 1 0 = nI n) (hn : n ≤ 6) (x : Int32) : Fn G d 26 [.ref 1, .int x] M (some (.int (bI (ix x n)))) M := by
  refine Fn_of okc_X2_hasWord [] ?_
  refine And.intro (fun h => ?_) (fun h => ?_)
  · exact And.intro isB_0 (ret_i (bI_f (fun q => q.1 h)).symm)
  · refine And.intro (fun h1 => ?_) (fun h1 => ?_)
    · rw [hw] at h1
      exact And.intro isB_0 (ret_i (bI_f (fun q => Int32.not_le.mpr q.2 h1)).symm)
    · rw [hw] at h1
      have h3 : ix x n := ⟨h, Int32.not_le.mp h1⟩
      obtain ⟨k, hk, rfl⟩ := ix_of h3 (by omega)
      refine And.intro (fun h2 => ?_) (fun h2 => ?_)
      · exact absurd h2 (nI_ge (by omega) (by omega))
      · exact And.intro isB_1 (ret_i (bI_t h3).symm)
theorem c_hasMotion (hw : wg M 1 1 = nI n) (hn : n ≤ 5) (x : Int32) : Fn G d 27 [.ref 1, .int x] M (some (.int (bI (ix x n)))) M := by
  refine Fn_of okc_X2_hasMotion [] ?_
  refine And.intro (fun h => ?_) (fun h => ?_)
  · exact And.intro isB_0 (ret_i (bI_f (fun q => q.1 h)).symm)
  · refine And.intro (fun h1 => ?_) (fun h1 => ?_)
    · rw [hw] at h1
      exact And.intro isB_0 (ret_i (bI_f (fun q => Int32.not_le.mpr q.2 h1)).symm)
    · rw [hw] at h1
      have h3 : ix x n := ⟨h, Int32.not_le.mp h1⟩
      obtain ⟨k, hk, rfl⟩ := ix_of h3 (by omega)
      refine And.intro (fun h2 => ?_) (fun h2 => ?_)
      · exact absurd h2 (nI_ge (by omega) (by omega))
      · exact And.intro isB_1 (ret_i (bI_t h3).symm)
theorem c_hasBaby (hw : wg M 1 2 = nI n) (hn : n ≤ 4) (x : Int32) : Fn G d 28 [.ref 1, .int x] M (some (.int (bI (ix x n)))) M := by
  refine Fn_of okc_X2_hasBaby [] ?_
  refine And.intro (fun h => ?_) (fun h => ?_)
  · exact And.intro isB_0 (ret_i (bI_f (fun q => q.1 h)).symm)
  · refine And.intro (fun h1 => ?_) (fun h1 => ?_)
    · rw [hw] at h1
      exact And.intro isB_0 (ret_i (bI_f (fun q => Int32.not_le.mpr q.2 h1)).symm)
    · rw [hw] at h1
      have h3 : ix x n := ⟨h, Int32.not_le.mp h1⟩
      obtain ⟨k, hk, rfl⟩ := ix_of h3 (by omega)
      refine And.intro (fun h2 => ?_) (fun h2 => ?_)
      · exact absurd h2 (nI_ge (by omega) (by omega))
      · exact And.intro isB_1 (ret_i (bI_t h3).symm)
theorem c_loud (_hw : wg M 1 0 = nI n) (hn : n ≤ 6) {k : Nat} (hk : k < n) : Fn G (d + 1) 29 [.ref 1, .int (nI k)] M (some (.int (wg M 12 k))) M := by
  refine Fn_of okc_X2_loud [] ?_
  refine And.intro (fun h => absurd h (nI_nlt (Nat.zero_le _) (by omega))) (fun _ => ?_)
  refine And.intro (fun h => absurd h (nI_ge (by omega) (by omega))) (fun _ => ?_)
  refine And.intro (vp_in_nI (by omega) (by decide)) ?_
  rw [nI_clamp (by omega)]
  exact And.intro rfl rfl
theorem c_lull (_hw : wg M 1 0 = nI n) (hn : n ≤ 6) {k : Nat} (hk : k < n) : Fn G (d + 1) 30 [.ref 1, .int (nI k)] M (some (.int (wg M 13 k))) M := by
  refine Fn_of okc_X2_lull [] ?_
  refine And.intro (fun h => absurd h (nI_nlt (Nat.zero_le _) (by omega))) (fun _ => ?_)
  refine And.intro (fun h => absurd h (nI_ge (by omega) (by omega))) (fun _ => ?_)
  refine And.intro (vp_in_nI (by omega) (by decide)) ?_
  rw [nI_clamp (by omega)]
  exact And.intro rfl rfl
theorem c_worth (_hw : wg M 1 1 = nI n) (hn : n ≤ 5) {k : Nat} (hk : k < n) : Fn G (d + 1) 31 [.ref 1, .int (nI k)] M (some (.int (wg M 14 k))) M := by
  refine Fn_of okc_X2_worth [] ?_
  refine And.intro (fun h => absurd h (nI_nlt (Nat.zero_le _) (by omega))) (fun _ => ?_)
  refine And.intro (fun h => absurd h (nI_ge (by omega) (by omega))) (fun _ => ?_)
  refine And.intro (vp_in_nI (by omega) (by decide)) ?_
  rw [nI_clamp (by omega)]
  exact And.intro rfl rfl
theorem c_length (_hw : wg M 1 1 = nI n) (hn : n ≤ 5) {k : Nat} (hk : k < n) : Fn G (d + 1) 32 [.ref 1, .int (nI k)] M (some (.int (wg M 15 k))) M := by
  refine Fn_of okc_X2_length [] ?_
  refine And.intro (fun h => absurd h (nI_nlt (Nat.zero_le _) (by omega))) (fun _ => ?_)
  refine And.intro (fun h => absurd h (nI_ge (by omega) (by omega))) (fun _ => ?_)
  refine And.intro (vp_in_nI (by omega) (by decide)) ?_
  rw [nI_clamp (by omega)]
  exact And.intro rfl rfl
theorem c_ears (_hw : wg M 1 2 = nI n) (hn : n ≤ 4) {k : Nat} (hk : k < n) : Fn G (d + 1) 35 [.ref 1, .int (nI k)] M (some (.int (wg M 18 k))) M := by
  refine Fn_of okc_X2_ears [] ?_
  refine And.intro (fun h => absurd h (nI_nlt (Nat.zero_le _) (by omega))) (fun _ => ?_)
  refine And.intro (fun h => absurd h (nI_ge (by omega) (by omega))) (fun _ => ?_)
  refine And.intro (vp_in_nI (by omega) (by decide)) ?_
  rw [nI_clamp (by omega)]
  exact And.intro rfl rfl
theorem c_hunger (_hw : wg M 1 2 = nI n) (hn : n ≤ 4) {k : Nat} (hk : k < n) : Fn G (d + 1) 36 [.ref 1, .int (nI k)] M (some (.int (wg M 19 k))) M := by
  refine Fn_of okc_X2_hunger [] ?_
  refine And.intro (fun h => absurd h (nI_nlt (Nat.zero_le _) (by omega))) (fun _ => ?_)
  refine And.intro (fun h => absurd h (nI_ge (by omega) (by omega))) (fun _ => ?_)
  refine And.intro (vp_in_nI (by omega) (by decide)) ?_
  rw [nI_clamp (by omega)]
  exact And.intro rfl rfl
theorem c_depth (_hw : wg M 1 2 = nI n) (hn : n ≤ 4) {k : Nat} (hk : k < n) : Fn G (d + 1) 34 [.ref 1, .int (nI k)] M (some (.int (wg M 17 k))) M := by
  refine Fn_of okc_X2_depth [] ?_
  refine And.intro (fun h => absurd h (nI_nlt (Nat.zero_le _) (by omega))) (fun _ => ?_)
  refine And.intro (fun h => absurd h (nI_ge (by omega) (by omega))) (fun _ => ?_)
  refine And.intro (vp_in_nI (by omega) (by decide)) ?_
  rw [nI_clamp (by omega)]
  exact And.intro rfl rfl
end HOUSE
