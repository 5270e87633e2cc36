-- house: the class's Teller over the house of cell 2
section TELL
variable {G : GG} {d : Nat} {N : WM} {L : Nat} {x : Nat → Nat} {s : Sg}
theorem hok2 : Hok 2 20 := by unfold Hok; omega
theorem t_hasWord2 {n : Nat} (hw : wg N 2 0 = nI n) (hn : n ≤ 6) (y : Int32) : Fn G d 26 [.ref 2, .int y] N (some (.int (bI (ix y n)))) N := by
  refine Fn_of okc_X2_hasWord [] ?_
  refine And.intro (fun h => ?_) (fun h => ?_)
  · exact And.intro isB_0 (ret_i (bI_f (fun q => q.1 h)).symm)
  · refine And.intro (fun h1 => ?_) (fun h1 => ?_)
    · rw [hw] at h1
      exact And.intro isB_0 (ret_i (bI_f (fun q => Int32.not_le.mpr q.2 h1)).symm)
    · rw [hw] at h1
      have h3 : ix y n := ⟨h, Int32.not_le.mp h1⟩
      obtain ⟨k, hk, rfl⟩ := ix_of h3 (by omega)
      refine And.intro (fun h2 => ?_) (fun h2 => ?_)
      · exact absurd h2 (nI_ge (by omega) (by omega))
      · exact And.intro isB_1 (ret_i (bI_t h3).symm)
theorem t_addWord2 {n : Nat} (hw : wg N 2 0 = nI n) (hn : n < 6) (l u : Int32) : Fn G d 23 [.ref 2, .int l, .int u] N none (wset (wset (wset N 20 n l) (20 + 1) n u) 2 0 (nI (n + 1))) := by
  refine Fn_of okc_X2_addWord [] ?_
  conv => whnf
  rw [hw]
  refine And.intro (fun h => absurd h (nI_ge (by omega) (by omega))) (fun _ => ?_)
  refine And.intro (by rw [hw]; exact vp_in_nI (by omega) (by decide)) ?_
  rw [hw, nI_clamp (n := n) (by omega)]
  have e1 : wg (wset N 20 n l) 2 0 = nI n := hw
  refine And.intro (by rw [e1]; exact vp_in_nI (by omega) (by decide)) ?_
  rw [e1, nI_clamp (n := n) (by omega)]
  have e2 : wg (wset (wset N 20 n l) (20 + 1) n u) 2 0 = nI n := hw
  conv => whnf
  rw [show wg (wset (wset N 20 n l) 21 n u) 2 0 = nI n from hw, nI_add]
  exact And.intro rfl rfl
theorem t_addBaby2 {n : Nat} (hw : wg N 2 2 = nI n) (hn : n < 4) (l u v : Int32) : Fn G d 25 [.ref 2, .int l, .int u, .int v] N none (wset (wset (wset (wset N (20 + 5) n l) (20 + 6) n u) (20 + 7) n v) 2 2 (nI (n + 1))) := by
  refine Fn_of okc_X2_addBaby [] ?_
  conv => whnf
  rw [hw]
  refine And.intro (fun h => absurd h (nI_ge (by omega) (by omega))) (fun _ => ?_)
  refine And.intro (by rw [hw]; exact vp_in_nI (by omega) (by decide)) ?_
  rw [hw, nI_clamp (n := n) (by omega)]
  refine And.intro (by rw [show wg (wset N 25 n l) 2 2 = nI n from hw]; exact vp_in_nI (by omega) (by decide)) ?_
  rw [show wg (wset N 25 n l) 2 2 = nI n from hw, nI_clamp (n := n) (by omega)]
  refine And.intro (by rw [show wg (wset (wset N 25 n l) 26 n u) 2 2 = nI n from hw]; exact vp_in_nI (by omega) (by decide)) ?_
  rw [show wg (wset (wset N 25 n l) 26 n u) 2 2 = nI n from hw, nI_clamp (n := n) (by omega)]
  conv => whnf
  rw [show wg (wset (wset (wset N 25 n l) 26 n u) 27 n v) 2 2 = nI n from hw, nI_add]
  exact And.intro rfl rfl
theorem t_addMotion2 {m n : Nat} (hw : wg N 2 1 = nI m) (hm : m < 5) (hn1 : 1 ≤ n) (hn : n ≤ 6) : Fn G d 24 [.ref 2, .ref 29, .int (nI n)] N none (wset (wcpy (wset (wset N (20 + 2) m (wg N 29 0)) (20 + 3) m (nI n)) 29 (20 + 4) 1 (m * 6) n) 2 1 (nI (m + 1))) := by
  refine Fn_of okc_X2_addMotion [] ?_
  conv => whnf
  rw [hw]
  refine And.intro (fun h => absurd h (nI_ge (by omega) (by omega))) (fun _ => ?_)
  refine And.intro (fun h => absurd h (nI_nlt (by omega) (by omega))) (fun _ => ?_)
  refine And.intro (fun h => absurd h (nI_nlt (by omega) (by omega))) (fun _ => ?_)
  refine And.intro (fun h => absurd h (nI_ge (by omega) (by omega))) (fun _ => ?_)
  refine And.intro (vp_in_nI (by omega) (by decide)) ?_
  refine And.intro (by rw [hw]; exact vp_in_nI (by omega) (by decide)) ?_
  rw [hw, nI_clamp (n := m) (by omega), nI_clamp (n := 0) (by omega)]
  refine And.intro (by rw [show wg (wset N 22 m (wg N 29 0)) 2 1 = nI m from hw]; exact vp_in_nI (by omega) (by decide)) ?_
  rw [show wg (wset N 22 m (wg N 29 0)) 2 1 = nI m from hw, nI_clamp (n := m) (by omega)]
  conv => whnf
  rw [show wg (wset (wset N 22 m (wg N 29 0)) 23 m (nI n)) 2 1 = nI m from hw, pk_mul, nI_clamp (n := 1) (by omega), nI_clamp (n := m * 6) (by omega), nI_clamp (n := n) (by omega)]
  refine And.intro (And.intro (nI_nlt (Nat.zero_le _) (by omega)) (And.intro (nI_nlt (Nat.zero_le _) (by omega)) (And.intro (nI_nlt (Nat.zero_le _) (by omega)) (And.intro (by omega) (by omega))))) ?_
  conv => whnf
  rw [show wg (wcpy (wset (wset N 22 m (wg N 29 0)) 23 m (nI n)) 29 24 1 (m * 6) n) 2 1 = nI m from hw, nI_add]
  exact And.intro rfl rfl
theorem t_hasRoom2 {hs : Hs} (hc : HsC N 2 20 hs) (ho : HsOK hs) {c : Nat} (hc2 : c ≤ 255) : Fn G d 80 [.ref 2, .int (nI c)] N (some (.int (bI (roomC hs c)))) N := by
  obtain ⟨o1, o2, o3, _⟩ := ho
  obtain ⟨⟨q0, q1, q2⟩, _⟩ := hc
  unfold roomC
  refine Fn_of okc_X8_hasRoom [] ?_
  refine And.intro (fun h => ?_) (fun h => And.intro (fun h1 => ?_) (fun h1 => And.intro (fun h2 => ?_) (fun h2 => ?_)))
  · have h : nI c = nI 98 := h
    rw [nI_eq (by omega) (by omega)] at h
    conv => whnf
    rw [q2]
    refine And.intro (fun z => ?_) (fun z => ?_)
    · rw [nI_leI (by omega) (by omega)] at z
      exact And.intro isB_0 (ret_i (bI_f (by omega)).symm)
    · rw [nI_leI (by omega) (by omega)] at z
      exact And.intro isB_1 (ret_i (bI_t (by omega)).symm)
  · have h1 : nI c = nI 109 := h1
    rw [nI_eq (by omega) (by omega)] at h1
    conv => whnf
    rw [q1]
    refine And.intro (fun z => ?_) (fun z => ?_)
    · rw [nI_leI (by omega) (by omega)] at z
      exact And.intro isB_0 (ret_i (bI_f (by omega)).symm)
    · rw [nI_leI (by omega) (by omega)] at z
      exact And.intro isB_1 (ret_i (bI_t (by omega)).symm)
  · have h2 : nI c = nI 119 := h2
    rw [nI_eq (by omega) (by omega)] at h2
    conv => whnf
    rw [q0]
    refine And.intro (fun z => ?_) (fun z => ?_)
    · rw [nI_leI (by omega) (by omega)] at z
      exact And.intro isB_0 (ret_i (bI_f (by omega)).symm)
    · rw [nI_leI (by omega) (by omega)] at z
      exact And.intro isB_1 (ret_i (bI_t (by omega)).symm)
  · have h : ¬ nI c = nI 98 := h
    have h1 : ¬ nI c = nI 109 := h1
    have h2 : ¬ nI c = nI 119 := h2
    rw [nI_eq (by omega) (by omega)] at h h1 h2
    exact And.intro isB_0 (ret_i (bI_f (by omega)).symm)
theorem t_may2 (ht : TcS N 2 20 s) (ho : SgOK s) (hi : s.1 ≤ 119) {v : Nat} (hv : v ≤ 99) : Fn G (d + 1) 82 [.ref 3, .ref 2, .int (nI v)] N (some (.int (bI (may s v)))) N := by
  obtain ⟨⟨o1, o2, o3, _⟩, og, _⟩ := ho
  obtain ⟨t3, t4, _, ⟨⟨q0, q1, q2⟩, _⟩⟩ := ht
  obtain ⟨it, got, nu, hs⟩ := s
  rw [bI_iff (show may (it, got, nu, hs) v ↔ ((it = 119 ∧ ((got = 0 ∧ v ≤ 9) ∨ (got = 1 ∧ v ≤ 5))) ∨ (it = 109 ∧ (got = 0 ∨ (got ≤ 6 ∧ v < hs.1))) ∨ (it = 98 ∧ ((got = 0 ∧ v ≤ 9) ∨ (got = 1 ∧ v ≤ 3) ∨ (got = 2 ∧ 1 ≤ v)))) from Iff.rfl)]
  refine Fn_of okc_X8_mayStand [] ?_
  conv => whnf
  rw [t3]
  have og : got ≤ 7 := og
  have hi : it ≤ 119 := hi
  have t4 : wg N 3 4 = nI got := t4
  have q0 : wg N 2 0 = nI hs.1 := q0
  have o1 : hs.1 ≤ 6 := o1
  show _ ∧ _
  refine And.intro (fun h => ?_) (fun h => And.intro (fun h1 => ?_) (fun h1 => And.intro (fun h2 => ?_) (fun h2 => ?_)))
  · have h : nI it = nI 98 := h
    rw [nI_eq (by omega) (by omega)] at h
    conv => whnf
    rw [t4]
    refine And.intro (fun z => ?_) (fun z => ?_)
    · rw [nI_eq (by omega) (by omega)] at z
      conv => whnf
      rw [t4]
      refine And.intro (fun y => ?_) (fun y => ?_)
      · rw [nI_eq (by omega) (by omega)] at y
        conv => whnf
        rw [t4]
        refine And.intro (fun w => ?_) (fun w => ?_)
        · rw [nI_eq (by omega) (by omega)] at w
          exact And.intro isB_0 (ret_i (bI_f (by omega)).symm)
        · rw [nI_eq (by omega) (by omega)] at w
          refine And.intro (fun u => ?_) (fun u => ?_)
          · rw [nI_ltI (by omega) (by omega)] at u
            exact And.intro isB_0 (ret_i (bI_f (by omega)).symm)
          · rw [nI_ltI (by omega) (by omega)] at u
            exact And.intro isB_1 (ret_i (bI_t (by omega)).symm)
      · rw [nI_eq (by omega) (by omega)] at y
        refine And.intro (fun u => ?_) (fun u => ?_)
        · rw [nI_leI (by omega) (by omega)] at u
          exact And.intro isB_1 (ret_i (bI_t (by omega)).symm)
        · rw [nI_leI (by omega) (by omega)] at u
          conv => whnf
          rw [t4]
          refine And.intro (fun w => ?_) (fun w => ?_)
          · exact And.intro isB_0 (ret_i (bI_f (by omega)).symm)
          · rw [nI_eq (by omega) (by omega)] at w
            omega
    · rw [nI_eq (by omega) (by omega)] at z
      refine And.intro (fun u => ?_) (fun u => ?_)
      · rw [nI_leI (by omega) (by omega)] at u
        exact And.intro isB_1 (ret_i (bI_t (by omega)).symm)
      · rw [nI_leI (by omega) (by omega)] at u
        conv => whnf
        rw [t4]
        refine And.intro (fun w => ?_) (fun w => ?_)
        · conv => whnf
          rw [t4]
          refine And.intro (fun w => ?_) (fun w => ?_)
          · exact And.intro isB_0 (ret_i (bI_f (by omega)).symm)
          · rw [nI_eq (by omega) (by omega)] at w
            omega
        · rw [nI_eq (by omega) (by omega)] at w
          omega
  · have h1 : nI it = nI 109 := h1
    rw [nI_eq (by omega) (by omega)] at h1
    conv => whnf
    rw [t4]
    refine And.intro (fun z => ?_) (fun z => ?_)
    · rw [nI_eq (by omega) (by omega)] at z
      exact And.intro isB_1 (ret_i (bI_t (by omega)).symm)
    · rw [nI_eq (by omega) (by omega)] at z
      conv => whnf
      rw [t4]
      refine And.intro (fun w => ?_) (fun w => ?_)
      · rw [nI_ltI (by omega) (by omega)] at w
        exact And.intro isB_0 (ret_i (bI_f (by omega)).symm)
      · rw [nI_ltI (by omega) (by omega)] at w
        refine call_k (t_hasWord2 q0 o1 _) ?_
        refine And.intro (fun u => ?_) (fun u => ?_)
        · rw [bI_0] at u
          have u2 : ¬ v < hs.1 := fun q => u (ix_n q (by omega))
          exact And.intro isB_0 (ret_i (bI_f (by omega)).symm)
        · rw [bI_0, Classical.not_not] at u
          have u2 : v < hs.1 := (nI_ltI (by omega) (by omega)).mp u.2
          exact And.intro isB_1 (ret_i (bI_t (by omega)).symm)
  · have h2 : nI it = nI 119 := h2
    rw [nI_eq (by omega) (by omega)] at h2
    conv => whnf
    rw [t4]
    refine And.intro (fun z => ?_) (fun z => ?_)
    · rw [nI_eq (by omega) (by omega)] at z
      conv => whnf
      rw [t4]
      refine And.intro (fun y => ?_) (fun y => ?_)
      · rw [nI_eq (by omega) (by omega)] at y
        exact And.intro isB_0 (ret_i (bI_f (by omega)).symm)
      · rw [nI_eq (by omega) (by omega)] at y
        refine And.intro (fun u => ?_) (fun u => ?_)
        · rw [nI_ltI (by omega) (by omega)] at u
          exact And.intro isB_0 (ret_i (bI_f (by omega)).symm)
        · rw [nI_ltI (by omega) (by omega)] at u
          exact And.intro isB_1 (ret_i (bI_t (by omega)).symm)
    · rw [nI_eq (by omega) (by omega)] at z
      refine And.intro (fun u => ?_) (fun u => ?_)
      · rw [nI_leI (by omega) (by omega)] at u
        exact And.intro isB_1 (ret_i (bI_t (by omega)).symm)
      · rw [nI_leI (by omega) (by omega)] at u
        conv => whnf
        rw [t4]
        refine And.intro (fun w => ?_) (fun w => ?_)
        · exact And.intro isB_0 (ret_i (bI_f (by omega)).symm)
        · rw [nI_eq (by omega) (by omega)] at w
          omega
  · have h : ¬ nI it = nI 98 := h
    have h1 : ¬ nI it = nI 109 := h1
    have h2 : ¬ nI it = nI 119 := h2
    rw [nI_eq (by omega) (by omega)] at h h1 h2
    exact And.intro isB_0 (ret_i (bI_f (by omega)).symm)
end TELL
