-- odds: the class's own call
section ODDS
variable {G : GG} {d : Nat} {M : WM}
theorem ix_le {z : Int32} {n : Nat} (hn : n < 2 ^ 30) (h0 : ¬ z < nI 0) (h1 : z ≤ nI n) : ix z (n + 1) := by
  obtain ⟨j, hj, rfl⟩ := nI_of h0
  have := (nI_leI hj (by omega)).mp h1
  exact ix_n (by omega) (by omega)
theorem ix_le' {z : Int32} {n : Nat} (hn : n < 2 ^ 30) (h : ix z (n + 1)) : ¬ z < nI 0 ∧ z ≤ nI n := by
  obtain ⟨j, hj, rfl⟩ := ix_of h (by omega)
  exact ⟨nI_nlt (by omega) (by omega), nI_le (by omega) (by omega)⟩
set_option maxHeartbeats 400000 in
theorem c_odds (hG : Good M) (x y z w : Int32) : Fn G (d + 6) 101 [.ref 0, .int x, .int y, .int z, .int w] M (some (.int (R_odds M x y z w))) M := by
  have hM := hG.m
  have hB := hG.b
  refine Fn_of okc_X9_odds [] ?_
  refine call_k (c_isPair hG x y) ?_
  refine And.intro (fun h => ?_) (fun h => ?_)
  · rw [bI_0] at h
    exact ret_i (iteI_f (fun q => h ⟨q.1, q.2.1⟩)).symm
  rw [bI_0, Classical.not_not] at h
  refine And.intro (fun h1 => ?_) (fun h1 => ?_)
  · exact ret_i (iteI_f (fun q => (ix_le' (n := 10) (by omega) q.2.2.1).1 h1)).symm
  refine And.intro (fun h2 => ?_) (fun h2 => ?_)
  · exact ret_i (iteI_f (fun q => absurd (ix_le' (n := 10) (by omega) q.2.2.1).2 (Int32.not_le.mpr h2))).symm
  refine And.intro (fun h3 => ?_) (fun h3 => ?_)
  · exact ret_i (iteI_f (fun q => (ix_le' (n := 1) (by omega) q.2.2.2).1 h3)).symm
  refine And.intro (fun h4 => ?_) (fun h4 => ?_)
  · have hz := ix_le (n := 10) (by omega) h1 (Int32.not_lt.mp h2)
    have hw := ix_le (n := 1) (by omega) h3 h4
    unfold R_odds
    rw [iteI_t ⟨h.1, h.2, hz, hw⟩]
    obtain ⟨m, hm, rfl⟩ := ix_of h.1 (by omega)
    obtain ⟨b, hb, rfl⟩ := ix_of h.2 (by omega)
    obtain ⟨c, hc, rfl⟩ := ix_of hz (by omega)
    rw [nI_clamp (n := m) (by omega), nI_clamp (n := b) (by omega), nI_clamp (n := c) (by omega)]
    have hl := hG.1.ln hm
    have h10 := p10_d (len M m) (by omega)
    have hu := upp_le (b := b) hG.1 hm hc
    have hg0 : 1 ≤ Nat.gcd (10 ^ len M m) (upp M m b c) := Nat.gcd_pos_of_pos_left _ h10.1
    have hg1 : Nat.gcd (10 ^ len M m) (upp M m b c) ≤ 10 ^ len M m := Nat.gcd_le_left _ h10.1
    have hne : ¬ nI (Nat.gcd (10 ^ len M m) (upp M m b c)) = nI 0 := fun q => by
      have := (nI_eq (by omega) (by omega)).mp q
      omega
    refine call_k (c_ways hG hm hb hc) ?_
    refine call_k (c_length hM.1 hM.2 hm) ?_
    rw [(hG.mo hm).2]
    refine call_k (c_power 10 (len M m) (by omega)) ?_
    refine call_k (c_gcd (i := upp M m b c) (by omega) (by omega)) ?_
    conv => whnf
    rw [max1 hg0 (by omega)]
    unfold S_odds
    refine And.intro (fun h5 => ?_) (fun h5 => ?_)
    · rw [iteI_f h5]
      exact And.intro hne (And.intro rfl rfl)
    · rw [iteI_t h5]
      exact And.intro hne (And.intro rfl rfl)
  · exact ret_i (iteI_f (fun q => h4 (ix_le' (n := 1) (by omega) q.2.2.2).2)).symm
end ODDS
