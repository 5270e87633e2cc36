-- odds: the reference's call
section ODDS
variable {G : GG} {d : Nat} {M : WM}
set_option maxHeartbeats 400000 in
theorem lp_m77 (hG : GM M) {m b x : Nat} (hm : m < nMo M) (hb : b < 4) (hx : x < 11) (w : Int32) : ∀ (n p : Nat) (N : WM) (lo : Nat → Int32) (z8 z9 : Option Value), p + n = 2 ^ len M m → Sc M N → RowIs N (txt M m) (len M m) lo →
    A G (d + 2) 159 77 [some (.ref 39), some (.int (nI m)), some (.int (nI b)), some (.int (nI x)), some (.int w), some (.int (nI (10 ^ len M m))), some (.int (nI (smm M m b x p))), some (.int (nI p)), z8, z9] [] N (AnsS M (S_odds M m b x w))
  | 0, p, N, lo, z8, z9, hp, hs, hR => by
    have hl := hG.ln hm
    have h64 := p2_d (len M m) (by omega)
    have h10 := p10_d (len M m) (by omega)
    have hu := upp_le (b := b) hG hm hx
    have hg0 : 1 ≤ Nat.gcd (10 ^ len M m) (upp M m b x) := Nat.gcd_pos_of_pos_left _ h10.1
    have hg1 : Nat.gcd (10 ^ len M m) (upp M m b x) ≤ 10 ^ len M m := Nat.gcd_le_left _ h10.1
    refine A_wp okc_X10_odds [77, 94, 194] ?_
    conv => whnf
    rw [hR.1, shl_d _ (by omega)]
    refine And.intro (fun _ => ?_) (fun h => absurd (nI_le (by omega) (by omega)) h)
    have e : smm M m b x p = upp M m b x := by unfold upp; rw [show 2 ^ len M m = p by omega]
    rw [e]
    refine And.intro trivial ?_
    exact lp_mgcd (d := d + 2) hs hg0 (by omega) _ _ _ w 100 (upp M m b x) (10 ^ len M m) z9 (by omega) (by omega) (en_2 50 _ _ (Nat.lt_of_le_of_lt h10.2 (by decide))) rfl
  | n + 1, p, N, lo, z8, z9, hp, hs, hR => by
    have hl := hG.ln hm
    have h64 := p2_d (len M m) (by omega)
    refine A_wp okc_X10_odds [77, 94, 194] ?_
    conv => whnf
    rw [hR.1, shl_d _ (by omega)]
    refine And.intro (fun h => absurd h (nI_ge (by omega) (by omega))) (fun _ => ?_)
    refine And.intro trivial ?_
    exact lp_mbits hG hm hb hx (by omega) w _ _ (fun N' a8 a9 hs' hR' => lp_m77 hG hm hb hx w n (p + 1) N' _ a8 a9 (by omega) hs' hR') (len M m) 0 N lo (by omega) hs hR (fun i hi => absurd hi (by omega))
set_option maxHeartbeats 400000 in
theorem lp_m49 (hG : GM M) {m b x : Nat} (hm : m < nMo M) (hb : b < 4) (hx : x < 11) (w : Int32) {N : WM} {lo : Nat → Int32} (hs : Sc M N) (hR : RowIs N (txt M m) (len M m) lo) : ∀ (n k : Nat), k + n = len M m →
    A G (d + 2) 159 49 [some (.ref 39), some (.int (nI m)), some (.int (nI b)), some (.int (nI x)), some (.int w), some (.int (nI (10 ^ k))), some (.int (nI k)), none, none, none] [] N (AnsS M (S_odds M m b x w))
  | 0, k, hk => by
    have hl := hG.ln hm
    refine A_wp okc_X10_odds [49, 77] ?_
    conv => whnf
    rw [hR.1]
    refine And.intro (fun _ => ?_) (fun h => absurd (nI_le (by omega) (by omega)) h)
    have f := lp_m77 (G := G) (d := d) hG hm hb hx w (2 ^ len M m) 0 N lo none none (by omega) hs hR
    rw [show 10 ^ len M m = 10 ^ k by rw [show len M m = k by omega]] at f
    exact And.intro trivial f
  | n + 1, k, hk => by
    have hl := hG.ln hm
    refine A_wp okc_X10_odds [49, 77] ?_
    conv => whnf
    rw [hR.1]
    refine And.intro (fun h => absurd h (nI_ge (by omega) (by omega))) (fun _ => ?_)
    have ih := lp_m49 hG hm hb hx w hs hR n (k + 1) (by omega)
    rw [← nI_add k 1, Nat.pow_succ, ← nIm] at ih
    exact And.intro trivial ih
set_option maxHeartbeats 400000 in
theorem m_odds (hG : GM M) (x y z w : Int32) : Fr G (d + 2) 159 [.ref 39, .int x, .int y, .int z, .int w] M (AnsS M (R_odds M x y z w)) := by
  have hW := hG.m
  have hB := hG.b
  refine Fr_of okc_X10_odds [49] ?_
  refine call_k (c_isMotion hG x) ?_
  refine And.intro (fun h => ?_) (fun h => ?_)
  · rw [bI_0] at h
    exact AnsS.rf (iteI_f (fun q => h q.1)).symm
  rw [bI_0, Classical.not_not] at h
  refine call_k (c_isBaby hG y) ?_
  refine And.intro (fun h1 => ?_) (fun h1 => ?_)
  · rw [bI_0] at h1
    exact AnsS.rf (iteI_f (fun q => h1 q.2.1)).symm
  rw [bI_0, Classical.not_not] at h1
  refine call_k (c_in _ _ _) ?_
  refine And.intro (fun h2 => ?_) (fun h2 => ?_)
  · rw [bI_0] at h2
    exact AnsS.rf (iteI_f (fun q => h2 (ix_le' (n := 10) (by omega) q.2.2.1))).symm
  rw [bI_0, Classical.not_not] at h2
  refine call_k (c_in _ _ _) ?_
  refine And.intro (fun h3 => ?_) (fun h3 => ?_)
  · rw [bI_0, Classical.not_not] at h3
    have hz := ix_le (n := 10) (by omega) h2.1 h2.2
    unfold R_odds
    rw [iteI_t ⟨h, h1, hz, ix_le (n := 1) (by omega) h3.1 h3.2⟩]
    obtain ⟨m, hm, rfl⟩ := ix_of h (by omega)
    obtain ⟨b, hb, rfl⟩ := ix_of h1 (by omega)
    obtain ⟨c, hc, rfl⟩ := ix_of hz (by omega)
    rw [nI_clamp (n := m) (by omega), nI_clamp (n := b) (by omega), nI_clamp (n := c) (by omega)]
    refine call_k (m_rowOf hG hm) ?_
    exact And.intro trivial (lp_m49 hG hm (by omega) hc w (rowL_sc M m _) (rowL_is hG hm) (len M m) 0 (by omega))
  · rw [bI_0] at h3
    exact AnsS.rf (iteI_f (fun q => h3 (ix_le' (n := 1) (by omega) q.2.2.2))).symm
theorem s_odds (hg : GoodT M) (x y z w : Int32) : Same G 101 159 [.int x, .int y, .int z, .int w] M := Same.pure hg (c_odds (d := 34) hg.1 x y z w) (m_odds (d := 38) hg.1.1 x y z w)
end ODDS
