-- the class's own calls that change nothing: what they answer, in words over the reference's cells
section RS
noncomputable def R_word (M : WM) (x y : Int32) : Int32 := iteI (ix x (nW M)) (iteI (y = nI 0) (wg M 40 (2 * x.toNatClampNeg)) (iteI (y = nI 1) (wg M 40 (2 * x.toNatClampNeg + 1)) (mI 1))) (mI 1)
noncomputable def R_motion (M : WM) (x y : Int32) : Int32 := iteI (ix x (nMo M)) (iteI (y = nI 0) (wg M 41 (8 * x.toNatClampNeg)) (iteI (y = nI 1) (nI (len M x.toNatClampNeg)) (iteI (y = nI 2) (iteI (bt (wg M 43 1) x) (nI 1) (iteI (bt (wg M 43 2) x) (nI 2) (nI 0))) (mI 1)))) (mI 1)
noncomputable def R_said (M : WM) (x y : Int32) : Int32 := iteI (ix x (nMo M) ∧ ix y (len M x.toNatClampNeg)) (nI (txt M x.toNatClampNeg y.toNatClampNeg)) (mI 1)
noncomputable def R_baby (M : WM) (x y : Int32) : Int32 := iteI (ix x (nB M)) (iteI (y = nI 0) (wg M 43 (3 + x.toNatClampNeg)) (iteI (y = nI 1) (wg M 42 (2 * x.toNatClampNeg)) (iteI (y = nI 2) (wg M 42 (2 * x.toNatClampNeg + 1)) (iteI (y = nI 3) (wg M 43 (7 + x.toNatClampNeg)) (iteI (y = nI 4) (bI (hun M x.toNatClampNeg)) (mI 1)))))) (mI 1)
noncomputable def R_now (M : WM) (y : Int32) : Int32 := iteI (y = nI 0) (wg M 43 0) (iteI (y = nI 1) (wg M 43 1) (iteI (y = nI 2) (wg M 43 2) (iteI (y = nI 3) (ernd M (nMo M) 0 (nI 0)) (iteI (y = nI 4) (aslp M (nB M) 0 (nI 0)) (iteI (y = nI 5) (wg M 39 8) (mI 1))))))
noncomputable def R_pair (M : WM) (x y : Int32) (r : Int32) : Int32 := iteI (ix x (nMo M) ∧ ix y (nB M)) r (mI 1)
noncomputable def S_deep (M : WM) (m b : Nat) : Int32 := fstI (fun k => ¬ rn0 M m b zlo (nI k) = nI 0) 9 1
noncomputable def S_rock (M : WM) (m b : Nat) : Int32 := fstI (fun k => ¬ rn0 M m b zlo (rockN (wg M 43 (3 + b)) k) = nI 0) 5 0
noncomputable def S_noise (M : WM) (m b : Nat) (y : Int32) : Int32 := iteI (lld M m b = mI 9 ∨ y = nI 0) (lld M m b) (fpw M m b (lld M m b))
noncomputable def R_noise (M : WM) (x y z : Int32) : Int32 := iteI (ix x (nMo M) ∧ ix y (nB M) ∧ ix z 2) (S_noise M x.toNatClampNeg y.toNatClampNeg z) (mI 1)
noncomputable def whc (M : WM) : Nat → Nat → Int32 → Int32
  | 0, _, s => s
  | n + 1, k, s => whc M n (k + 1) (iteI (hso M k 0 (nH M)) (s ||| nI 1 <<< (nI k &&& 31)) s)
noncomputable def R_count (M : WM) (y : Int32) : Int32 := iteI (y = nI 0) (wg M 39 0) (iteI (y = nI 1) (wg M 39 2) (iteI (y = nI 2) (wg M 39 4) (iteI (y = nI 3) (wg M 39 11) (iteI (y = nI 4) (wg M 39 15) (mI 1)))))
end RS
section PUB
variable {G : GG} {d : Nat} {M : WM}
theorem c_word (hG : Good M) (x y : Int32) : Fn G (d + 2) 87 [.ref 0, .int x, .int y] M (some (.int (R_word M x y))) M := by
  have hW := hG.w
  refine Fn_of okc_X9_word [] ?_
  refine call_k (c_hasWord hW.1 hW.2 x) ?_
  refine And.intro (fun h => ?_) (fun h => ?_)
  · rw [bI_0, Classical.not_not] at h
    have e : R_word M x y = iteI (y = nI 0) (wg M 40 (2 * x.toNatClampNeg)) (iteI (y = nI 1) (wg M 40 (2 * x.toNatClampNeg + 1)) (mI 1)) := iteI_t h
    rw [e]
    obtain ⟨k, hk, rfl⟩ := ix_of h (by omega)
    rw [nI_clamp (by omega)]
    refine And.intro (fun h1 => ?_) (fun h1 => And.intro (fun h2 => ?_) (fun h2 => ?_))
    · refine call_k (c_loud hW.1 hW.2 hk) ?_
      exact ret_i ((hG.wd hk).1.trans (iteI_t h1).symm)
    · refine call_k (c_lull hW.1 hW.2 hk) ?_
      exact ret_i ((hG.wd hk).2.trans ((iteI_t h2).symm.trans (iteI_f h1).symm))
    · exact ret_i ((iteI_f h2).symm.trans (iteI_f h1).symm)
  · rw [bI_0] at h
    exact ret_i (iteI_f h).symm
theorem c_motion (hG : Good M) (x y : Int32) : Fn G (d + 2) 88 [.ref 0, .int x, .int y] M (some (.int (R_motion M x y))) M := by
  have hW := hG.m
  refine Fn_of okc_X9_motion [] ?_
  refine call_k (c_hasMotion hW.1 hW.2 x) ?_
  refine And.intro (fun h => ?_) (fun h => ?_)
  · rw [bI_0, Classical.not_not] at h
    unfold R_motion
    rw [iteI_t h]
    obtain ⟨k, hk, rfl⟩ := ix_of h (by omega)
    rw [nI_clamp (by omega)]
    refine And.intro (And.intro (fun h1 => ?_) (And.intro (fun h1 => ?_) (And.intro (fun h1 => ?_) trivial))) (fun h1 => ?_)
    · have h1 : y = nI 0 := h1
      refine call_k (c_worth hW.1 hW.2 hk) ?_
      exact ret_i ((hG.mo hk).1.trans (iteI_t h1).symm)
    · have h1 : y = nI 1 := h1
      subst h1
      refine call_k (c_length hW.1 hW.2 hk) ?_
      exact ret_i ((hG.mo hk).2.trans ((iteI_t rfl).symm.trans (iteI_f n10).symm))
    · have h1 : y = nI 2 := h1
      subst h1
      rw [iteI_f (show ¬ nI 2 = nI 0 by decide), iteI_f (show ¬ nI 2 = nI 1 by decide), iteI_t rfl]
      refine call_k (c_isCarried _) ?_
      rw [hG.rcar]
      refine And.intro (fun h => ?_) (fun h => ?_)
      · rw [bI_0] at h
        refine call_k (c_isLost _) ?_
        rw [hG.rlos]
        refine And.intro (fun h1 => ?_) (fun h1 => ?_)
        · rw [bI_0] at h1
          exact ret_i ((iteI_f h1).symm.trans (iteI_f h).symm)
        · rw [bI_0, Classical.not_not] at h1
          exact ret_i ((iteI_t h1).symm.trans (iteI_f h).symm)
      · rw [bI_0, Classical.not_not] at h
        exact ret_i (iteI_t h).symm
    · rw [iteI_f (out_ne h1 (by decide) (by decide)), iteI_f (out_ne h1 (by decide) (by decide)), iteI_f (out_ne h1 (by decide) (by decide))]
      exact ret_i rfl
  · rw [bI_0] at h
    exact ret_i (iteI_f h).symm
theorem c_said (hG : Good M) (x y : Int32) : Fn G (d + 2) 89 [.ref 0, .int x, .int y] M (some (.int (R_said M x y))) M := by
  have hW := hG.m
  refine Fn_of okc_X9_said [] ?_
  refine call_k (c_hasMotion hW.1 hW.2 x) ?_
  refine And.intro (fun h => ?_) (fun h => ?_)
  · rw [bI_0] at h
    exact ret_i (iteI_f (fun q => h q.1)).symm
  · rw [bI_0, Classical.not_not] at h
    refine And.intro (fun h1 => ?_) (fun h1 => ?_)
    · exact ret_i (iteI_f (fun q => q.2.1 h1)).symm
    · obtain ⟨k, hk, rfl⟩ := ix_of h (by omega)
      have hl := hG.1.ln hk
      refine call_k (c_length hW.1 hW.2 hk) ?_
      rw [(hG.mo hk).2]
      refine And.intro (fun h2 => ?_) (fun h2 => ?_)
      · have h3 : ix y (len M k) := ⟨h1, h2⟩
        obtain ⟨i, hi, rfl⟩ := ix_of h3 (by omega)
        refine call_k (c_wordAt hW.1 hW.2 hk (by omega)) ?_
        rw [(hG.tx hk hi).1]
        refine ret_i ?_
        unfold R_said
        rw [nI_clamp (by omega), nI_clamp (by omega), iteI_t ⟨h, h3⟩]
      · refine ret_i ?_
        unfold R_said
        rw [nI_clamp (by omega), iteI_f (fun q => h2 q.2.2)]
theorem c_baby (hG : Good M) (x y : Int32) : Fn G (d + 3) 90 [.ref 0, .int x, .int y] M (some (.int (R_baby M x y))) M := by
  have hW := hG.b
  refine Fn_of okc_X9_baby [] ?_
  refine call_k (c_hasBaby hW.1 hW.2 x) ?_
  refine And.intro (fun h => ?_) (fun h => ?_)
  · rw [bI_0, Classical.not_not] at h
    unfold R_baby
    rw [iteI_t h]
    obtain ⟨k, hk, rfl⟩ := ix_of h (by omega)
    rw [nI_clamp (by omega)]
    refine And.intro (And.intro (fun h1 => ?_) (And.intro (fun h1 => ?_) (And.intro (fun h1 => ?_) (And.intro (fun h1 => ?_) (And.intro (fun h1 => ?_) trivial))))) (fun h1 => ?_)
    · have h1 : y = nI 0 := h1
      refine call_k (c_ndepth (by omega)) ?_
      exact ret_i ((hG.rdep (by omega)).trans (iteI_t h1).symm)
    · have h1 : y = nI 1 := h1
      subst h1
      refine call_k (c_ears hW.1 hW.2 hk) ?_
      rw [iteI_f n10, iteI_t rfl]
      exact ret_i (hG.ear hk).1
    · have h1 : y = nI 2 := h1
      subst h1
      refine call_k (c_hunger hW.1 hW.2 hk) ?_
      rw [iteI_f (by decide), iteI_f (by decide), iteI_t rfl]
      exact ret_i (hG.ear hk).2
    · have h1 : y = nI 3 := h1
      subst h1
      refine call_k (c_nfed (by omega)) ?_
      rw [iteI_f (by decide), iteI_f (by decide), iteI_f (by decide), iteI_t rfl]
      exact ret_i (hG.rfed (by omega))
    · have h1 : y = nI 4 := h1
      subst h1
      refine call_k (c_isHungry hG hk) ?_
      rw [iteI_f (by decide), iteI_f (by decide), iteI_f (by decide), iteI_f (by decide), iteI_t rfl]
      refine And.intro (fun h => ?_) (fun h => ?_)
      · exact ret_i h.symm
      · rw [bI_0, Classical.not_not] at h
        exact ret_i (bI_t h).symm
    · rw [iteI_f (out_ne h1 (by decide) (by decide)), iteI_f (out_ne h1 (by decide) (by decide)), iteI_f (out_ne h1 (by decide) (by decide)), iteI_f (out_ne h1 (by decide) (by decide)), iteI_f (out_ne h1 (by decide) (by decide))]
      exact ret_i rfl
  · rw [bI_0] at h
    exact ret_i (iteI_f h).symm
theorem c_now (hG : Good M) (y : Int32) : Fn G (d + 3) 91 [.ref 0, .int y] M (some (.int (R_now M y))) M := by
  refine Fn_of okc_X9_now [] ?_
  unfold R_now
  refine And.intro (And.intro (fun h1 => ?_) (And.intro (fun h1 => ?_) (And.intro (fun h1 => ?_) (And.intro (fun h1 => ?_) (And.intro (fun h1 => ?_) (And.intro (fun h1 => ?_) trivial)))))) (fun h1 => ?_)
  · have h1 : y = nI 0 := h1
    subst h1
    refine call_k c_minute ?_
    rw [iteI_t rfl]
    exact ret_i hG.rmin
  · have h1 : y = nI 1 := h1
    subst h1
    refine call_k c_carriedBits ?_
    rw [iteI_f n10, iteI_t rfl]
    exact ret_i hG.rcar
  · have h1 : y = nI 2 := h1
    subst h1
    refine call_k c_lostBits ?_
    rw [iteI_f (by decide), iteI_f (by decide), iteI_t rfl]
    exact ret_i hG.rlos
  · have h1 : y = nI 3 := h1
    subst h1
    refine call_k (c_earned hG) ?_
    rw [iteI_f (by decide), iteI_f (by decide), iteI_f (by decide), iteI_t rfl]
    exact ret_i rfl
  · have h1 : y = nI 4 := h1
    subst h1
    refine call_k (c_asleepBits hG) ?_
    rw [iteI_f (by decide), iteI_f (by decide), iteI_f (by decide), iteI_f (by decide), iteI_t rfl]
    exact ret_i rfl
  · have h1 : y = nI 5 := h1
    subst h1
    rw [iteI_f (by decide), iteI_f (by decide), iteI_f (by decide), iteI_f (by decide), iteI_f (by decide), iteI_t rfl]
    exact ret_i hG.2.2.2.2.2.2.1.1
  · rw [iteI_f (out_ne h1 (by decide) (by decide)), iteI_f (out_ne h1 (by decide) (by decide)), iteI_f (out_ne h1 (by decide) (by decide)), iteI_f (out_ne h1 (by decide) (by decide)), iteI_f (out_ne h1 (by decide) (by decide)), iteI_f (out_ne h1 (by decide) (by decide))]
    exact ret_i rfl
theorem c_isPair (hG : Good M) (x y : Int32) : Fn G (d + 1) 112 [.ref 0, .int x, .int y] M (some (.int (bI (ix x (nMo M) ∧ ix y (nB M))))) M := by
  have hW := hG.m
  have hB := hG.b
  refine Fn_of okc_X9_isPair [] ?_
  refine call_k (c_hasMotion hW.1 hW.2 x) ?_
  refine And.intro (fun h => ?_) (fun h => ?_)
  · rw [bI_0] at h
    exact And.intro isB_0 (ret_i (bI_f (fun q => h q.1)).symm)
  · rw [bI_0, Classical.not_not] at h
    refine call_k (c_hasBaby hB.1 hB.2 y) ?_
    refine And.intro (fun h1 => ?_) (fun h1 => ?_)
    · rw [bI_0] at h1
      exact And.intro isB_0 (ret_i (bI_f (fun q => h1 q.2)).symm)
    · rw [bI_0, Classical.not_not] at h1
      exact And.intro isB_1 (ret_i (bI_t ⟨h, h1⟩).symm)
theorem c_would (hG : Good M) (x y : Int32) : Fn G (d + 5) 96 [.ref 0, .int x, .int y] M (some (.int (R_pair M x y (woul M x.toNatClampNeg y.toNatClampNeg)))) M := by
  have hW := hG.m
  have hB := hG.b
  refine Fn_of okc_X9_would [] ?_
  refine call_k (c_isPair hG x y) ?_
  refine And.intro (fun h => ?_) (fun h => ?_)
  · rw [bI_0] at h
    exact ret_i (iteI_f h).symm
  · rw [bI_0, Classical.not_not] at h
    unfold R_pair
    rw [iteI_t h]
    obtain ⟨m, hm, rfl⟩ := ix_of h.1 (by omega)
    obtain ⟨b, hb, rfl⟩ := ix_of h.2 (by omega)
    rw [nI_clamp (by omega), nI_clamp (by omega)]
    refine call_k (c_wakesAt hG hm hb) ?_
    exact ret_i rfl
theorem c_deep (hG : Good M) (x y : Int32) : Fn G (d + 7) 97 [.ref 0, .int x, .int y] M (some (.int (R_pair M x y (S_deep M x.toNatClampNeg y.toNatClampNeg)))) M := by
  have hW := hG.m
  have hB := hG.b
  refine Fn_of okc_X9_deep [] ?_
  refine call_k (c_isPair hG x y) ?_
  refine And.intro (fun h => ?_) (fun h => ?_)
  · rw [bI_0] at h
    exact ret_i (iteI_f h).symm
  · rw [bI_0, Classical.not_not] at h
    unfold R_pair
    rw [iteI_t h]
    obtain ⟨m, hm, rfl⟩ := ix_of h.1 (by omega)
    obtain ⟨b, hb, rfl⟩ := ix_of h.2 (by omega)
    rw [nI_clamp (by omega), nI_clamp (by omega)]
    refine call_k (c_leastDepth hG hm hb) ?_
    exact ret_i rfl
theorem c_rockings (hG : Good M) (x y : Int32) : Fn G (d + 7) 98 [.ref 0, .int x, .int y] M (some (.int (R_pair M x y (S_rock M x.toNatClampNeg y.toNatClampNeg)))) M := by
  have hW := hG.m
  have hB := hG.b
  refine Fn_of okc_X9_rockings [] ?_
  refine call_k (c_isPair hG x y) ?_
  refine And.intro (fun h => ?_) (fun h => ?_)
  · rw [bI_0] at h
    exact ret_i (iteI_f h).symm
  · rw [bI_0, Classical.not_not] at h
    unfold R_pair
    rw [iteI_t h]
    obtain ⟨m, hm, rfl⟩ := ix_of h.1 (by omega)
    obtain ⟨b, hb, rfl⟩ := ix_of h.2 (by omega)
    rw [nI_clamp (by omega), nI_clamp (by omega)]
    refine call_k (c_leastRockings hG hm hb) ?_
    exact ret_i rfl
theorem c_noise (hG : Good M) (x y z : Int32) : Fn G (d + 8) 100 [.ref 0, .int x, .int y, .int z] M (some (.int (R_noise M x y z))) M := by
  have hW := hG.m
  have hB := hG.b
  refine Fn_of okc_X9_noise [] ?_
  refine call_k (c_isPair hG x y) ?_
  refine And.intro (fun h => ?_) (fun h => ?_)
  · rw [bI_0] at h
    exact ret_i (iteI_f (fun q => h ⟨q.1, q.2.1⟩)).symm
  · rw [bI_0, Classical.not_not] at h
    refine And.intro (fun h1 => ?_) (fun h1 => ?_)
    · exact ret_i (iteI_f (fun q => q.2.2.1 h1)).symm
    · refine And.intro (fun h2 => ?_) (fun h2 => ?_)
      · have hz : ix z 2 := ⟨h1, by
          obtain ⟨j, hj, rfl⟩ := nI_of h1
          rw [nI_leI (by omega) (by omega)] at h2
          exact nI_lt (by omega) (by omega)⟩
        unfold R_noise
        rw [iteI_t ⟨h.1, h.2, hz⟩]
        obtain ⟨m, hm, rfl⟩ := ix_of h.1 (by omega)
        obtain ⟨b, hb, rfl⟩ := ix_of h.2 (by omega)
        rw [nI_clamp (by omega), nI_clamp (by omega)]
        unfold S_noise
        refine call_k (c_leastLouder hG hm hb) ?_
        refine And.intro (fun h3 => ?_) (fun h3 => ?_)
        · exact ret_i (iteI_t (Or.inl h3)).symm
        · refine And.intro (fun h4 => ?_) (fun h4 => ?_)
          · refine call_k (c_fpw hG hm hb _) ?_
            exact ret_i (iteI_f (fun q => q.elim h3 h4)).symm
          · exact ret_i (iteI_t (Or.inr h4)).symm
      · refine ret_i (iteI_f (fun q => h2 ?_)).symm
        obtain ⟨j, hj, rfl⟩ := ix_of q.2.2 (by omega)
        exact nI_le (by omega) (by omega)
set_option maxHeartbeats 100000 in
theorem lp_which (hG : Good M) : ∀ (n k : Nat) (s : Int32), k + n = nMo M →
    A G (d + 6) 106 4 [some (.ref 0), some (.int s), some (.int (nI k))] [] M (fun r M2 => r = some (.int (whc M n k s)) ∧ M2 = M)
  | 0, k, s, hk => by
    have hW := hG.m
    refine A_wp okc_X9_which [4] ?_
    conv => whnf
    rw [hW.1]
    refine And.intro (fun _ => ?_) (fun h => absurd (nI_le (by omega) (by omega)) h)
    exact ret_i rfl
  | n + 1, k, s, hk => by
    have hW := hG.m
    have hk2 : k < nMo M := by omega
    refine A_wp okc_X9_which [4] ?_
    conv => whnf
    rw [hW.1]
    refine And.intro (fun h => absurd h (nI_ge (by omega) (by omega))) (fun _ => ?_)
    refine call_k (c_isAllSo hG hk2) ?_
    refine And.intro (fun h => ?_) (fun h => ?_)
    · rw [bI_0] at h
      have ih := lp_which hG n (k + 1) s (by omega)
      rw [← nI_add k 1] at ih
      rw [whc, iteI_f h]
      exact And.intro trivial ih
    · rw [bI_0, Classical.not_not] at h
      have ih := lp_which hG n (k + 1) (s ||| nI 1 <<< (nI k &&& 31)) (by omega)
      rw [← nI_add k 1] at ih
      rw [whc, iteI_t h]
      exact And.intro trivial ih
theorem c_which (hG : Good M) : Fn G (d + 6) 106 [.ref 0] M (some (.int (whc M (nMo M) 0 (nI 0)))) M := by
  refine Fn_of okc_X9_which [4] ?_
  exact And.intro trivial (lp_which hG (nMo M) 0 (nI 0) (by omega))
theorem c_count (hG : Good M) (y : Int32) : Fn G d 110 [.ref 0, .int y] M (some (.int (R_count M y))) M := by
  refine Fn_of okc_X9_count [] ?_
  unfold R_count
  refine And.intro (And.intro (fun h1 => ?_) (And.intro (fun h1 => ?_) (And.intro (fun h1 => ?_) (And.intro (fun h1 => ?_) (And.intro (fun h1 => ?_) trivial))))) (fun h1 => ?_)
  · have h1 : y = nI 0 := h1
    rw [iteI_t h1]
    exact ret_i hG.2.1.1
  · have h1 : y = nI 1 := h1
    subst h1
    rw [iteI_f n10, iteI_t rfl]
    exact ret_i hG.2.1.2.1
  · have h1 : y = nI 2 := h1
    subst h1
    rw [iteI_f (by decide), iteI_f (by decide), iteI_t rfl]
    exact ret_i hG.2.1.2.2
  · have h1 : y = nI 3 := h1
    subst h1
    rw [iteI_f (by decide), iteI_f (by decide), iteI_f (by decide), iteI_t rfl]
    exact ret_i hG.2.2.2.2.2.2.2.2.1.1
  · have h1 : y = nI 4 := h1
    subst h1
    rw [iteI_f (by decide), iteI_f (by decide), iteI_f (by decide), iteI_f (by decide), iteI_t rfl]
    exact ret_i hG.2.2.2.2.2.2.2.2.2.1
  · rw [iteI_f (out_ne h1 (by decide) (by decide)), iteI_f (out_ne h1 (by decide) (by decide)), iteI_f (out_ne h1 (by decide) (by decide)), iteI_f (out_ne h1 (by decide) (by decide)), iteI_f (out_ne h1 (by decide) (by decide))]
    exact ret_i rfl
theorem c_trace : Fn G d 111 [.ref 0] M (some (.long (wl M 11))) M := by
  refine Fn_of okc_X9_trace [] ?_
  exact And.intro rfl rfl
end PUB
