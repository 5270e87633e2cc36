-- the reference's calls that change nothing but its scratch
theorem A_mono {G : GG} {d j pc : Nat} {L : LC} {st : List Value} {M : WM} {Q Q' : Option Value → WM → Prop} (h : ∀ r M, Q r M → Q' r M) (k : A G d j pc L st M Q) : A G d j pc L st M Q' := by
  intro p e R s m args below meth c H0 A0 cells slots QQ E
  obtain ⟨h1, h2, h3, h4, h5, h6, h7, h8, h9, h10, h11, hret⟩ := E
  exact k p e R s m args below meth c H0 A0 cells slots QQ ⟨h1, h2, h3, h4, h5, h6, h7, h8, h9, h10, h11, fun pc H locs ls v M q => hret pc H locs ls v M (h v M q)⟩
theorem Fr_mono {G : GG} {d j : Nat} {As : List Value} {M : WM} {P P' : Option Value → WM → Prop} (h : ∀ r M, P r M → P' r M) (k : Fr G d j As M P) : Fr G d j As M P' := A_mono h k
/-- answers x, and only scratch has changed -/
def AnsS (M : WM) (x : Int32) : Option Value → WM → Prop := fun r M2 => r = some (.int x) ∧ Sc M M2
theorem AnsS.eq {M M2 : WM} {x y : Int32} (h : x = y) (hs : Sc M M2) : AnsS M y (some (.int x)) M2 := ⟨by rw [h], hs⟩
theorem AnsS.rf {M : WM} {x y : Int32} (h : x = y) : AnsS M y (some (.int x)) M := ⟨by rw [h], Sc.rf M⟩
theorem ix3 {y : Int32} (h : ix y 3) : y = nI 0 ∨ y = nI 1 ∨ y = nI 2 := by
  obtain ⟨j, hj, rfl⟩ := ix_of h (by omega)
  rcases (by omega : j = 0 ∨ j = 1 ∨ j = 2) with rfl | rfl | rfl
  · exact Or.inl rfl
  · exact Or.inr (Or.inl rfl)
  · exact Or.inr (Or.inr rfl)
theorem ix2 {y : Int32} (h : ix y 2) : y = nI 0 ∨ y = nI 1 := by
  obtain ⟨j, hj, rfl⟩ := ix_of h (by omega)
  rcases (by omega : j = 0 ∨ j = 1) with rfl | rfl
  · exact Or.inl rfl
  · exact Or.inr rfl
theorem nix {y : Int32} {n k : Nat} (h : ¬ ix y n) (hk : k < n) (hn : n < 2 ^ 31) : ¬ y = nI k := fun q => h (q ▸ ix_n hk hn)
section MPUB
variable {G : GG} {d : Nat} {M : WM}
theorem m_word (hG : GM M) (x y : Int32) : Fn G (d + 1) 138 [.ref 39, .int x, .int y] M (some (.int (R_word M x y))) M := by
  have hW := hG.w
  refine Fn_of okc_X10_word [] ?_
  conv => whnf
  rw [hW.1]
  refine call_k (c_in _ _ _) ?_
  rw [bI_iff (in_ix (by omega))]
  refine And.intro (fun h => ?_) (fun h => ?_)
  · rw [bI_0] at h
    exact ret_i (iteI_f h).symm
  · rw [bI_0, Classical.not_not] at h
    unfold R_word
    rw [iteI_t h]
    obtain ⟨k, hk, rfl⟩ := ix_of h (by omega)
    rw [nI_clamp (n := k) (by omega)]
    refine call_k (c_in _ _ _) ?_
    rw [bI_iff (in_ix2 (n := 1) (by omega))]
    refine And.intro (fun h1 => ?_) (fun h1 => ?_)
    · rw [bI_0] at h1
      rw [iteI_f (nix h1 (by omega) (by omega)), iteI_f (nix h1 (by omega) (by omega))]
      exact ret_i rfl
    · rw [bI_0, Classical.not_not] at h1
      rcases ix2 h1 with rfl | rfl
      · refine And.intro (by rw [pk_mul, nI_add]; exact vp_in_nI (by omega) (by decide)) ?_
        rw [pk_mul, nI_add, nI_clamp (n := 2 * k + 0) (by omega), iteI_t rfl]
        exact ret_i rfl
      · refine And.intro (by rw [pk_mul, nI_add]; exact vp_in_nI (by omega) (by decide)) ?_
        rw [pk_mul, nI_add, nI_clamp (n := 2 * k + 1) (by omega), iteI_f n10, iteI_t rfl]
        exact ret_i rfl
theorem m_motion (hG : GM M) (x y : Int32) : Fn G (d + 2) 139 [.ref 39, .int x, .int y] M (some (.int (R_motion M x y))) M := by
  have hW := hG.m
  refine Fn_of okc_X10_motion [] ?_
  refine call_k (c_isMotion hG x) ?_
  refine And.intro (fun h => ?_) (fun h => ?_)
  · rw [bI_0] at h
    exact ret_i (iteI_f h).symm
  · rw [bI_0, Classical.not_not] at h
    unfold R_motion
    rw [iteI_t h]
    obtain ⟨k, hk, rfl⟩ := ix_of h (by omega)
    rw [nI_clamp (n := k) (by omega)]
    refine call_k (c_in _ _ _) ?_
    rw [bI_iff (in_ix2 (n := 2) (by omega))]
    refine And.intro (fun h1 => ?_) (fun h1 => ?_)
    · rw [bI_0, Classical.not_not] at h1
      rcases ix3 h1 with rfl | rfl | rfl
      · refine And.intro (fun q => absurd q (by decide)) (fun _ => ?_)
        refine And.intro (by rw [pk_mul, nI_add]; exact vp_in_nI (by omega) (by decide)) ?_
        rw [pk_mul, nI_add, nI_clamp (n := 8 * k + 0) (by omega), iteI_t rfl]
        exact ret_i rfl
      · refine And.intro (fun q => absurd q (by decide)) (fun _ => ?_)
        refine And.intro (by rw [pk_mul, nI_add]; exact vp_in_nI (by omega) (by decide)) ?_
        rw [pk_mul, nI_add, nI_clamp (n := 8 * k + 1) (by omega), iteI_f n10, iteI_t rfl]
        exact ret_i (hG.ln hk).1
      · rw [iteI_f (show ¬ nI 2 = nI 0 by decide), iteI_f (show ¬ nI 2 = nI 1 by decide), iteI_t rfl]
        refine And.intro (fun _ => ?_) (fun q => absurd (show nI 2 ≤ nI 2 by decide) q)
        refine And.intro (vp_in_nI (by omega) (by decide)) ?_
        refine call_k (c_has _ _) ?_
        rw [nI_clamp (n := 1) (by omega)]
        refine And.intro (fun h => ?_) (fun h => ?_)
        · rw [bI_0] at h
          refine And.intro (vp_in_nI (by omega) (by decide)) ?_
          refine call_k (c_has _ _) ?_
          rw [nI_clamp (n := 2) (by omega)]
          refine And.intro (fun h1 => ?_) (fun h1 => ?_)
          · rw [bI_0] at h1
            exact ret_i ((iteI_f h1).symm.trans (iteI_f h).symm)
          · rw [bI_0, Classical.not_not] at h1
            exact ret_i ((iteI_t h1).symm.trans (iteI_f h).symm)
        · rw [bI_0, Classical.not_not] at h
          exact ret_i (iteI_t h).symm
    · rw [bI_0] at h1
      rw [iteI_f (nix h1 (by omega) (by omega)), iteI_f (nix h1 (by omega) (by omega)), iteI_f (nix h1 (by omega) (by omega))]
      exact ret_i rfl
theorem m_said (hG : GM M) (x y : Int32) : Fn G (d + 2) 140 [.ref 39, .int x, .int y] M (some (.int (R_said M x y))) M := by
  have hW := hG.m
  refine Fn_of okc_X10_said [] ?_
  refine call_k (c_isMotion hG x) ?_
  refine And.intro (fun h => ?_) (fun h => ?_)
  · rw [bI_0] at h
    exact ret_i (iteI_f (fun q => h q.1)).symm
  · rw [bI_0, Classical.not_not] at h
    obtain ⟨k, hk, rfl⟩ := ix_of h (by omega)
    have hl := hG.ln hk
    refine And.intro (by rw [pk_mul, nI_add]; exact vp_in_nI (by omega) (by decide)) ?_
    rw [pk_mul, nI_add, nI_clamp (n := 8 * k + 1) (by omega), hl.1]
    refine call_k (c_in _ _ _) ?_
    rw [bI_iff (in_ix (by omega))]
    unfold R_said
    rw [nI_clamp (n := k) (by omega)]
    refine And.intro (fun h1 => ?_) (fun h1 => ?_)
    · rw [bI_0] at h1
      exact ret_i (iteI_f (fun q => h1 q.2)).symm
    · rw [bI_0, Classical.not_not] at h1
      rw [iteI_t ⟨h, h1⟩]
      obtain ⟨i, hi, rfl⟩ := ix_of h1 (by omega)
      refine And.intro (by rw [pk_mul, nI_add, nI_add]; exact vp_in_nI (by omega) (by decide)) ?_
      rw [pk_mul, nI_add, nI_add, nI_clamp (n := 8 * k + 2 + i) (by omega), nI_clamp (n := i) (by omega)]
      exact ret_i (hG.tx hk hi).1
theorem m_baby (hG : GM M) (x y : Int32) : Fn G (d + 2) 141 [.ref 39, .int x, .int y] M (some (.int (R_baby M x y))) M := by
  have hW := hG.b
  refine Fn_of okc_X10_baby [] ?_
  refine call_k (c_isBaby hG x) ?_
  refine And.intro (fun h => ?_) (fun h => ?_)
  · rw [bI_0, Classical.not_not] at h
    unfold R_baby
    rw [iteI_t h]
    obtain ⟨k, hk, rfl⟩ := ix_of h (by omega)
    rw [nI_clamp (n := k) (by omega)]
    refine And.intro (And.intro (fun h1 => ?_) (And.intro (fun h1 => ?_) (And.intro (fun h1 => ?_) (And.intro (fun h1 => ?_) (And.intro (fun h1 => ?_) trivial))))) (fun h1 => ?_)
    · have h1 : y = nI 0 := h1
      rw [iteI_t h1]
      refine And.intro (by rw [nI_add]; exact vp_in_nI (by omega) (by decide)) ?_
      rw [nI_add, nI_clamp (n := 3 + k) (by omega)]
      exact ret_i rfl
    · have h1 : y = nI 1 := h1
      subst h1
      rw [iteI_f n10, iteI_t rfl]
      refine And.intro (by rw [pk_mul, nI_add, pk_sub (by omega)]; exact vp_in_nI (by omega) (by decide)) ?_
      rw [pk_mul, nI_add, pk_sub (by omega), nI_clamp (n := 2 * k + 1 - 1) (by omega)]
      exact ret_i rfl
    · have h1 : y = nI 2 := h1
      subst h1
      rw [iteI_f (by decide), iteI_f (by decide), iteI_t rfl]
      refine And.intro (by rw [pk_mul, nI_add, pk_sub (by omega)]; exact vp_in_nI (by omega) (by decide)) ?_
      rw [pk_mul, nI_add, pk_sub (by omega), nI_clamp (n := 2 * k + 2 - 1) (by omega)]
      exact ret_i rfl
    · have h1 : y = nI 3 := h1
      subst h1
      rw [iteI_f (by decide), iteI_f (by decide), iteI_f (by decide), iteI_t rfl]
      refine And.intro (by rw [nI_add]; exact vp_in_nI (by omega) (by decide)) ?_
      rw [nI_add, nI_clamp (n := 7 + k) (by omega)]
      exact ret_i rfl
    · have h1 : y = nI 4 := h1
      subst h1
      refine call_k (m_isHungry (by omega)) ?_
      rw [iteI_f (by decide), iteI_f (by decide), iteI_f (by decide), iteI_f (by decide), iteI_t rfl]
      refine And.intro (fun h => ?_) (fun h => ?_)
      · exact ret_i h.symm
      · rw [bI_0, Classical.not_not] at h
        exact ret_i (bI_t h).symm
    · rw [iteI_f (out_ne h1 (by decide) (by decide)), iteI_f (out_ne h1 (by decide) (by decide)), iteI_f (out_ne h1 (by decide) (by decide)), iteI_f (out_ne h1 (by decide) (by decide)), iteI_f (out_ne h1 (by decide) (by decide))]
      exact ret_i rfl
  · rw [bI_0] at h
    exact ret_i (iteI_f h).symm
set_option maxHeartbeats 100000 in
theorem lp_mearned (hG : GM M) : ∀ (n k : Nat) (s : Int32), k + n = nMo M →
    A G (d + 1) 142 4 [some (.ref 39), some (.int s), some (.int (nI k))] [] M (fun r M2 => r = some (.int (ernd M n k s)) ∧ M2 = M)
  | 0, k, s, hk => by
    have hB := hG.m
    refine A_wp okc_X10_earned [4] ?_
    conv => whnf
    rw [hB.1]
    refine And.intro (fun _ => ?_) (fun h => absurd (nI_le (by omega) (by omega)) h)
    exact ret_i rfl
  | n + 1, k, s, hk => by
    have hB := hG.m
    refine A_wp okc_X10_earned [4] ?_
    conv => whnf
    rw [hB.1]
    refine And.intro (fun h => absurd h (nI_ge (by omega) (by omega))) (fun _ => ?_)
    refine And.intro (vp_in_nI (by omega) (by decide)) ?_
    refine call_k (c_has _ _) ?_
    rw [nI_clamp (n := 1) (by omega)]
    refine And.intro (fun h => ?_) (fun h => ?_)
    · rw [bI_0] at h
      have ih := lp_mearned hG n (k + 1) s (by omega)
      rw [← nI_add k 1] at ih
      rw [ernd, iteI_f h]
      have e0 : s + nI 0 = s := Int32.add_zero s
      refine And.intro trivial ?_
      rw [e0]
      exact ih
    · rw [bI_0, Classical.not_not] at h
      refine And.intro (by rw [pk_mul]; exact vp_in_nI (by omega) (by decide)) ?_
      rw [pk_mul, nI_clamp (n := 8 * k) (by omega)]
      have ih := lp_mearned hG n (k + 1) (s + wg M 41 (8 * k)) (by omega)
      rw [← nI_add k 1] at ih
      rw [ernd, iteI_t h]
      exact And.intro trivial ih
theorem m_earned (hG : GM M) : Fn G (d + 1) 142 [.ref 39] M (some (.int (ernd M (nMo M) 0 (nI 0)))) M := by
  refine Fn_of okc_X10_earned [4] ?_
  exact And.intro trivial (lp_mearned hG (nMo M) 0 (nI 0) (by omega))
set_option maxHeartbeats 100000 in
theorem lp_masleep (hG : GM M) : ∀ (n k : Nat) (s : Int32), k + n = nB M →
    A G d 143 4 [some (.ref 39), some (.int s), some (.int (nI k))] [] M (fun r M2 => r = some (.int (aslp M n k s)) ∧ M2 = M)
  | 0, k, s, hk => by
    have hB := hG.b
    refine A_wp okc_X10_asleep [4] ?_
    conv => whnf
    rw [hB.1]
    refine And.intro (fun _ => ?_) (fun h => absurd (nI_le (by omega) (by omega)) h)
    exact ret_i rfl
  | n + 1, k, s, hk => by
    have hB := hG.b
    have hd := hG.dep (show k < 4 by omega)
    have hd2 : ∃ j, j ≤ 9 ∧ wg M 43 (3 + k) = nI j := ⟨_, hd.2, hd.1⟩
    refine A_wp okc_X10_asleep [4] ?_
    conv => whnf
    rw [hB.1]
    refine And.intro (fun h => absurd h (nI_ge (by omega) (by omega))) (fun _ => ?_)
    refine And.intro (by rw [nI_add]; exact vp_in_nI (by omega) (by decide)) ?_
    rw [nI_add, nI_clamp (n := 3 + k) (by omega)]
    refine And.intro (fun h => ?_) (fun h => ?_)
    · rw [le0_n hd2] at h
      have ih := lp_masleep hG n (k + 1) s (by omega)
      rw [← nI_add k 1] at ih
      rw [aslp, iteI_t h]
      have e0 : s ||| nI 0 = s := Int32.or_zero
      refine And.intro trivial ?_
      rw [e0]
      exact ih
    · rw [le0_n hd2] at h
      have ih := lp_masleep hG n (k + 1) (s ||| nI 1 <<< (nI k &&& 31)) (by omega)
      rw [← nI_add k 1] at ih
      rw [aslp, iteI_f h]
      exact And.intro trivial ih
theorem m_asleep (hG : GM M) : Fn G d 143 [.ref 39] M (some (.int (aslp M (nB M) 0 (nI 0)))) M := by
  refine Fn_of okc_X10_asleep [4] ?_
  exact And.intro trivial (lp_masleep hG (nB M) 0 (nI 0) (by omega))
theorem m_now (hG : GM M) (y : Int32) : Fn G (d + 2) 144 [.ref 39, .int y] M (some (.int (R_now M y))) M := by
  refine Fn_of okc_X10_now [] ?_
  unfold R_now
  refine And.intro (And.intro (fun h1 => ?_) (And.intro (fun h1 => ?_) (And.intro (fun h1 => ?_) (And.intro (fun h1 => ?_) (And.intro (fun h1 => ?_) (And.intro (fun h1 => ?_) trivial)))))) (fun h1 => ?_)
  · have h1 : y = nI 0 := h1
    subst h1
    rw [iteI_t rfl]
    exact And.intro (vp_in_nI (by omega) (by decide)) (ret_i rfl)
  · have h1 : y = nI 1 := h1
    subst h1
    rw [iteI_f n10, iteI_t rfl]
    exact And.intro (vp_in_nI (by omega) (by decide)) (ret_i rfl)
  · have h1 : y = nI 2 := h1
    subst h1
    rw [iteI_f (by decide), iteI_f (by decide), iteI_t rfl]
    exact And.intro (vp_in_nI (by omega) (by decide)) (ret_i rfl)
  · have h1 : y = nI 3 := h1
    subst h1
    refine call_k (m_earned hG) ?_
    rw [iteI_f (by decide), iteI_f (by decide), iteI_f (by decide), iteI_t rfl]
    exact ret_i rfl
  · have h1 : y = nI 4 := h1
    subst h1
    refine call_k (m_asleep hG) ?_
    rw [iteI_f (by decide), iteI_f (by decide), iteI_f (by decide), iteI_f (by decide), iteI_t rfl]
    exact ret_i rfl
  · have h1 : y = nI 5 := h1
    subst h1
    rw [iteI_f (by decide), iteI_f (by decide), iteI_f (by decide), iteI_f (by decide), iteI_f (by decide), iteI_t rfl]
    exact ret_i rfl
  · rw [iteI_f (out_ne h1 (by decide) (by decide)), iteI_f (out_ne h1 (by decide) (by decide)), iteI_f (out_ne h1 (by decide) (by decide)), iteI_f (out_ne h1 (by decide) (by decide)), iteI_f (out_ne h1 (by decide) (by decide)), iteI_f (out_ne h1 (by decide) (by decide))]
    exact ret_i rfl
theorem m_count (y : Int32) : Fn G d 175 [.ref 39, .int y] M (some (.int (R_count M y))) M := by
  refine Fn_of okc_X10_count [] ?_
  unfold R_count
  refine And.intro (And.intro (fun h1 => ?_) (And.intro (fun h1 => ?_) (And.intro (fun h1 => ?_) (And.intro (fun h1 => ?_) (And.intro (fun h1 => ?_) trivial))))) (fun h1 => ?_)
  · have h1 : y = nI 0 := h1
    rw [iteI_t h1]
    exact ret_i rfl
  · have h1 : y = nI 1 := h1
    subst h1
    rw [iteI_f n10, iteI_t rfl]
    exact ret_i rfl
  · have h1 : y = nI 2 := h1
    subst h1
    rw [iteI_f (by decide), iteI_f (by decide), iteI_t rfl]
    exact ret_i rfl
  · have h1 : y = nI 3 := h1
    subst h1
    rw [iteI_f (by decide), iteI_f (by decide), iteI_f (by decide), iteI_t rfl]
    exact ret_i rfl
  · have h1 : y = nI 4 := h1
    subst h1
    rw [iteI_f (by decide), iteI_f (by decide), iteI_f (by decide), iteI_f (by decide), iteI_t rfl]
    exact ret_i rfl
  · rw [iteI_f (out_ne h1 (by decide) (by decide)), iteI_f (out_ne h1 (by decide) (by decide)), iteI_f (out_ne h1 (by decide) (by decide)), iteI_f (out_ne h1 (by decide) (by decide)), iteI_f (out_ne h1 (by decide) (by decide))]
    exact ret_i rfl
theorem m_trace : Fn G d 176 [.ref 39] M (some (.long (wl M 39))) M := by
  refine Fn_of okc_X10_trace [] ?_
  exact And.intro rfl rfl
theorem m_would (hG : GM M) (x y : Int32) : Fr G (d + 3) 151 [.ref 39, .int x, .int y] M (AnsS M (R_pair M x y (woul M x.toNatClampNeg y.toNatClampNeg))) := by
  have hW := hG.m
  have hB := hG.b
  refine Fr_of okc_X10_would [] ?_
  refine call_k (c_isMotion hG x) ?_
  refine And.intro (fun h => ?_) (fun h => ?_)
  · rw [bI_0] at h
    exact AnsS.rf (iteI_f (fun q => h q.1)).symm
  · rw [bI_0, Classical.not_not] at h
    refine call_k (c_isBaby hG y) ?_
    refine And.intro (fun h1 => ?_) (fun h1 => ?_)
    · rw [bI_0] at h1
      exact AnsS.rf (iteI_f (fun q => h1 q.2)).symm
    · rw [bI_0, Classical.not_not] at h1
      unfold R_pair
      rw [iteI_t ⟨h, h1⟩]
      obtain ⟨m, hm, rfl⟩ := ix_of h (by omega)
      obtain ⟨b, hb, rfl⟩ := ix_of h1 (by omega)
      rw [nI_clamp (n := m) (by omega), nI_clamp (n := b) (by omega)]
      refine call_k (m_wouldBe hG hm (by omega)) ?_
      exact AnsS.eq rfl ((rowL_sc M m _).tr (Sc.set (Or.inr ⟨rfl, by omega⟩)))
end MPUB
