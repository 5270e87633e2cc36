-- odds: the class
def tm (x n p : Nat) : Nat := x ^ pop p * (10 - x) ^ (n - pop p)
theorem shl_d : ∀ n, n < 7 → nI 1 <<< (nI n &&& 31) = nI (2 ^ n) := by decide +kernel
theorem pop_d : ∀ n, n < 7 → ∀ p, p < 2 ^ n → pop p ≤ n := by decide +kernel
theorem tm_d : ∀ n, n < 7 → ∀ x, x < 11 → ∀ p, p < 2 ^ n → tm x n p ≤ 1000000 := by decide +kernel
theorem p2_d : ∀ n, n < 7 → 2 ^ n ≤ 64 := by decide +kernel
theorem min6_d : ∀ n, n < 7 → (if nI n < nI 6 then nI n else nI 6) = nI n := by decide +kernel
theorem max1 {g : Nat} (h : 1 ≤ g) (hg : g < 2 ^ 31) : (if nI 1 < nI g then nI g else nI 1) = nI g := by
  by_cases q : nI 1 < nI g
  · rw [if_pos q]
  · rw [if_neg q]
    have : ¬ 1 < g := fun t => q (nI_lt t hg)
    rw [show g = 1 by omega]
/-- carried, if the places of p are 1 louder -/
def carP (M : WM) (m b p : Nat) : Prop := ¬ rn0 M m b (lof (nI p) (nI 1)) (wg M 43 (3 + b)) = nI 0
noncomputable def ftm (M : WM) (m b x p : Nat) : Nat := @ite Nat (carP M m b p) (Classical.propDecidable _) (tm x (len M m) p) 0
noncomputable def smm (M : WM) (m b x : Nat) : Nat → Nat
  | 0 => 0
  | p + 1 => smm M m b x p + ftm M m b x p
theorem ftm_t {M : WM} {m b x p : Nat} (h : carP M m b p) : ftm M m b x p = tm x (len M m) p := by unfold ftm; rw [if_pos h]
theorem ftm_f {M : WM} {m b x p : Nat} (h : ¬ carP M m b p) : ftm M m b x p = 0 := by unfold ftm; rw [if_neg h]
theorem smm_le {M : WM} {m b x : Nat} (hl : len M m < 7) (hx : x < 11) : ∀ p, p ≤ 2 ^ len M m → smm M m b x p ≤ p * 1000000
  | 0, _ => Nat.le_refl _
  | p + 1, h => by
    have ih := smm_le (b := b) hl hx p (by omega)
    have ht := tm_d _ hl x hx p (by omega)
    have hf : ftm M m b x p ≤ 1000000 := by
      rcases Classical.em (carP M m b p) with c | c
      · rw [ftm_t c]; exact ht
      · rw [ftm_f c]; exact Nat.zero_le _
    exact Nat.le_trans (Nat.add_le_add ih hf) (Nat.le_of_eq (Nat.succ_mul p 1000000).symm)
section ODDS
variable {G : GG} {d : Nat} {M : WM}
theorem c_dal (hG : Good M) {m b : Nat} (hm : m < nMo M) (hb : b < nB M) (ps lo : Int32) : Fn G (d + 4) 9 [.ref 7, .int (nI m), .int (nI b), .int (wg M 43 (3 + b)), .int ps, .int lo] M (some (.int (rn0 M m b (lof ps lo) (wg M 43 (3 + b))))) M := c_depthAfterLouder hG hm hb _ ps lo (hG.dn hb)
set_option maxHeartbeats 400000 in
theorem lp_ways (hG : Good M) {m b x : Nat} (hm : m < nMo M) (hb : b < nB M) (hx : x < 11) : ∀ (n p : Nat) (z : Option Value), p + n = 2 ^ len M m →
    A G (d + 5) 16 21 [some (.ref 7), some (.int (nI m)), some (.int (nI b)), some (.int (nI x)), some (.int (nI (len M m))), some (.int (nI (smm M m b x p))), some (.int (nI p)), z] [] M (fun r M2 => r = some (.int (nI (smm M m b x (2 ^ len M m)))) ∧ M2 = M)
  | 0, p, z, hp => by
    have hl := hG.1.ln hm
    have h64 := p2_d (len M m) (by omega)
    refine A_wp okc_X0_waysOfTen [21] ?_
    conv => whnf
    rw [shl_d _ (by omega)]
    refine And.intro (fun _ => ?_) (fun h => absurd (nI_le (by omega) (by omega)) h)
    rw [show 2 ^ len M m = p by omega]
    exact And.intro rfl rfl
  | n + 1, p, z, hp => by
    have hl := hG.1.ln hm
    have hB := hG.b
    have h64 := p2_d (len M m) (by omega)
    have hpop := pop_d (len M m) (by omega) p (by omega)
    refine A_wp okc_X0_waysOfTen [21] ?_
    conv => whnf
    rw [shl_d _ (by omega)]
    refine And.intro (fun h => absurd h (nI_ge (by omega) (by omega))) (fun _ => ?_)
    refine call_k (c_ndepth (by omega)) ?_
    rw [hG.rdep (show b < 4 by omega)]
    refine call_k (c_dal hG hm hb _ _) ?_
    obtain ⟨j, hj, ej⟩ := rn0_n (M := M) (m := m) (b := b) (lo := lof (nI p) (nI 1)) (hG.dn hb)
    refine And.intro (fun h => ?_) (fun h => ?_)
    · have hc : ¬ carP M m b p := fun q => q (by
        rw [ej] at h ⊢
        have := (nI_leI (by omega) (by omega)).mp h
        rw [show j = 0 by omega])
      have ih := lp_ways hG hm hb hx n (p + 1) z (by omega)
      have es : smm M m b x (p + 1) = smm M m b x p + ftm M m b x p := rfl
      rw [es] at ih
      rw [ftm_f hc, Nat.add_zero, ← nI_add p 1] at ih
      exact And.intro trivial ih
    · have hc : carP M m b p := fun q => h (by rw [q]; exact nI_le (by omega) (by omega))
      refine call_k (c_bitCount (by omega)) ?_
      refine call_k (c_power x (pop p) (by omega)) ?_
      conv => whnf
      rw [nIs (show x ≤ 10 by omega), nIs hpop]
      refine call_k (c_power (10 - x) (len M m - pop p) (by omega)) ?_
      have ih := lp_ways hG hm hb hx n (p + 1) (some (.int (nI (pop p)))) (by omega)
      have es : smm M m b x (p + 1) = smm M m b x p + ftm M m b x p := rfl
      rw [es] at ih
      rw [ftm_t hc, ← nI_add p 1, ← nI_add (smm M m b x p) _] at ih
      unfold tm at ih
      rw [← nIm] at ih
      exact And.intro trivial ih
theorem c_ways (hG : Good M) {m b x : Nat} (hm : m < nMo M) (hb : b < nB M) (hx : x < 11) : Fn G (d + 5) 16 [.ref 7, .int (nI m), .int (nI b), .int (nI x)] M (some (.int (nI (smm M m b x (2 ^ len M m))))) M := by
  have hM := hG.m
  have hl := hG.1.ln hm
  refine Fn_of okc_X0_waysOfTen [21] ?_
  refine call_k (c_length hM.1 hM.2 hm) ?_
  rw [(hG.mo hm).2]
  conv => whnf
  rw [min6_d _ (by omega)]
  exact And.intro trivial (lp_ways hG hm hb hx (2 ^ len M m) 0 none (by omega))
/-- the two halves of the odds, made small -/
noncomputable def upp (M : WM) (m b x : Nat) : Nat := smm M m b x (2 ^ len M m)
noncomputable def S_odds (M : WM) (m b x : Nat) (y : Int32) : Int32 := iteI (y = nI 0) (nI (upp M m b x)) (nI (10 ^ len M m)) / nI (Nat.gcd (10 ^ len M m) (upp M m b x))
noncomputable def R_odds (M : WM) (x y z w : Int32) : Int32 := iteI (ix x (nMo M) ∧ ix y (nB M) ∧ ix z 11 ∧ ix w 2) (S_odds M x.toNatClampNeg y.toNatClampNeg z.toNatClampNeg w) (mI 1)
theorem p10_d : ∀ n, n < 7 → 1 ≤ 10 ^ n ∧ 10 ^ n ≤ 1000000 := by decide +kernel
theorem upp_le (hG : GM M) {m b x : Nat} (hm : m < nMo M) (hx : x < 11) : upp M m b x ≤ 64000000 := by
  have hl := hG.ln hm
  have h1 := smm_le (M := M) (m := m) (b := b) (x := x) (by omega) hx (2 ^ len M m) (Nat.le_refl _)
  have h2 := Nat.mul_le_mul_right 1000000 (p2_d (len M m) (by omega))
  exact Nat.le_trans h1 h2
end ODDS
