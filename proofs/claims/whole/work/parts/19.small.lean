noncomputable def iteI (c : Prop) (a b : Int32) : Int32 := @ite _ c (Classical.propDecidable c) a b
theorem iteI_t {c : Prop} {a b : Int32} (h : c) : iteI c a b = a := by unfold iteI; exact if_pos h
theorem iteI_f {c : Prop} {a b : Int32} (h : ¬ c) : iteI c a b = b := by unfold iteI; exact if_neg h
theorem out_ne {y : Int32} {k : Nat} {hi : Int} (h : y.toInt < 0 ∨ hi < y.toInt) (hk : (k : Int) ≤ hi) (h2 : k < 2 ^ 31) : ¬ y = nI k := by
  intro q
  rw [q, nI_toInt h2] at h
  omega
theorem gt0 {x : Int32} (hx : ∃ j, j ≤ 9 ∧ x = nI j) : nI 0 < x ↔ ¬ x = nI 0 := by
  obtain ⟨j, hj, rfl⟩ := hx
  rw [nI_ltI (by omega) (by omega), nI_eq (by omega) (by omega)]
  omega
/-- who sleeps, from baby k on -/
noncomputable def aslp (M : WM) : Nat → Nat → Int32 → Int32
  | 0, _, s => s
  | n + 1, k, s => aslp M n (k + 1) (iteI (wg M 43 (3 + k) = nI 0) s (s ||| nI 1 <<< (nI k &&& 31)))
noncomputable def ernd (M : WM) : Nat → Nat → Int32 → Int32
  | 0, _, s => s
  | n + 1, k, s => ernd M n (k + 1) (iteI (bt (wg M 43 1) (nI k)) (s + wg M 41 (8 * k)) s)
section SMALL
variable {G : GG} {d : Nat} {M : WM}
set_option maxHeartbeats 100000 in
theorem lp_asleepBits (hG : Good M) : ∀ (n k : Nat) (s : Int32), k + n = nB M →
    A G (d + 2) 4 4 [some (.ref 7), some (.int s), some (.int (nI k))] [] M (fun r M2 => r = some (.int (aslp M n k s)) ∧ M2 = M)
  | 0, k, s, hk => by
    have hB := hG.b
    refine A_wp okc_X0_asleepBits [4] ?_
    conv => whnf
    rw [hB.1]
    refine And.intro (fun _ => ?_) (fun h => absurd (nI_le (by omega) (by omega)) h)
    exact ret_i rfl
  | n + 1, k, s, hk => by
    have hB := hG.b
    have hd := hG.dn (show k < nB M by omega)
    refine A_wp okc_X0_asleepBits [4] ?_
    conv => whnf
    rw [hB.1]
    refine And.intro (fun h => absurd h (nI_ge (by omega) (by omega))) (fun _ => ?_)
    refine call_k (c_ndepth (by omega)) ?_
    rw [hG.rdep (by omega)]
    refine And.intro (fun h => ?_) (fun h => ?_)
    · rw [le0_n hd] at h
      have ih := lp_asleepBits hG n (k + 1) s (by omega)
      rw [← nI_add k 1] at ih
      rw [aslp, iteI_t h]
      exact And.intro trivial ih
    · rw [le0_n hd] at h
      have ih := lp_asleepBits hG n (k + 1) (s ||| nI 1 <<< (nI k &&& 31)) (by omega)
      rw [← nI_add k 1] at ih
      rw [aslp, iteI_f h]
      exact And.intro trivial ih
theorem c_asleepBits (hG : Good M) : Fn G (d + 2) 4 [.ref 7] M (some (.int (aslp M (nB M) 0 (nI 0)))) M := by
  refine Fn_of okc_X0_asleepBits [4] ?_
  exact And.intro trivial (lp_asleepBits hG (nB M) 0 (nI 0) (by omega))
set_option maxHeartbeats 100000 in
theorem lp_earned (hG : Good M) : ∀ (n k : Nat) (s : Int32), k + n = nMo M →
    A G (d + 2) 5 4 [some (.ref 7), some (.int s), some (.int (nI k))] [] M (fun r M2 => r = some (.int (ernd M n k s)) ∧ M2 = M)
  | 0, k, s, hk => by
    have hB := hG.m
    refine A_wp okc_X0_earned [4] ?_
    conv => whnf
    rw [hB.1]
    refine And.intro (fun _ => ?_) (fun h => absurd (nI_le (by omega) (by omega)) h)
    exact ret_i rfl
  | n + 1, k, s, hk => by
    have hB := hG.m
    have hk2 : k < nMo M := by omega
    refine A_wp okc_X0_earned [4] ?_
    conv => whnf
    rw [hB.1]
    refine And.intro (fun h => absurd h (nI_ge (by omega) (by omega))) (fun _ => ?_)
    refine call_k (c_isCarried _) ?_
    rw [hG.rcar]
    refine And.intro (fun h => ?_) (fun h => ?_)
    · rw [bI_0] at h
      have ih := lp_earned hG n (k + 1) s (by omega)
      rw [← nI_add k 1] at ih
      rw [ernd, iteI_f h]
      exact And.intro trivial ih
    · rw [bI_0, Classical.not_not] at h
      refine call_k (c_worth hB.1 hB.2 hk2) ?_
      rw [(hG.mo hk2).1]
      have ih := lp_earned hG n (k + 1) (s + wg M 41 (8 * k)) (by omega)
      rw [← nI_add k 1] at ih
      rw [ernd, iteI_t h]
      exact And.intro trivial ih
theorem c_earned (hG : Good M) : Fn G (d + 2) 5 [.ref 7] M (some (.int (ernd M (nMo M) 0 (nI 0)))) M := by
  refine Fn_of okc_X0_earned [4] ?_
  exact And.intro trivial (lp_earned hG (nMo M) 0 (nI 0) (by omega))
-- Past
theorem c_remember {nx kn : Nat} (hn : wg M 5 1 = nI nx) (hn9 : nx ≤ 9) (hk : wg M 5 0 = nI kn) (hk10 : kn ≤ 10) : Fn G (d + 1) 62 [.ref 5, .ref 4] M none (wset (wset (wcpy M 30 31 0 (nx * 11) 11) 5 1 (nI (if nx = 9 then 0 else nx + 1))) 5 0 (nI (if kn = 10 then 10 else kn + 1))) := by
  have e1 : wg (wcpy M 30 31 0 (nx * 11) 11) 5 1 = nI nx := hn
  have e0 : ∀ v, wg (wset (wcpy M 30 31 0 (nx * 11) 11) 5 1 v) 5 0 = nI kn := fun v => hk
  have em : (if nI kn + nI 1 < nI 10 then nI kn + nI 1 else nI 10) = nI (if kn = 10 then 10 else kn + 1) := by
    rw [nI_add]
    by_cases h : kn + 1 < 10
    · rw [if_pos (nI_lt h (by omega)), if_neg (by omega)]
    · rw [if_neg (nI_nlt (by omega) (by omega))]
      congr 1
      by_cases h2 : kn = 10
      · rw [if_pos h2]
      · rw [if_neg h2]; omega
  refine Fn_of okc_X6_remember [] ?_
  conv => whnf
  rw [hn]
  refine call_k (c_saveTo_31 (by omega)) ?_
  conv => whnf
  rw [e1]
  refine And.intro (fun h => ?_) (fun h => ?_)
  · rw [nI_ltI (by omega) (by omega)] at h
    conv => whnf
    rw [if_neg (show ¬ nx = 9 by omega)]
    rw [e1, nI_add, e0, em]
    exact And.intro rfl rfl
  · rw [nI_ltI (by omega) (by omega)] at h
    conv => whnf
    rw [if_pos (show nx = 9 by omega)]
    rw [e0, em]
    exact And.intro rfl rfl
theorem c_takeBack {nx kn : Nat} (hn : wg M 5 1 = nI nx) (hn9 : nx ≤ 9) (hk : wg M 5 0 = nI (kn + 1)) (hk10 : kn < 10) : Fn G (d + 1) 63 [.ref 5, .ref 4] M none (wset (wcpy (wset M 5 1 (nI (if nx = 0 then 9 else nx - 1))) 31 30 ((if nx = 0 then 9 else nx - 1) * 11) 0 11) 5 0 (nI kn)) := by
  refine Fn_of okc_X6_takeBack [] ?_
  conv => whnf
  rw [hk]
  refine And.intro (fun h => absurd h (nI_ge (by omega) (by omega))) (fun _ => ?_)
  conv => whnf
  rw [hn]
  refine And.intro (fun h => ?_) (fun h => ?_)
  · rw [nI_ltI (by omega) (by omega)] at h
    conv => whnf
    rw [if_neg (show ¬ nx = 0 by omega), hn, pk_sub (show 1 ≤ nx by omega)]
    rw [wg_set, if_pos (by decide)]
    refine call_k (c_loadFrom_31 (by omega)) ?_
    conv => whnf
    have e0 : wg (wcpy (wset M 5 1 (nI (nx - 1))) 31 30 ((nx - 1) * 11) 0 11) 5 0 = nI (kn + 1) := hk
    rw [e0, pk_sub (show 1 ≤ kn + 1 by omega)]
    exact And.intro rfl rfl
  · rw [nI_ltI (by omega) (by omega)] at h
    conv => whnf
    rw [if_pos (show nx = 0 by omega)]
    rw [wg_set, if_pos (by decide)]
    refine call_k (c_loadFrom_31 (by omega)) ?_
    conv => whnf
    have e0 : wg (wcpy (wset M 5 1 (nI 9)) 31 30 (9 * 11) 0 11) 5 0 = nI (kn + 1) := hk
    rw [e0, pk_sub (show 1 ≤ kn + 1 by omega)]
    exact And.intro rfl rfl
theorem c_lose : Fn G d 64 [.ref 5] M none (wset M 5 0 (nI 0)) := by
  refine Fn_of okc_X6_lose [] ?_
  exact And.intro rfl rfl
-- Heard
theorem c_adds {hm : Nat} (hs : wg M 10 0 = nI hm) (h6 : hm ≤ 6) (x y : Int32) : Fn G d 19 [.ref 10, .int x, .int y] M (some (.int (bI (hm < 6)))) (@ite WM (hm < 6) (Classical.propDecidable _) (wset (wset (wset M 37 hm x) 38 hm y) 10 0 (nI (hm + 1))) M) := by
  refine Fn_of okc_X1_adds [] ?_
  conv => whnf
  rw [hs]
  refine And.intro (fun h => absurd h (nI_nlt (by omega) (by omega))) (fun _ => ?_)
  conv => whnf
  rw [hs]
  refine And.intro (fun h => ?_) (fun h => ?_)
  · rw [nI_ltI (by omega) (by omega)] at h
    rw [bI_t h, if_pos h]
    refine And.intro (by rw [hs]; exact vp_in_nI (by omega) (by decide)) ?_
    have e1 : ∀ v, wg (wset M 37 v x) 10 0 = nI hm := fun v => hs
    rw [hs, nI_clamp (by omega)]
    refine And.intro (by rw [e1]; exact vp_in_nI (by omega) (by decide)) ?_
    rw [e1, nI_clamp (by omega)]
    have e2 : wg (wset (wset M 37 hm x) 38 hm y) 10 0 = nI hm := hs
    conv => whnf
    rw [e2, nI_add]
    exact And.intro isB_1 (And.intro rfl rfl)
  · rw [nI_ltI (by omega) (by omega)] at h
    rw [bI_f h, if_neg h]
    exact And.intro isB_0 (And.intro rfl rfl)
/-- what was HEARD is so of m, from the k-th on -/
def hso (M : WM) (m k n : Nat) : Prop := ∀ i, k ≤ i → i < k + n → woul M m (cN M 47 (2 * i)) = iteI (cN M 47 (2 * i + 1) = 6) (mI 5) (nI (cN M 47 (2 * i + 1)))
set_option maxHeartbeats 200000 in
theorem lp_isAllSo (hG : Good M) {m : Nat} (hm : m < nMo M) : ∀ (n k : Nat) (z : Option Value), k + n = nH M →
    A G (d + 5) 20 2 [some (.ref 10), some (.int (nI m)), some (.ref 7), some (.int (nI k)), z] [] M (fun r M2 => r = some (.int (bI (hso M m k n))) ∧ M2 = M)
  | 0, k, z, hk => by
    have hH := hG.1.h
    have hs : wg M 10 0 = nI (nH M) := hG.2.2.2.2.2.2.2.2.1.1.trans hH.1
    refine A_wp okc_X1_isAllSo [2] ?_
    conv => whnf
    rw [hs]
    refine And.intro (fun _ => ?_) (fun h => absurd (nI_le (by omega) (by omega)) h)
    exact And.intro isB_1 (ret_i (bI_t (fun i h1 h2 => by omega)).symm)
  | n + 1, k, z, hk => by
    have hH := hG.1.h
    have hB := hG.b
    have hs : wg M 10 0 = nI (nH M) := hG.2.2.2.2.2.2.2.2.1.1.trans hH.1
    have hk2 : k < nH M := by omega
    have hw := hG.2.2.2.2.2.2.2.2.1.2 k hk2
    have hg := hG.1.2.2.2.1 k hk2
    have w37 : wg M 37 k = nI (cN M 47 (2 * k)) := hw.1.trans hg.1.1
    have w38 : wg M 38 k = nI (cN M 47 (2 * k + 1)) := hw.2.trans hg.2.2.1
    have p6 : cN M 47 (2 * k + 1) ≤ 6 := hg.2.2.2
    have hb := hg.2.1
    have step : ∀ v : Int32, v = iteI (cN M 47 (2 * k + 1) = 6) (mI 5) (nI (cN M 47 (2 * k + 1))) → wp G (d + 5) 20 cd_X1_isAllSo [2] (fun r M2 => r = some (.int (bI (hso M m k (n + 1)))) ∧ M2 = M) 4000 38 [some (.ref 10), some (.int (nI m)), some (.ref 7), some (.int (nI k)), z] [.int v] M := by
      intro v hv
      refine And.intro (vp_in_nI (by omega) (by decide)) ?_
      rw [nI_clamp (by omega), w37]
      refine call_k (c_wakesAt hG hm hb) ?_
      refine And.intro (fun h => ?_) (fun h => ?_)
      · have ih := lp_isAllSo hG hm n (k + 1) (some (.int v)) (by omega)
        rw [← nI_add k 1] at ih
        have e : hso M m k (n + 1) ↔ hso M m (k + 1) n := by
          refine ⟨fun q i h1 h2 => q i (by omega) (by omega), fun q i h1 h2 => ?_⟩
          rcases Nat.eq_or_lt_of_le h1 with z | z
          · subst z; rw [h]; exact hv
          · exact q i (by omega) (by omega)
        rw [bI_iff e]
        exact And.intro trivial ih
      · exact And.intro isB_0 (ret_i (bI_f (fun q => h ((q k (Nat.le_refl k) (by omega)).trans hv.symm))).symm)
    refine A_wp okc_X1_isAllSo [2, 38] ?_
    conv => whnf
    rw [hs]
    refine And.intro (fun h => absurd h (nI_ge (by omega) (by omega))) (fun _ => ?_)
    refine And.intro (fun h => absurd h (nI_ge (by omega) (by omega))) (fun _ => ?_)
    refine And.intro (vp_in_nI (by omega) (by decide)) ?_
    rw [nI_clamp (by omega), w38]
    refine And.intro (fun h => ?_) (fun h => ?_)
    · rw [nI_eq (by omega) (by omega)] at h
      refine And.intro (vp_in_nI (by omega) (by decide)) ?_
      rw [nI_clamp (by omega), w38]
      exact And.intro trivial (A_of_wp okc_X1_isAllSo 4000 _ _ _ _ (step _ (iteI_f h).symm))
    · rw [nI_eq (by omega) (by omega)] at h
      exact And.intro trivial (A_of_wp okc_X1_isAllSo 4000 _ _ _ _ (step _ (iteI_t h).symm))
theorem c_isAllSo (hG : Good M) {m : Nat} (hm : m < nMo M) : Fn G (d + 5) 20 [.ref 10, .int (nI m), .ref 7] M (some (.int (bI (hso M m 0 (nH M))))) M := by
  refine Fn_of okc_X1_isAllSo [2] ?_
  exact And.intro trivial (lp_isAllSo hG hm (nH M) 0 none (by omega))
end SMALL
