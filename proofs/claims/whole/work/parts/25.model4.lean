-- the reference: deep, rockings, noise, which
theorem c5 {M : WM} {r : Nat → Nat} {lo : Nat → Int32} {e : Int32} {n : Nat} {a : Int32} (hn : n ≤ 6) : (if a = nI 0 then mI 9 else pl M r lo e n 0 a) = mI 5 ↔ ¬ (if a = nI 0 then nI 0 else rn M r lo e n 0 a) = nI 0 := by
  by_cases h : a = nI 0
  · rw [if_pos h, if_pos h]
    exact ⟨fun q => absurd q (by decide), fun q => absurd rfl q⟩
  · rw [if_neg h, if_neg h]
    exact pl_rn n 0 a (by omega) h
theorem RowIs.lo {M : WM} {r : Nat → Nat} {n k : Nat} {lo : Nat → Int32} {v : Int32} (h : RowIs M r n lo) : RowIs (wset M 54 k v) r n (fun i => if i = k then v else lo i) := by
  refine ⟨h.1, fun i hi => ⟨(h.2 i hi).1, ?_⟩⟩
  rw [wg_set]
  show _ = if i = k then v else lo i
  by_cases e : i = k
  · rw [if_pos ⟨rfl, e⟩, if_pos e]
  · rw [if_neg (fun q => e q.2), if_neg e]; exact (h.2 i hi).2
theorem RowIs.cg {M : WM} {r : Nat → Nat} {n : Nat} {lo lo' : Nat → Int32} (h : RowIs M r n lo) (e : ∀ i, i < n → lo i = lo' i) : RowIs M r n lo' := ⟨h.1, fun i hi => ⟨(h.2 i hi).1, (h.2 i hi).2.trans (e i hi)⟩⟩
section MPUB
variable {G : GG} {d : Nat} {M : WM}
/-- woken over a row, as the words have it -/
theorem m_wk (hG : GM M) {m b : Nat} (hm : m < nMo M) {N : WM} (hs : Sc M N) {lo : Nat → Int32} (hR : RowIs N (txt M m) (len M m) lo) (a : Int32) : Fn G d 136 [.ref 39, .int a, .int (eN M b)] N (some (.int (if a = nI 0 then mI 9 else pl M (txt M m) lo (eN M b) (len M m) 0 a))) (wset N 39 32 (rn0 M m b lo a)) := by
  have hl := hG.ln hm
  have hW := hG.w
  have h := m_woken (G := G) (d := d) hR (by omega) (fun k hk => by have := (hG.tx hm hk).2; omega) a (eN M b)
  rw [hs.pl_, hs.rn_] at h
  exact h
theorem sc32 {M N : WM} (hs : Sc M N) {v : Int32} : Sc M (wset N 39 32 v) := hs.tr (Sc.set (Or.inr ⟨rfl, by omega⟩))
theorem sc54 {M N : WM} (hs : Sc M N) {k : Nat} {v : Int32} : Sc M (wset N 54 k v) := hs.tr (Sc.set (Or.inl (by omega)))
theorem m_eN {N : WM} (hs : Sc M N) {b : Nat} (hb : b < 4) : Fn G (d + 1) 133 [.ref 39, .int (nI b)] N (some (.int (eN M b))) N := by
  have h := m_earsOf (G := G) (d := d) (M := N) hb
  rw [hs.eN_] at h
  exact h
set_option maxHeartbeats 200000 in
theorem lp_mdeep (hG : GM M) {m b : Nat} (hm : m < nMo M) (hb : b < 4) : ∀ (n k : Nat) (N : WM), k + n = 10 → Sc M N → RowIs N (txt M m) (len M m) zlo →
    A G (d + 2) 152 25 [some (.ref 39), some (.int (nI m)), some (.int (nI b)), some (.int (nI k))] [] N (AnsS M (fstI (fun k => ¬ rn0 M m b zlo (nI k) = nI 0) n k))
  | 0, k, N, hk, hs, hR => by
    refine A_wp okc_X10_deep [25] ?_
    refine And.intro (fun _ => ?_) (fun h => absurd (nI_lt (by omega) (by omega)) h)
    exact AnsS.eq rfl hs
  | n + 1, k, N, hk, hs, hR => by
    have hl := hG.ln hm
    refine A_wp okc_X10_deep [25] ?_
    refine And.intro (fun h => absurd h (nI_nlt (by omega) (by omega))) (fun _ => ?_)
    refine call_k (m_eN hs hb) ?_
    refine call_k (m_wk hG hm hs hR (nI k)) ?_
    refine And.intro (fun h => ?_) (fun h => ?_)
    · rw [c5 (by omega), Classical.not_not] at h
      have ih := lp_mdeep hG hm hb n (k + 1) (wset N 39 32 (rn0 M m b zlo (nI k))) (by omega) (sc32 hs) hR.beh
      rw [← nI_add k 1] at ih
      rw [fstI_f (fun q => q h)]
      exact And.intro trivial ih
    · rw [c5 (by omega)] at h
      exact AnsS.eq (fstI_t h).symm (sc32 hs)
theorem m_deep (hG : GM M) (x y : Int32) : Fr G (d + 2) 152 [.ref 39, .int x, .int y] M (AnsS M (R_pair M x y (S_deep M x.toNatClampNeg y.toNatClampNeg))) := by
  have hW := hG.m
  have hB := hG.b
  refine Fr_of okc_X10_deep [25] ?_
  refine call_k (c_isMotion hG x) ?_
  refine And.intro (fun h => ?_) (fun h => ?_)
  · rw [bI_0] at h
    exact AnsS.rf (iteI_f (fun q => h q.1)).symm
  · rw [bI_0, Classical.not_not] at h
    refine call_k (c_isBaby hG y) ?_
    refine And.intro (fun h1 => ?_) (fun h1 => ?_)
    · rw [bI_0, Classical.not_not] at h1
      unfold R_pair
      rw [iteI_t ⟨h, h1⟩]
      obtain ⟨m, hm, rfl⟩ := ix_of h (by omega)
      obtain ⟨b, hb, rfl⟩ := ix_of h1 (by omega)
      rw [nI_clamp (n := m) (by omega), nI_clamp (n := b) (by omega)]
      refine call_k (m_rowOf hG hm) ?_
      exact And.intro trivial (lp_mdeep hG hm (by omega) 9 1 _ (by omega) (rowL_sc M m _) (rowL_is hG hm))
    · rw [bI_0] at h1
      exact AnsS.rf (iteI_f (fun q => h1 q.2)).symm
set_option maxHeartbeats 200000 in
theorem lp_mrock (hG : GM M) {m b : Nat} (hm : m < nMo M) (hb : b < 4) : ∀ (n k : Nat) (N : WM), k + n = 5 → Sc M N → RowIs N (txt M m) (len M m) zlo →
    A G (d + 2) 153 35 [some (.ref 39), some (.int (nI m)), some (.int (nI b)), some (.int (rockN (wg M 43 (3 + b)) k)), some (.int (nI k))] [] N (AnsS M (fstI (fun k => ¬ rn0 M m b zlo (rockN (wg M 43 (3 + b)) k) = nI 0) n k))
  | 0, k, N, hk, hs, hR => by
    refine A_wp okc_X10_rockings [35] ?_
    refine And.intro (fun _ => ?_) (fun h => absurd (nI_le (by omega) (by omega)) h)
    exact AnsS.eq rfl hs
  | n + 1, k, N, hk, hs, hR => by
    have hl := hG.ln hm
    refine A_wp okc_X10_rockings [35] ?_
    refine And.intro (fun h => absurd h (nI_ge (by omega) (by omega))) (fun _ => ?_)
    refine call_k (m_eN hs hb) ?_
    refine call_k (m_wk hG hm hs hR _) ?_
    refine And.intro (fun h => ?_) (fun h => ?_)
    · rw [c5 (by omega), Classical.not_not] at h
      refine call_k (m_rocked _) ?_
      have ih := lp_mrock hG hm hb n (k + 1) (wset N 39 32 (rn0 M m b zlo (rockN (wg M 43 (3 + b)) k))) (by omega) (sc32 hs) hR.beh
      rw [← nI_add k 1] at ih
      rw [fstI_f (fun q => q h)]
      exact And.intro trivial ih
    · rw [c5 (by omega)] at h
      exact AnsS.eq (fstI_t h).symm (sc32 hs)
theorem m_rockings (hG : GM M) (x y : Int32) : Fr G (d + 2) 153 [.ref 39, .int x, .int y] M (AnsS M (R_pair M x y (S_rock M x.toNatClampNeg y.toNatClampNeg))) := by
  have hW := hG.m
  have hB := hG.b
  refine Fr_of okc_X10_rockings [35] ?_
  refine call_k (c_isMotion hG x) ?_
  refine And.intro (fun h => ?_) (fun h => ?_)
  · rw [bI_0] at h
    exact AnsS.rf (iteI_f (fun q => h q.1)).symm
  · rw [bI_0, Classical.not_not] at h
    refine call_k (c_isBaby hG y) ?_
    refine And.intro (fun h1 => ?_) (fun h1 => ?_)
    · rw [bI_0, Classical.not_not] at h1
      unfold R_pair
      rw [iteI_t ⟨h, h1⟩]
      obtain ⟨m, hm, rfl⟩ := ix_of h (by omega)
      obtain ⟨b, hb, rfl⟩ := ix_of h1 (by omega)
      rw [nI_clamp (n := m) (by omega), nI_clamp (n := b) (by omega)]
      refine call_k (m_rowOf hG hm) ?_
      refine And.intro (by rw [nI_add]; exact vp_in_nI (by omega) (by decide)) ?_
      rw [nI_add, nI_clamp (n := 3 + b) (by omega), (rowL_sc M m _).c (by omega)]
      exact And.intro trivial (lp_mrock hG hm (by omega) 5 0 _ (by omega) (rowL_sc M m _) (rowL_is hG hm))
    · rw [bI_0] at h1
      exact AnsS.rf (iteI_f (fun q => h1 q.2)).symm
theorem fstI_first {p : Nat → Prop} : ∀ (n k k2 : Nat), k ≤ k2 → k2 < k + n → (∀ i, k ≤ i → i < k2 → ¬ p i) → p k2 → fstI p n k = nI k2
  | 0, k, k2, h1, h2, _, _ => by omega
  | n + 1, k, k2, h1, h2, h3, h4 => by
    rcases Nat.eq_or_lt_of_le h1 with q | q
    · subst q; exact fstI_t h4
    · rw [fstI_f (h3 k (Nat.le_refl k) q)]
      exact fstI_first n (k + 1) k2 (by omega) (by omega) (fun i a b => h3 i (by omega) b) h4
theorem fstI_none {p : Nat → Prop} : ∀ (n k : Nat), (∀ i, k ≤ i → i < k + n → ¬ p i) → fstI p n k = mI 9
  | 0, k, _ => rfl
  | n + 1, k, h => by
    rw [fstI_f (h k (Nat.le_refl k) (by omega))]
    exact fstI_none n (k + 1) (fun i a b => h i (by omega) (by omega))
/-- noise: from the louder x on -/
noncomputable def nse (M : WM) (m b : Nat) (z : Int32) : Nat → Nat → Int32
  | 0, _ => mI 9
  | n + 1, x => iteI (fpw M m b (nI x) = mI 9) (nse M m b z n (x + 1)) (iteI (z = nI 0) (nI x) (fpw M m b (nI x)))
theorem nse_eq (M : WM) (m b : Nat) (z : Int32) : ∀ (n x : Nat), x + n ≤ 100 → nse M m b z n x = iteI (fstI (fun k => ¬ fpw M m b (nI k) = mI 9) n x = mI 9 ∨ z = nI 0) (fstI (fun k => ¬ fpw M m b (nI k) = mI 9) n x) (fpw M m b (fstI (fun k => ¬ fpw M m b (nI k) = mI 9) n x))
  | 0, x, _ => by
    exact (iteI_t (Or.inl rfl)).symm
  | n + 1, x, hx => by
    rw [nse]
    rcases Classical.em (fpw M m b (nI x) = mI 9) with h | h
    · rw [iteI_t h, fstI_f (fun q => q h)]
      exact nse_eq M m b z n (x + 1) (by omega)
    · rw [iteI_f h, fstI_t h]
      rcases Classical.em (z = nI 0) with h2 | h2
      · rw [iteI_t h2, iteI_t (Or.inr h2)]
      · rw [iteI_f h2, iteI_f (fun q => q.elim (mI9_ne x (by omega)) h2)]
set_option maxHeartbeats 400000 in
theorem lp_mnoise (hG : GM M) {m b : Nat} (hm : m < nMo M) (hb : b < 4) (z : Int32) (x : Nat) (P : Option Value → WM → Prop)
    (hno : (∀ i, i < len M m → ¬ rn0 M m b (lo1 i (nI x)) (wg M 43 (3 + b)) = nI 0) → ∀ N, Sc M N → RowIs N (txt M m) (len M m) zlo → A G (d + 2) 158 120 [some (.ref 39), some (.int (nI m)), some (.int (nI b)), some (.int z), some (.int (nI x)), some (.int (nI (len M m)))] [] N P)
    (hy : ∀ k2 N2, k2 < len M m → (∀ i, i < k2 → ¬ rn0 M m b (lo1 i (nI x)) (wg M 43 (3 + b)) = nI 0) → rn0 M m b (lo1 k2 (nI x)) (wg M 43 (3 + b)) = nI 0 → Sc M N2 → P (some (.int (iteI (z = nI 0) (nI x) (nI k2)))) N2)
    : ∀ (n k : Nat) (N : WM), k + n = len M m → Sc M N → RowIs N (txt M m) (len M m) zlo → (∀ i, i < k → ¬ rn0 M m b (lo1 i (nI x)) (wg M 43 (3 + b)) = nI 0) →
    A G (d + 2) 158 54 [some (.ref 39), some (.int (nI m)), some (.int (nI b)), some (.int z), some (.int (nI x)), some (.int (nI k))] [] N P
  | 0, k, N, hk, hs, hR, hp => by
    have hl := hG.ln hm
    refine A_wp okc_X10_noise [54, 120] ?_
    conv => whnf
    rw [hR.1]
    refine And.intro (fun _ => ?_) (fun h => absurd (nI_le (by omega) (by omega)) h)
    rw [show k = len M m by omega]
    exact And.intro trivial (hno (fun i hi => hp i (by omega)) N hs hR)
  | n + 1, k, N, hk, hs, hR, hp => by
    have hl := hG.ln hm
    have hR2 : RowIs (wset N 54 k (nI x)) (txt M m) (len M m) (lo1 k (nI x)) := hR.lo
    have e43 : wg (wset N 54 k (nI x)) 43 (3 + b) = wg M 43 (3 + b) := hs.c (by omega) _
    refine A_wp okc_X10_noise [54, 120] ?_
    conv => whnf
    rw [hR.1]
    refine And.intro (fun h => absurd h (nI_ge (by omega) (by omega))) (fun _ => ?_)
    refine And.intro (vp_in_nI (by omega) (by decide)) ?_
    rw [nI_clamp (n := k) (by omega)]
    refine And.intro (by rw [nI_add]; exact vp_in_nI (by omega) (by decide)) ?_
    rw [nI_add, nI_clamp (n := 3 + b) (by omega), e43]
    refine call_k (m_eN (sc54 hs) hb) ?_
    refine call_k (m_wk hG hm (sc54 hs) hR2 _) ?_
    refine And.intro (fun h => ?_) (fun h => ?_)
    · rw [c5 (by omega)] at h
      refine And.intro (vp_in_nI (by omega) (by decide)) ?_
      rw [nI_clamp (n := k) (by omega)]
      have hR3 : RowIs (wset (wset (wset N 54 k (nI x)) 39 32 (rn0 M m b (lo1 k (nI x)) (wg M 43 (3 + b)))) 54 k (nI 0)) (txt M m) (len M m) zlo := by
        refine (RowIs.lo (k := k) (v := nI 0) hR2.beh).cg (fun i _ => ?_)
        show (if i = k then nI 0 else lo1 k (nI x) i) = nI 0
        by_cases e : i = k
        · rw [if_pos e]
        · rw [if_neg e]; exact if_neg e
      have ih := lp_mnoise hG hm hb z x P hno hy n (k + 1) _ (by omega) (sc54 (sc32 (sc54 hs))) hR3 (fun i hi => by
          rcases Nat.eq_or_lt_of_le (Nat.le_of_lt_succ hi) with q | q
          · subst q; exact h
          · exact hp i q)
      rw [← nI_add k 1] at ih
      exact And.intro trivial ih
    · rw [c5 (by omega), Classical.not_not] at h
      have hfin := hy k (wset (wset N 54 k (nI x)) 39 32 (rn0 M m b (lo1 k (nI x)) (wg M 43 (3 + b)))) (by omega) hp h (sc32 (sc54 hs))
      refine And.intro (fun h1 => ?_) (fun h1 => ?_)
      · rw [iteI_f h1] at hfin
        exact hfin
      · rw [iteI_t h1] at hfin
        exact hfin
set_option maxHeartbeats 400000 in
theorem lp_mnoise2 (hG : GM M) {m b : Nat} (hm : m < nMo M) (hb : b < 4) (z : Int32) : ∀ (n x : Nat) (N : WM) (z5 : Option Value), x + n = 10 → Sc M N → RowIs N (txt M m) (len M m) zlo →
    A G (d + 2) 158 44 [some (.ref 39), some (.int (nI m)), some (.int (nI b)), some (.int z), some (.int (nI x)), z5] [] N (AnsS M (nse M m b z n x))
  | 0, x, N, z5, hk, hs, hR => by
    refine A_wp okc_X10_noise [44] ?_
    refine And.intro (fun _ => ?_) (fun h => absurd (nI_le (by omega) (by omega)) h)
    exact AnsS.eq rfl hs
  | n + 1, x, N, z5, hk, hs, hR => by
    refine A_wp okc_X10_noise [44, 54] ?_
    refine And.intro (fun h => absurd h (nI_ge (by omega) (by omega))) (fun _ => ?_)
    refine And.intro trivial (lp_mnoise hG hm hb z x _ (fun hn N2 hs2 hR2 => ?_) (fun k2 N2 h1 h2 h3 h4 => ?_) (len M m) 0 N (by omega) hs hR (fun i hi => by omega))
    · have e : fpw M m b (nI x) = mI 9 := fstI_none _ _ (fun i _ hi => hn i (by omega))
      have ih := lp_mnoise2 hG hm hb z n (x + 1) N2 (some (.int (nI (len M m)))) (by omega) hs2 hR2
      rw [← nI_add x 1] at ih
      refine A_wp okc_X10_noise [44] ?_
      rw [nse, iteI_t e]
      exact And.intro trivial ih
    · have e : fpw M m b (nI x) = nI k2 := fstI_first _ _ k2 (by omega) (by omega) (fun i _ hi => h2 i hi) h3
      rw [nse, iteI_f (by rw [e]; exact mI9_ne k2 (by have := hG.ln hm; omega)), e]
      exact ⟨rfl, h4⟩
theorem woul5 (hG : GM M) {m b : Nat} (hm : m < nMo M) : woul M m b = mI 5 ↔ ¬ rn0 M m b zlo (wg M 43 (3 + b)) = nI 0 := c5 (by have := hG.ln hm; omega)
theorem m_noise (hG : GM M) (x y z : Int32) : Fr G (d + 3) 158 [.ref 39, .int x, .int y, .int z] M (AnsS M (R_noise M x y z)) := by
  have hW := hG.m
  have hB := hG.b
  refine Fr_of okc_X10_noise [44] ?_
  refine call_k (c_isMotion hG x) ?_
  refine And.intro (fun h => ?_) (fun h => ?_)
  · rw [bI_0] at h
    exact AnsS.rf (iteI_f (fun q => h q.1)).symm
  · rw [bI_0, Classical.not_not] at h
    refine call_k (c_isBaby hG y) ?_
    refine And.intro (fun h1 => ?_) (fun h1 => ?_)
    · rw [bI_0] at h1
      exact AnsS.rf (iteI_f (fun q => h1 q.2.1)).symm
    · rw [bI_0, Classical.not_not] at h1
      refine call_k (c_in _ _ _) ?_
      rw [bI_iff (in_ix2 (n := 1) (by omega))]
      refine And.intro (fun h2 => ?_) (fun h2 => ?_)
      · rw [bI_0, Classical.not_not] at h2
        unfold R_noise
        rw [iteI_t ⟨h, h1, h2⟩]
        obtain ⟨m, hm, rfl⟩ := ix_of h (by omega)
        obtain ⟨b, hb, rfl⟩ := ix_of h1 (by omega)
        rw [nI_clamp (n := m) (by omega), nI_clamp (n := b) (by omega)]
        have hsc : Sc M (wset (rowL M m (len M m)) 39 32 (rn0 M m b zlo (wg M 43 (3 + b)))) := sc32 (rowL_sc M m _)
        refine call_k (m_wouldBe hG hm (by omega)) ?_
        refine And.intro (fun h3 => ?_) (fun h3 => ?_)
        · rw [woul5 hG hm] at h3
          have e : S_noise M m b z = nse M m b z 9 1 := by
            rw [nse_eq M m b z 9 1 (by omega)]
            unfold S_noise lld
            rw [if_neg h3]
          rw [e]
          exact And.intro trivial (lp_mnoise2 (d := d + 1) hG hm (by omega) z 9 1 _ none (by omega) hsc (rowL_is hG hm).beh)
        · rw [woul5 hG hm, Classical.not_not] at h3
          refine AnsS.eq ?_ hsc
          unfold S_noise lld
          rw [if_pos h3, iteI_t (Or.inl rfl)]
      · rw [bI_0] at h2
        exact AnsS.rf (iteI_f (fun q => h2 q.2.2)).symm
end MPUB
