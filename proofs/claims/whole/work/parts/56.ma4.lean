-- match: the reference's leaves
noncomputable def wtv (M : WM) (m b : Nat) : Int32 := iteI (opn M m ∧ ¬ wg M 43 (3 + b) = nI 0) (iteI (carM M m b) (wg M 41 (8 * m)) (nI 0)) (mI 1)
def WtOK (M N : WM) : Prop := ∀ i j, i < nMo M → j < nB M → wg N 55 (4 * i + j) = wtv M i j
theorem tt_bt : ∀ t, t < 16 → ∀ b, b < 4 → ((nI t >>> (nI b &&& 31)) &&& nI 1 = nI 1 ↔ t / 2 ^ b % 2 = 1) := by decide +kernel
theorem pw_d : ∀ b, b < 5 → ∀ n, n < 6 → (b + 1) ^ n ≤ 3125 ∧ 1 ≤ (b + 1) ^ n := by decide +kernel
section MAM
variable {G : GG} {d : Nat} {M : WM}
theorem carM_w (hG : GM M) {m b : Nat} (hm : m < nMo M) : woul M m b = mI 5 ↔ carM M m b := woul5 hG hm
set_option maxHeartbeats 400000 in
theorem lp_fw12 (hG : GM M) {m : Nat} (hm : m < nMo M) (P : Option Value → WM → Prop)
    (hout : ∀ (N : WM) (z : Option Value), Sc M N → (∀ i j, i < m + 1 → j < nB M → wg N 55 (4 * i + j) = wtv M i j) → A G (d + 3) 160 93 [some (.ref 39), some (.int (nI m)), some (.int (nI (nB M))), z] [] N P) :
    ∀ (u b : Nat) (N : WM) (z : Option Value), b + u = nB M → Sc M N → (∀ i j, i < m → j < nB M → wg N 55 (4 * i + j) = wtv M i j) → (∀ j, j < b → wg N 55 (4 * m + j) = wtv M m j) →
    A G (d + 3) 160 12 [some (.ref 39), some (.int (nI m)), some (.int (nI b)), z] [] N P
  | 0, b, N, z, hb, hs, h1, h2 => by
    have hB := hG.b
    have e4 : wg N 39 4 = nI (nB M) := hs.2.1.2.2.1.trans hB.1
    refine A_wp okc_X10_findWorths [12, 93] ?_
    conv => whnf
    rw [e4]
    refine And.intro (fun _ => ?_) (fun h => absurd (nI_le (by omega) (by omega)) h)
    rw [show b = nB M by omega]
    refine And.intro trivial (hout N z hs (fun i j a c => ?_))
    by_cases e : i = m
    · rw [e]; exact h2 j (by omega)
    · exact h1 i j (by omega) c
  | u + 1, b, N, z, hb, hs, h1, h2 => by
    have hB := hG.b
    have hM := hG.m
    have e4 : wg N 39 4 = nI (nB M) := hs.2.1.2.2.1.trans hB.1
    have e43 : ∀ k, wg N 43 k = wg M 43 k := fun k => hs.c (by omega) k
    have next : ∀ (N2 : WM) (v : Int32) (z : Option Value), Sc M N2 → wg N2 55 = wg N 55 → v = wtv M m b → A G (d + 3) 160 12 [some (.ref 39), some (.int (nI m)), some (.int (nI b + nI 1)), z] [] (wset N2 55 (4 * m + b) v) P := by
      intro N2 v z hs2 e55 hv
      have ih := lp_fw12 hG hm P hout u (b + 1) (wset N2 55 (4 * m + b) v) z (by omega) (hs2.tr (Sc.set (Or.inl (by omega)))) (fun i j a c => by
        rw [wg_ne2 (by omega), e55]; exact h1 i j a c) (fun j a => by
        by_cases e : j = b
        · rw [e, wg_same]; exact hv
        · rw [wg_ne2 (by omega), e55]; exact h2 j (by omega))
      rw [← nI_add b 1] at ih
      exact ih
    have no : ∀ z, ¬ (opn M m ∧ ¬ wg M 43 (3 + b) = nI 0) → A G (d + 3) 160 44 [some (.ref 39), some (.int (nI m)), some (.int (nI b)), z] [.int (nI 0)] N P := by
      intro z hn
      refine A_wp okc_X10_findWorths [12] ?_
      refine And.intro (fun h => absurd rfl h) (fun _ => ?_)
      refine And.intro (by rw [pk_mul, nI_add]; exact vp_in_nI (by omega) (by decide)) ?_
      rw [pk_mul, nI_add, nI_clamp (n := 4 * m + b) (by omega)]
      exact And.intro trivial (next N (mI 1) _ hs rfl (iteI_f hn).symm)
    refine A_wp okc_X10_findWorths [12, 44] ?_
    conv => whnf
    rw [e4]
    refine And.intro (fun h => absurd h (nI_ge (by omega) (by omega))) (fun _ => ?_)
    refine call_k (m_isDone _) ?_
    rw [e43, e43]
    refine And.intro (fun h => ?_) (fun h => ?_)
    · rw [bI_0, Classical.not_not] at h
      exact And.intro trivial (no _ (fun q => q.1 h))
    · rw [bI_0] at h
      refine And.intro (by rw [nI_add]; exact vp_in_nI (by omega) (by decide)) ?_
      rw [nI_add, nI_clamp (n := 3 + b) (by omega), e43]
      have hdn : ∃ j, j ≤ 9 ∧ wg M 43 (3 + b) = nI j := ⟨_, (hG.dep (by omega)).2, (hG.dep (by omega)).1⟩
      refine And.intro (fun h3 => ?_) (fun h3 => ?_)
      · rw [le0_n hdn] at h3
        exact And.intro trivial (no _ (fun q => q.2 h3))
      · rw [le0_n hdn] at h3
        refine And.intro trivial ?_
        refine A_wp okc_X10_findWorths [12] ?_
        refine And.intro (fun _ => ?_) (fun h => absurd h n10)
        have hwb := m_wouldBe (G := G) (d := d) (hs.GM_ hG) (m := m) (b := b) (by rw [hs.nMo_]; exact hm) (by omega)
        rw [hs.woul_, hs.len_] at hwb
        refine call_k hwb ?_
        have hs2 : Sc M (rowL N m (len M m)) := hs.tr (rowL_sc N m _)
        have o55 : ∀ v, wg (wset (rowL N m (len M m)) 39 32 v) 55 = wg N 55 := fun v => (wg_row_ne (by omega)).trans (rowL_o N m (by omega) (by omega) (by omega) _)
        refine And.intro (fun h4 => ?_) (fun h4 => ?_)
        · rw [carM_w hG hm] at h4
          refine And.intro (by rw [pk_mul, nI_add]; exact vp_in_nI (by omega) (by decide)) ?_
          rw [pk_mul, nI_add, nI_clamp (n := 4 * m + b) (by omega)]
          exact And.intro trivial (next _ (nI 0) _ (sc32 hs2) (o55 _) ((iteI_t ⟨h, h3⟩).trans (iteI_f h4)).symm)
        · rw [carM_w hG hm] at h4
          refine And.intro (by rw [pk_mul]; exact vp_in_nI (by omega) (by decide)) ?_
          rw [pk_mul 8 m, nI_clamp (n := 8 * m) (by omega), (sc32 hs2).c (show 41 < 39 ∨ (39 < 41 ∧ 41 < 49) by omega)]
          refine And.intro (by rw [pk_mul, nI_add]; exact vp_in_nI (by omega) (by decide)) ?_
          rw [pk_mul, nI_add, nI_clamp (n := 4 * m + b) (by omega)]
          exact And.intro trivial (next _ (wg M 41 (8 * m)) _ (sc32 hs2) (o55 _) ((iteI_t ⟨h, h3⟩).trans (iteI_t h4)).symm)
set_option maxHeartbeats 400000 in
theorem lp_fw2 (hG : GM M) : ∀ (u m : Nat) (N : WM) (z2 z : Option Value), m + u = nMo M → Sc M N → (∀ i j, i < m → j < nB M → wg N 55 (4 * i + j) = wtv M i j) →
    A G (d + 3) 160 2 [some (.ref 39), some (.int (nI m)), z2, z] [] N (fun q N2 => q = none ∧ Sc M N2 ∧ WtOK M N2)
  | 0, m, N, z2, z, hm, hs, h1 => by
    have hM := hG.m
    have e2 : wg N 39 2 = nI (nMo M) := hs.2.1.2.1.trans hM.1
    refine A_wp okc_X10_findWorths [2] ?_
    conv => whnf
    rw [e2]
    refine And.intro (fun _ => ?_) (fun h => absurd (nI_le (by omega) (by omega)) h)
    exact ⟨rfl, hs, fun i j a c => h1 i j (by omega) c⟩
  | u + 1, m, N, z2, z, hm, hs, h1 => by
    have hM := hG.m
    have e2 : wg N 39 2 = nI (nMo M) := hs.2.1.2.1.trans hM.1
    refine A_wp okc_X10_findWorths [2, 12] ?_
    conv => whnf
    rw [e2]
    refine And.intro (fun h => absurd h (nI_ge (by omega) (by omega))) (fun _ => ?_)
    refine And.intro trivial ?_
    refine lp_fw12 hG (show m < nMo M by omega) _ (fun N2 z3 hs2 h12 => ?_) (nB M) 0 N z (by omega) hs h1 (fun j hj => by omega)
    have ih := lp_fw2 hG u (m + 1) N2 (some (.int (nI (nB M)))) z3 (by omega) hs2 h12
    rw [← nI_add m 1] at ih
    refine A_wp okc_X10_findWorths [2] ?_
    exact And.intro trivial ih
theorem m_findWorths (hG : GM M) : Fr G (d + 3) 160 [.ref 39] M (fun q N2 => q = none ∧ Sc M N2 ∧ WtOK M N2) := by
  refine Fr_of okc_X10_findWorths [2] ?_
  exact And.intro trivial (lp_fw2 hG (nMo M) 0 M none none (by omega) (Sc.rf M) (fun i j a _ => by omega))
theorem Vv.sn {g : Nat → Nat} {m : Nat} (r : Vv M g m) (hb : g m ≤ nB M) (h : g m ≠ 0 → opn M m ∧ (¬ wg M 43 (3 + (g m - 1)) = nI 0) ∧ ∀ j, j < m → g j ≠ g m) : Vv M g (m + 1) := fun i hi => by
  by_cases z : i = m
  · rw [z]; exact ⟨hb, h⟩
  · exact r i (by omega)
set_option maxHeartbeats 400000 in
theorem lp_wo (hG : GM M) {N : WM} {g : Nat → Nat} (hs : Sc M N) (hwt : WtOK M N) (hg : ∀ i, i < nMo M → wg N 56 i = nI (g i) ∧ g i ≤ nB M) :
    ∀ (u m t : Nat) (z4 z5 : Option Value), m + u = nMo M → Vv M g m → TtOK t g m →
    A G (d + 1) 161 6 [some (.ref 39), some (.int (nI t)), some (.int (nI (wV M g m))), some (.int (nI m)), z4, z5] [] N (fun q N2 => q = some (.int (iteI (Vv M g (nMo M)) (nI (wV M g (nMo M))) (mI 1))) ∧ N2 = N)
  | 0, m, t, z4, z5, hm, hV, ht => by
    have hM := hG.m
    have e2 : wg N 39 2 = nI (nMo M) := hs.2.1.2.1.trans hM.1
    obtain rfl : m = nMo M := by omega
    refine A_wp okc_X10_worthOf [6] ?_
    conv => whnf
    rw [e2]
    refine And.intro (fun _ => ?_) (fun h => absurd (nI_le (by omega) (by omega)) h)
    rw [iteI_t hV]
    exact And.intro rfl rfl
  | u + 1, m, t, z4, z5, hm, hV, ht => by
    have hM := hG.m
    have hB := hG.b
    have e2 : wg N 39 2 = nI (nMo M) := hs.2.1.2.1.trans hM.1
    have hm2 : m < nMo M := by omega
    have hgm := hg m hm2
    have es : wV M g (m + 1) = wV M g m + iteN (g m ≠ 0 ∧ carM M m (g m - 1)) (cN M 41 (8 * m)) 0 := rfl
    refine A_wp okc_X10_worthOf [6] ?_
    conv => whnf
    rw [e2]
    refine And.intro (fun h => absurd h (nI_ge (by omega) (by omega))) (fun _ => ?_)
    refine And.intro (vp_in_nI (by omega) (by decide)) ?_
    rw [nI_clamp (n := m) (by omega), hgm.1]
    refine And.intro (fun h => ?_) (fun h => ?_)
    · rw [nI_leI (by omega) (by omega)] at h
      have h0 : g m = 0 := by omega
      have ih := lp_wo hG hs hwt hg u (m + 1) t z4 z5 (by omega) (hV.sn hgm.2 (fun q => absurd h0 q)) (ht.z (fun _ _ => rfl) h0)
      rw [es] at ih
      rw [iteN_f (fun q => q.1 h0), Nat.add_zero, ← nI_add m 1] at ih
      exact And.intro trivial ih
    · rw [nI_leI (by omega) (by omega)] at h
      obtain ⟨b, eb⟩ : ∃ b, g m = b + 1 := ⟨g m - 1, by omega⟩
      have hb : b < nB M := by omega
      refine And.intro (vp_in_nI (by omega) (by decide)) ?_
      rw [nI_clamp (n := m) (by omega), hgm.1, eb]
      refine And.intro (by rw [pk_mul, nIs (show 1 ≤ b + 1 by omega), nI_add]; exact vp_in_nI (by omega) (by decide)) ?_
      rw [pk_mul, nIs (show 1 ≤ b + 1 by omega), Nat.add_sub_cancel, nI_add, nI_clamp (n := 4 * m + b) (by omega), hwt m b hm2 hb]
      rcases Classical.em (opn M m ∧ ¬ wg M 43 (3 + b) = nI 0) with ho | ho
      · have hge : ∃ v, wtv M m b = nI v ∧ v ≤ 99 ∧ v = iteN (g m ≠ 0 ∧ carM M m (g m - 1)) (cN M 41 (8 * m)) 0 := by
          rcases Classical.em (carM M m b) with hc | hc
          · refine ⟨cN M 41 (8 * m), ?_, (hG.2.1 m hm2).1.2, ?_⟩
            · rw [← (hG.2.1 m hm2).1.1]; exact (iteI_t ho).trans (iteI_t hc)
            · rw [iteN_t ⟨by omega, by rw [eb, Nat.add_sub_cancel]; exact hc⟩]
          · refine ⟨0, (iteI_t ho).trans (iteI_f hc), by omega, ?_⟩
            rw [iteN_f (fun q => hc (by have := q.2; rw [eb, Nat.add_sub_cancel] at this; exact this))]
        obtain ⟨v, ev, hv, ev2⟩ := hge
        rw [ev]
        refine And.intro (fun h1 => absurd h1 (nI_nlt (Nat.zero_le _) (by omega))) (fun _ => ?_)
        refine call_k (c_has _ _) ?_
        refine And.intro (fun h1 => ?_) (fun h1 => ?_)
        · rw [bI_0] at h1
          unfold bt at h1
          rw [tt_bt t ht.1 b (by omega), ht.2 b (by omega)] at h1
          have ih := lp_wo hG hs hwt hg u (m + 1) (t ||| 2 ^ b) (some (.int (nI b))) (some (.int (nI v))) (by omega) (hV.sn hgm.2 (fun _ => by
            rw [eb, Nat.add_sub_cancel]
            exact ⟨ho.1, ho.2, fun j hj q => h1 ⟨j, hj, q⟩⟩)) (ht.s (by omega) (fun _ _ => rfl) eb)
          rw [es] at ih
          rw [← ev2, ← nI_add m 1, ← (tt_or t ht.1 b (by omega)).1, ← nI_add (wV M g m) v] at ih
          exact And.intro trivial ih
        · rw [bI_0, Classical.not_not] at h1
          unfold bt at h1
          rw [tt_bt t ht.1 b (by omega), ht.2 b (by omega)] at h1
          obtain ⟨j, hj, q⟩ := h1
          rw [iteI_f (fun V => ((V m hm2).2 (by omega)).2.2 j hj (by rw [q, eb]))]
          exact And.intro rfl rfl
      · rw [show wtv M m b = mI 1 from iteI_f ho]
        refine And.intro (fun _ => ?_) (fun h1 => absurd (by decide) h1)
        rw [iteI_f (fun V => ho (by
          have := (V m hm2).2 (by omega)
          rw [eb, Nat.add_sub_cancel] at this
          exact ⟨this.1, this.2.1⟩))]
        exact And.intro rfl rfl
theorem m_worthOf (hG : GM M) {N : WM} {g : Nat → Nat} (hs : Sc M N) (hwt : WtOK M N) (hg : ∀ i, i < nMo M → wg N 56 i = nI (g i) ∧ g i ≤ nB M) : Fn G (d + 1) 161 [.ref 39] N (some (.int (iteI (Vv M g (nMo M)) (nI (wV M g (nMo M))) (mI 1)))) N := by
  refine Fn_of okc_X10_worthOf [6] ?_
  refine And.intro trivial (lp_wo hG hs hwt hg (nMo M) 0 0 none none (by omega) (fun i hi => by omega) ⟨by omega, fun b hb => ⟨fun q => ?_, fun q => ?_⟩⟩)
  · rw [Nat.zero_div] at q; omega
  · obtain ⟨i, hi, _⟩ := q; omega
end MAM
