-- feeds, reads
section SAME
variable {G : GG} {d : Nat} {M : WM}
theorem s_feeds (hg : GoodT M) (x : Int32) : Same G 94 149 [.int x] M := by
  have hB := hg.1.1.b
  have hBc := hg.1.b
  rcases Classical.em (ix x (nB M)) with hx | hx
  · obtain ⟨b, hb, rfl⟩ := ix_of hx (by omega)
    rcases Classical.em (nI 99999 < wg M 43 0 + nI 3) with hl | hl
    · have c1 : Fn G 40 94 [.ref 0, .int (nI b)] M (some (.int (mI 2))) M := by
        refine Fn_of (d := 40) okc_X9_feeds [] ?_
        refine call_k (c_hasBaby hBc.1 hBc.2 _) ?_
        rw [bI_t hx]
        refine And.intro (fun _ => ?_) (fun h => absurd h n10)
        refine call_k (c_isTooLate _) ?_
        rw [hg.1.rmin, bI_t hl]
        refine And.intro (fun h => absurd h n10) (fun _ => ?_)
        exact And.intro rfl rfl
      have c2 : Fn G 40 149 [.ref 39, .int (nI b)] M (some (.int (mI 2))) M := by
        refine Fn_of (d := 40) okc_X10_feeds [] ?_
        refine call_k (c_isBaby hg.1.1 _) ?_
        rw [bI_t hx]
        refine And.intro (fun _ => ?_) (fun h => absurd h n10)
        refine And.intro (vp_in_nI (by omega) (by decide)) ?_
        refine And.intro (fun h => absurd hl (Int32.not_lt.mpr h)) (fun _ => ?_)
        exact And.intro rfl rfl
      exact Same.mk c1 c2 hg
    · have rC : wg (remC M) 30 = wg M 30 := remC_o M (by omega) (by omega)
      have e8 : wg (remC M) 30 8 = wg M 43 0 := by rw [rC, hg.1.rmin]
      have c1 : Fn G 40 94 [.ref 0, .int (nI b)] M (some (.int (wg M 43 0 + nI 3))) (wset (wset (wset (remC M) 30 8 (wg M 43 0 + nI 3)) 30 (4 + b) (wg M 43 0 + nI 3)) 30 b (nI 0)) := by
        refine Fn_of (d := 40) okc_X9_feeds [] ?_
        refine call_k (c_hasBaby hBc.1 hBc.2 _) ?_
        rw [bI_t hx]
        refine And.intro (fun _ => ?_) (fun h => absurd h n10)
        refine call_k (c_isTooLate _) ?_
        rw [hg.1.rmin, bI_f hl]
        refine And.intro (fun _ => ?_) (fun h => absurd rfl h)
        refine call_k (c_rem (d := 38) hg.1) ?_
        refine call_k (c_pass _) ?_
        rw [e8]
        refine call_k (c_setFedNow (by omega)) ?_
        rw [wg_same]
        refine call_k (c_setDepth (by omega) _) ?_
        refine call_k c_minute ?_
        rw [wg_ne2 (show 8 ≠ b by omega), wg_ne2 (show 8 ≠ 4 + b by omega), wg_same]
        exact And.intro rfl rfl
      have c2 : ∀ N : WM, GM N → nB N = nB M → wg N 43 = wg M 43 → Fn G 40 149 [.ref 39, .int (nI b)] N (some (.int (wg M 43 0 + nI 3))) (wset (wset (wset (remW N) 43 0 (wg M 43 0 + nI 3)) 43 (7 + b) (wg M 43 0 + nI 3)) 43 (3 + b) (nI 0)) := by
        intro N hN hNB h43
        have w43 : wg (remW N) 43 = wg M 43 := (remW_o N (by omega) (by omega)).trans h43
        refine Fn_of (d := 40) okc_X10_feeds [] ?_
        refine call_k (c_isBaby hN _) ?_
        rw [hNB, bI_t hx]
        refine And.intro (fun _ => ?_) (fun h => absurd h n10)
        refine And.intro (vp_in_nI (by omega) (by decide)) ?_
        rw [nI_clamp (n := 0) (by omega), h43]
        refine And.intro (fun _ => ?_) (fun h => absurd (Int32.not_le.mp h) hl)
        refine call_k (m_remembers (d := 38) hN.k) ?_
        refine And.intro (vp_in_nI (by omega) (by decide)) ?_
        rw [nI_clamp (n := 0) (by omega), w43]
        refine And.intro (vp_in_nI (by omega) (by decide)) ?_
        rw [nI_clamp (n := 0) (by omega)]
        refine And.intro (vp_in_nI (by omega) (by decide)) ?_
        rw [nI_clamp (n := 0) (by omega), wg_same]
        refine And.intro (by rw [nI_add]; exact vp_in_nI (by omega) (by decide)) ?_
        rw [nI_add, nI_clamp (n := 7 + b) (by omega)]
        refine And.intro (by rw [nI_add]; exact vp_in_nI (by omega) (by decide)) ?_
        rw [nI_add, nI_clamp (n := 3 + b) (by omega)]
        refine And.intro (vp_in_nI (by omega) (by decide)) ?_
        rw [nI_clamp (n := 0) (by omega), wg_ne2 (show 0 ≠ 3 + b by omega), wg_ne2 (show 0 ≠ 7 + b by omega), wg_same]
        exact And.intro rfl rfl
      generalize hM1 : wset (wset (wset (remC M) 30 8 (wg M 43 0 + nI 3)) 30 (4 + b) (wg M 43 0 + nI 3)) 30 b (nI 0) = M1 at c1
      have m1o : ∀ i, i ≠ 30 → wg M1 i = wg (remC M) i := fun i hi => by rw [← hM1, wg_row_ne hi, wg_row_ne hi, wg_row_ne hi]
      have m1a : ∀ i, i ≠ 5 → i ≠ 30 → i ≠ 31 → wg M1 i = wg M i := fun i a b c => (m1o i b).trans (remC_o M a c)
      have hGM1 : GM M1 := by rw [← hM1]; exact hg.1.1
      refine Same.mk c1 (c2 M1 hGM1 (by unfold nB cN; rw [m1a 39 (by omega) (by omega) (by omega)]) (m1a 43 (by omega) (by omega) (by omega))) ?_
      have r43 : wg (remW M1) 43 = wg M 43 := (remW_o M1 (by omega) (by omega)).trans (m1a 43 (by omega) (by omega) (by omega))
      refine Good_both hg m1o rfl (by rw [← hM1]; rfl) (fun i a b c => by rw [wg_row_ne b, wg_row_ne b, wg_row_ne b]) (fun k _ => by rw [wg_ne1 (by omega), wg_ne1 (by omega), wg_ne1 (by omega)]) rfl (by show (remW M1).2 = M1.2; exact remW_L M1) (fun k hk => ?_) (Snap_st ?_ ?_ ?_)
      · rw [← hM1]
        by_cases k1 : k = b
        · subst k1
          rw [wg_same, show (k + 3) % 11 = 3 + k by omega, wg_same]
        · rw [wg_ne2 k1, wg_ne2 (show (k + 3) % 11 ≠ 3 + b by omega)]
          by_cases k2 : k = 4 + b
          · subst k2
            rw [wg_same, show (4 + b + 3) % 11 = 7 + b by omega, wg_same]
          · rw [wg_ne2 k2, wg_ne2 (show (k + 3) % 11 ≠ 7 + b by omega)]
            by_cases k3 : k = 8
            · subst k3
              rw [wg_same, show (8 + 3) % 11 = 0 by omega, wg_same]
            · rw [wg_ne2 k3, wg_ne2 (show (k + 3) % 11 ≠ 0 by omega), rC, hM1, r43]; exact hg.1.row hk
      · refine isN_cg ?_ hg.1.1.2.2.1.1.1
        rw [wg_ne2 (by omega), wg_ne2 (by omega), wg_ne2 (by omega), r43]
      · refine isN_cg ?_ hg.1.1.2.2.1.1.2.1
        rw [wg_ne2 (by omega), wg_ne2 (by omega), wg_ne2 (by omega), r43]
      · intro c hc
        by_cases k1 : c = b
        · subst k1
          exact (isN_of (n := 0) (wg_same _ _ _ _) (by omega) (by omega)).1
        · refine isN_cg (i := 43) (k := 3 + c) ?_ (hg.1.1.dep hc)
          rw [wg_ne2 (by omega), wg_ne2 (by omega), wg_ne2 (by omega), r43]
  · have c1 : Fn G 40 94 [.ref 0, .int x] M (some (.int (mI 1))) M := by
      refine Fn_of (d := 40) okc_X9_feeds [] ?_
      refine call_k (c_hasBaby hBc.1 hBc.2 _) ?_
      rw [bI_f hx]
      refine And.intro (fun h => absurd rfl h) (fun _ => ?_)
      exact And.intro rfl rfl
    have c2 : Fn G 40 149 [.ref 39, .int x] M (some (.int (mI 1))) M := by
      refine Fn_of (d := 40) okc_X10_feeds [] ?_
      refine call_k (c_isBaby hg.1.1 _) ?_
      rw [bI_f hx]
      refine And.intro (fun h => absurd rfl h) (fun _ => ?_)
      exact And.intro rfl rfl
    exact Same.mk c1 c2 hg
-- reads
theorem bt_or_d : ∀ c, c < 32 → ∀ l, l < 32 → ∀ m, m < 5 → ((((nI c ||| nI l) >>> (nI m &&& 31)) &&& nI 1 = nI 1) ↔ (((nI c >>> (nI m &&& 31)) &&& nI 1 = nI 1) ∨ ((nI l >>> (nI m &&& 31)) &&& nI 1 = nI 1))) := by decide +kernel
theorem or_bit_d : ∀ c, c < 32 → ∀ m, m < 5 → ∃ k, k < 32 ∧ nI c ||| nI 1 <<< (nI m &&& 31) = nI k := by decide +kernel
theorem GM.car (h : GM M) : wg M 43 1 = nI (cN M 43 1) ∧ cN M 43 1 ≤ 31 := h.2.2.1.1.1
theorem GM.los (h : GM M) : wg M 43 2 = nI (cN M 43 2) ∧ cN M 43 2 ≤ 31 := h.2.2.1.1.2.1
theorem bt_or (hG : GM M) {m : Nat} (hm : m < 5) : bt (wg M 43 1 ||| wg M 43 2) (nI m) ↔ bt (wg M 43 1) (nI m) ∨ bt (wg M 43 2) (nI m) := by
  rw [hG.car.1, hG.los.1]
  exact bt_or_d _ (by have := hG.car.2; omega) _ (by have := hG.los.2; omega) m hm
theorem pl_ne9 {r : Nat → Nat} {lo : Nat → Int32} {e : Int32} : ∀ (n k : Nat) (dp : Int32), n + k < 2 ^ 31 → ¬ pl M r lo e n k dp = mI 9
  | 0, k, dp, _ => by
    unfold pl
    decide
  | n + 1, k, dp, hk => by
    unfold pl
    by_cases hs : stp M (r k) (lo k) e dp = nI 0
    · rw [if_pos hs]; exact mI9_ne k (by omega)
    · rw [if_neg hs]; exact pl_ne9 n (k + 1) _ (by omega)
theorem woul9 (hG : GM M) {m b : Nat} (hm : m < nMo M) : woul M m b = mI 9 ↔ wg M 43 (3 + b) = nI 0 := by
  unfold woul
  by_cases h : wg M 43 (3 + b) = nI 0
  · rw [if_pos h]; exact ⟨fun _ => h, fun _ => rfl⟩
  · rw [if_neg h]; exact ⟨fun q => absurd q (pl_ne9 _ _ _ (by have := hG.ln hm; omega)), fun q => absurd q h⟩
theorem Good_both2 (hg : GoodT M) {c1 c2 : Nat → Int32} {M1 N1 M2 : WM} (hs : Sc M1 N1)
    (h1 : ∀ i, i ≠ 30 → wg M1 i = wg (remC M) i) (h1r : wg M1 30 = c1) (h1L : M1.2 = M.2)
    (h2 : ∀ i, i < 49 → i ≠ 43 → i ≠ 39 → wg M2 i = wg (remW N1) i) (h239 : ∀ k, k < 16 → wg M2 39 k = wg (remW N1) 39 k) (h2r : wg M2 43 = c2) (h2L : M2.2 = N1.2)
    (hrel : ∀ k, k < 11 → c1 k = c2 ((k + 3) % 11)) (hsn : Snap M2 43 0) : GoodT M2 := by
  have hK := hg.1.1.k
  have g1 : ∀ i, i ≠ 5 → i ≠ 30 → i ≠ 31 → wg M1 i = wg M i := fun i a b c => (h1 i b).trans (remC_o M a c)
  have nKe : nK N1 = nK M := by rw [hs.nK_]; unfold nK cN; rw [g1 39 (by omega) (by omega) (by omega)]
  have g2 : ∀ i, i < 49 → i ≠ 39 → i ≠ 43 → i ≠ 44 → wg M2 i = wg M1 i := fun i a b c e => (h2 i a c b).trans ((remW_o N1 b e).trans (hs.1 i (by omega)))
  have k39 : ∀ k, k < 16 → k ≠ 8 → wg N1 39 k = wg M1 39 k → wg M2 39 k = wg M 39 k := fun k a b c => (h239 k a).trans ((remW_39 N1 b).trans (c.trans (congrFun (g1 39 (by omega) (by omega) (by omega)) k)))
  refine Good_do hg (fun i a b c e f g h => (g2 i a f g h).trans (g1 i b c e)) ⟨k39 0 (by omega) (by omega) hs.2.1.1, k39 2 (by omega) (by omega) hs.2.1.2.1, k39 4 (by omega) (by omega) hs.2.1.2.2.1, k39 11 (by omega) (by omega) hs.2.1.2.2.2.2.1, k39 15 (by omega) (by omega) hs.2.1.2.2.2.2.2⟩ (h2L.trans (hs.2.2.trans h1L)) ?_ ?_ ?_ (fun s k a b => ?_) (fun t k a b => ?_) (fun k hk => ?_) hsn
  · rw [h239 8 (by omega), remW_8, nKe]
  · rw [g2 5 (by omega) (by omega) (by omega) (by omega), h1 5 (by omega)]; rfl
  · rw [g2 5 (by omega) (by omega) (by omega) (by omega), h1 5 (by omega)]; rfl
  · rw [g2 31 (by omega) (by omega) (by omega) (by omega), h1 31 (by omega)]; exact remC_31 M s k a b
  · rw [h2 44 (by omega) (by omega) (by omega), remW_44 N1 (by rw [nKe]; exact hK.2) t k (by rw [nKe]; exact a) b, nKe, hs.1 43 (by omega), hs.1 44 (by omega), g1 43 (by omega) (by omega) (by omega), g1 44 (by omega) (by omega) (by omega)]
  · rw [g2 30 (by omega) (by omega) (by omega) (by omega), h1r, h2r]; exact hrel k hk
end SAME
