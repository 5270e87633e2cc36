-- rocks, feeds, reads
/-- what the class's remember() does -/
def remC (M : WM) : WM := wset (wset (wcpy M 30 31 0 (cN M 5 1 * 11) 11) 5 1 (nI (if cN M 5 1 = 9 then 0 else cN M 5 1 + 1))) 5 0 (nI (if nK M = 10 then 10 else nK M + 1))
theorem remC_o (M : WM) {i : Nat} (h : i ≠ 5) (h2 : i ≠ 31) : wg (remC M) i = wg M i := by
  funext k
  unfold remC
  rw [wg_ne1 h, wg_ne1 h, wg_cpy, if_neg h2]
theorem remC_31 (M : WM) (s k : Nat) (hs : s < 10) (hk : k < 11) : wg (remC M) 31 (11 * s + k) = if s = cN M 5 1 then wg M 30 k else wg M 31 (11 * s + k) := by
  unfold remC
  rw [wg_ne1 (by omega), wg_ne1 (by omega), wg_cpy, if_pos rfl]
  by_cases h : s = cN M 5 1
  · rw [if_pos h, if_pos (by omega), show 0 + (11 * s + k - cN M 5 1 * 11) = k by omega]
  · rw [if_neg h, if_neg (by omega)]
section SAME
variable {G : GG} {d : Nat} {M : WM}
theorem c_rem (hg : Good M) : Fn G (d + 1) 62 [.ref 5, .ref 4] M none (remC M) := c_remember hg.2.2.2.2.2.2.1.2.1.1 hg.2.2.2.2.2.2.1.2.1.2 (hg.2.2.2.2.2.2.1.1.trans hg.1.k.1) hg.1.k.2
theorem c_isTooLate (x : Int32) : Fn G (d + 1) 113 [.ref 0, .int x] M (some (.int (bI (nI 99999 < wg M 30 8 + x)))) M := by
  refine Fn_of okc_X9_isTooLate [] ?_
  refine call_k c_minute ?_
  refine And.intro (fun h => ?_) (fun h => ?_)
  · exact And.intro isB_0 (ret_i (bI_f (Int32.not_lt.mpr h)).symm)
  · exact And.intro isB_1 (ret_i (bI_t (Int32.not_le.mp h)).symm)
/-- both sides have remembered, and only the row of NOW changes besides -/
theorem Good_both (hg : GoodT M) {c1 c2 : Nat → Int32} {M1 M2 : WM}
    (h1 : ∀ i, i ≠ 30 → wg M1 i = wg (remC M) i) (h1r : wg M1 30 = c1) (h1L : M1.2 = M.2)
    (h2 : ∀ i, i < 49 → i ≠ 43 → i ≠ 39 → wg M2 i = wg (remW M1) i) (h239 : ∀ k, k < 16 → wg M2 39 k = wg (remW M1) 39 k) (h2r : wg M2 43 = c2) (h2L : M2.2 = M1.2)
    (hrel : ∀ k, k < 11 → c1 k = c2 ((k + 3) % 11)) (hsn : Snap M2 43 0) : GoodT M2 := by
  have hK := hg.1.1.k
  have g1 : ∀ i, i ≠ 5 → i ≠ 30 → i ≠ 31 → wg M1 i = wg M i := fun i a b c => (h1 i b).trans (remC_o M a c)
  have nKe : nK M1 = nK M := by unfold nK cN; rw [g1 39 (by omega) (by omega) (by omega)]
  have g2 : ∀ i, i < 49 → i ≠ 39 → i ≠ 43 → i ≠ 44 → wg M2 i = wg M1 i := fun i a b c e => (h2 i a c b).trans (remW_o M1 b e)
  have k39 : ∀ k, k < 16 → k ≠ 8 → wg M2 39 k = wg M 39 k := fun k a b => (h239 k a).trans ((remW_39 M1 b).trans (congrFun (g1 39 (by omega) (by omega) (by omega)) k))
  refine Good_do hg (fun i a b c e f g h => (g2 i a f g h).trans (g1 i b c e)) ⟨k39 0 (by omega) (by omega), k39 2 (by omega) (by omega), k39 4 (by omega) (by omega), k39 11 (by omega) (by omega), k39 15 (by omega) (by omega)⟩ (h2L.trans h1L) ?_ ?_ ?_ (fun s k a b => ?_) (fun t k a b => ?_) (fun k hk => ?_) hsn
  · rw [h239 8 (by omega), remW_8, nKe]
  · rw [g2 5 (by omega) (by omega) (by omega) (by omega), h1 5 (by omega)]; rfl
  · rw [g2 5 (by omega) (by omega) (by omega) (by omega), h1 5 (by omega)]; rfl
  · rw [g2 31 (by omega) (by omega) (by omega) (by omega), h1 31 (by omega)]; exact remC_31 M s k a b
  · rw [h2 44 (by omega) (by omega) (by omega), remW_44 M1 (by rw [nKe]; exact hK.2) t k (by rw [nKe]; exact a) b, nKe, g1 43 (by omega) (by omega) (by omega), g1 44 (by omega) (by omega) (by omega)]
  · rw [g2 30 (by omega) (by omega) (by omega) (by omega), h1r, h2r]; exact hrel k hk
theorem Snap_st {M2 : WM} (h1 : isN M2 43 1 31) (h2 : isN M2 43 2 31) (h3 : ∀ b, b < 4 → isN M2 43 (3 + b) 9) : Snap M2 43 0 := ⟨h1, h2, fun b hb => by rw [Nat.zero_add]; exact h3 b hb⟩
theorem s_rocks (hg : GoodT M) (x : Int32) : Same G 93 148 [.int x] M := by
  have hB := hg.1.1.b
  have hBc := hg.1.b
  rcases Classical.em (ix x (nB M)) with hx | hx
  · obtain ⟨b, hb, rfl⟩ := ix_of hx (by omega)
    rcases Classical.em (nI 99999 < wg M 43 0 + nI 2) with hl | hl
    · have c1 : Fn G 40 93 [.ref 0, .int (nI b)] M (some (.int (mI 2))) M := by
        refine Fn_of (d := 40) okc_X9_rocks [] ?_
        refine call_k (c_hasBaby hBc.1 hBc.2 _) ?_
        rw [bI_t hx]
        refine And.intro (fun _ => ?_) (fun h => absurd h n10)
        refine call_k (c_isTooLate _) ?_
        rw [hg.1.rmin, bI_t hl]
        refine And.intro (fun h => absurd h n10) (fun _ => ?_)
        exact And.intro rfl rfl
      have c2 : Fn G 40 148 [.ref 39, .int (nI b)] M (some (.int (mI 2))) M := by
        refine Fn_of (d := 40) okc_X10_rocks [] ?_
        refine call_k (c_isBaby hg.1.1 _) ?_
        rw [bI_t hx]
        refine And.intro (fun _ => ?_) (fun h => absurd h n10)
        refine And.intro (vp_in_nI (by omega) (by decide)) ?_
        refine And.intro (fun h => absurd hl (Int32.not_lt.mpr h)) (fun _ => ?_)
        exact And.intro rfl rfl
      exact Same.mk c1 c2 hg
    · have e0 : ∀ N : WM, wg N 30 = wg M 30 → wg N 30 8 = wg M 43 0 := fun N h => by rw [h, hg.1.rmin]
      have rC : wg (remC M) 30 = wg M 30 := remC_o M (by omega) (by omega)
      have dC : wg (wset (remC M) 30 8 (wg (remC M) 30 8 + nI 2)) 30 b = wg M 43 (3 + b) := by rw [wg_ne2 (by omega), rC, hg.1.rdep (by omega)]
      have c1 : Fn G 40 93 [.ref 0, .int (nI b)] M (some (.int (rock (wg M 43 (3 + b))))) (wset (wset (remC M) 30 8 (wg M 43 0 + nI 2)) 30 b (rock (wg M 43 (3 + b)))) := by
        refine Fn_of (d := 40) okc_X9_rocks [] ?_
        refine call_k (c_hasBaby hBc.1 hBc.2 _) ?_
        rw [bI_t hx]
        refine And.intro (fun _ => ?_) (fun h => absurd h n10)
        refine call_k (c_isTooLate _) ?_
        rw [hg.1.rmin, bI_f hl]
        refine And.intro (fun _ => ?_) (fun h => absurd rfl h)
        refine call_k (c_rem (d := 38) hg.1) ?_
        refine call_k (c_pass _) ?_
        refine call_k (c_ndepth (by omega)) ?_
        rw [dC, e0 _ rC]
        refine call_k (c_rockedOnce _) ?_
        refine call_k (c_setDepth (by omega) _) ?_
        refine call_k (c_ndepth (by omega)) ?_
        rw [wg_same]
        exact And.intro rfl rfl
      have c2 : ∀ N : WM, GM N → nB N = nB M → wg N 43 = wg M 43 → Fn G 40 148 [.ref 39, .int (nI b)] N (some (.int (rock (wg M 43 (3 + b))))) (wset (wset (remW N) 43 0 (wg M 43 0 + nI 2)) 43 (3 + b) (rock (wg M 43 (3 + b)))) := by
        intro N hN hNB h43
        have w43 : wg (remW N) 43 = wg M 43 := (remW_o N (by omega) (by omega)).trans h43
        refine Fn_of (d := 40) okc_X10_rocks [] ?_
        refine call_k (c_isBaby hN _) ?_
        rw [hNB, bI_t hx]
        refine And.intro (fun _ => ?_) (fun h => absurd h n10)
        refine And.intro (vp_in_nI (by omega) (by decide)) ?_
        rw [nI_clamp (n := 0) (by omega), h43]
        refine And.intro (fun _ => ?_) (fun h => absurd (Int32.not_le.mp h) hl)
        refine call_k (m_remembers (d := 38) hN.k) ?_
        refine And.intro (vp_in_nI (by omega) (by decide)) ?_
        rw [nI_clamp (n := 0) (by omega), w43]
        refine And.intro (vp_in_nI (by omega) (by decide)) ?_
        rw [nI_clamp (n := 0) (by omega)]
        refine And.intro (by rw [nI_add]; exact vp_in_nI (by omega) (by decide)) ?_
        rw [nI_add, nI_clamp (n := 3 + b) (by omega), wg_ne2 (show 3 + b ≠ 0 by omega), w43]
        refine call_k (m_rocked _) ?_
        refine And.intro (vp_in_nI (by omega) (by decide)) ?_
        rw [nI_clamp (n := 3 + b) (by omega)]
        refine And.intro (by rw [nI_add]; exact vp_in_nI (by omega) (by decide)) ?_
        rw [nI_add, nI_clamp (n := 3 + b) (by omega), wg_same]
        exact And.intro rfl rfl
      generalize hM1 : wset (wset (remC M) 30 8 (wg M 43 0 + nI 2)) 30 b (rock (wg M 43 (3 + b))) = M1 at c1
      have m1o : ∀ i, i ≠ 30 → wg M1 i = wg (remC M) i := fun i hi => by rw [← hM1, wg_row_ne hi, wg_row_ne hi]
      have m1a : ∀ i, i ≠ 5 → i ≠ 30 → i ≠ 31 → wg M1 i = wg M i := fun i a b c => (m1o i b).trans (remC_o M a c)
      have hGM1 : GM M1 := by rw [← hM1]; exact hg.1.1
      refine Same.mk c1 (c2 M1 hGM1 (by unfold nB cN; rw [m1a 39 (by omega) (by omega) (by omega)]) (m1a 43 (by omega) (by omega) (by omega))) ?_
      obtain ⟨jd, hjd, ejd⟩ := rock_n ⟨_, (hg.1.1.dep (show b < 4 by omega)).2, (hg.1.1.dep (show b < 4 by omega)).1⟩
      have r43 : wg (remW M1) 43 = wg M 43 := (remW_o M1 (by omega) (by omega)).trans (m1a 43 (by omega) (by omega) (by omega))
      refine Good_both hg m1o rfl (by rw [← hM1]; rfl) (fun i a b c => by rw [wg_row_ne b, wg_row_ne b]) (fun k _ => by rw [wg_ne1 (by omega), wg_ne1 (by omega)]) rfl (by show (remW M1).2 = M1.2; exact remW_L M1) (fun k hk => ?_) (Snap_st ?_ ?_ ?_)
      · rw [← hM1]
        by_cases k1 : k = b
        · subst k1
          rw [wg_same, show (k + 3) % 11 = 3 + k by omega, wg_same]
        · rw [wg_ne2 k1, wg_ne2 (show (k + 3) % 11 ≠ 3 + b by omega)]
          by_cases k2 : k = 8
          · subst k2
            rw [wg_same, show (8 + 3) % 11 = 0 by omega, wg_same]
          · rw [wg_ne2 k2, wg_ne2 (show (k + 3) % 11 ≠ 0 by omega), rC, hM1, r43]; exact hg.1.row hk
      · refine isN_cg ?_ hg.1.1.2.2.1.1.1
        rw [wg_ne2 (by omega), wg_ne2 (by omega), r43]
      · refine isN_cg ?_ hg.1.1.2.2.1.1.2.1
        rw [wg_ne2 (by omega), wg_ne2 (by omega), r43]
      · intro c hc
        by_cases k1 : c = b
        · subst k1
          refine (isN_of (n := jd) ?_ hjd (by omega)).1
          rw [wg_same, ejd]
        · refine isN_cg (i := 43) (k := 3 + c) ?_ (hg.1.1.dep hc)
          rw [wg_ne2 (by omega), wg_ne2 (by omega), r43]
  · have c1 : Fn G 40 93 [.ref 0, .int x] M (some (.int (mI 1))) M := by
      refine Fn_of (d := 40) okc_X9_rocks [] ?_
      refine call_k (c_hasBaby hBc.1 hBc.2 _) ?_
      rw [bI_f hx]
      refine And.intro (fun h => absurd rfl h) (fun _ => ?_)
      exact And.intro rfl rfl
    have c2 : Fn G 40 148 [.ref 39, .int x] M (some (.int (mI 1))) M := by
      refine Fn_of (d := 40) okc_X10_rocks [] ?_
      refine call_k (c_isBaby hg.1.1 _) ?_
      rw [bI_f hx]
      refine And.intro (fun h => absurd rfl h) (fun _ => ?_)
      exact And.intro rfl rfl
    exact Same.mk c1 c2 hg
end SAME
