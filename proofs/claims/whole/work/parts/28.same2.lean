-- type, clear, hears, forget, rate
theorem isN_of {M : WM} {i k B n : Nat} (h : wg M i k = nI n) (hn : n ≤ B) (hB : B < 2 ^ 31) : isN M i k B ∧ cN M i k = n := by
  have e : cN M i k = n := by unfold cN; rw [h]; exact nI_clamp (by omega)
  exact ⟨⟨by rw [e]; exact h, by rw [e]; exact hn⟩, e⟩
theorem Same.mk {G : GG} {j j' : Nat} {As : List Value} {M M1 M2 : WM} {x : Int32} (h : Fn G 40 j (.ref 0 :: As) M (some (.int x)) M1) (k : Fn G 40 j' (.ref 39 :: As) M1 (some (.int x)) M2) (hg : GoodT M2) : Same G j j' As M :=
  Fr_mono (fun q M1 e => by
    obtain ⟨rfl, rfl⟩ := e
    exact ⟨x, rfl, Fr_mono (fun q2 M2 e2 => by obtain ⟨rfl, rfl⟩ := e2; exact ⟨rfl, hg⟩) k⟩) h
section SAME
variable {G : GG} {d : Nat} {M : WM}
theorem c_tadds {n : Nat} (hs : wg M 3 0 = nI n) (h6 : n < 200) (x : Int32) : Fn G d 72 [.ref 3, .int x] M (some (.int (nI 1))) (wset (wset M 28 n x) 3 0 (nI (n + 1))) := by
  refine Fn_of okc_X8_adds [] ?_
  conv => whnf
  rw [hs]
  refine And.intro (fun h => absurd h (nI_nlt (by omega) (by omega))) (fun _ => ?_)
  conv => whnf
  rw [hs]
  refine And.intro (fun _ => ?_) (fun h => absurd (nI_lt (by omega) (by omega)) h)
  refine And.intro (by rw [hs]; exact vp_in_nI (by omega) (by decide)) ?_
  rw [hs, nI_clamp (by omega)]
  have e2 : wg (wset M 28 n x) 3 0 = nI n := hs
  conv => whnf
  rw [e2, nI_add]
  exact And.intro isB_1 (And.intro rfl rfl)
theorem c_tfull (hs : wg M 3 0 = nI 200) (x : Int32) : Fn G d 72 [.ref 3, .int x] M (some (.int (nI 0))) M := by
  refine Fn_of okc_X8_adds [] ?_
  conv => whnf
  rw [hs]
  refine And.intro (fun h => absurd h (by decide)) (fun _ => ?_)
  conv => whnf
  rw [hs]
  refine And.intro (fun h => absurd h (by decide)) (fun _ => ?_)
  exact And.intro isB_0 (And.intro rfl rfl)
theorem s_type (hg : GoodT M) (x : Int32) : Same G 84 120 [.int x] M := by
  have hT := hg.1.1.t
  have hL : wg M 3 0 = nI (nT M) := hg.1.2.2.2.2.2.2.2.2.2.1.trans hT.1
  rcases Classical.em (ix x 256) with hx | hx
  · have h255 : x ≤ nI 255 := by
      obtain ⟨j, hj, rfl⟩ := ix_of hx (by omega)
      exact nI_le (by omega) (by omega)
    rcases Nat.lt_or_ge (nT M) 200 with hn | hn
    · have c1 : Fn G 40 84 [.ref 0, .int x] M (some (.int (nI (nT M + 1)))) (wset (wset M 28 (nT M) x) 3 0 (nI (nT M + 1))) := by
        refine Fn_of (d := 40) okc_X9_type [] ?_
        refine And.intro (fun h => absurd h hx.1) (fun _ => ?_)
        refine And.intro (fun _ => ?_) (fun h => absurd h255 h)
        refine call_k (c_tadds hL hn x) ?_
        refine And.intro (fun h => absurd h n10) (fun _ => ?_)
        exact And.intro rfl rfl
      have c2 : ∀ N : WM, wg N 39 15 = nI (nT M) → Fn G 40 120 [.ref 39, .int x] N (some (.int (nI (nT M + 1)))) (wset (wset N 48 (nT M) x) 39 15 (nI (nT M + 1))) := by
        intro N hN
        have e2 : wg (wset N 48 (nT M) x) 39 15 = nI (nT M) := hN
        refine Fn_of (d := 40) okc_X10_type [] ?_
        refine call_k (c_in _ _ _) ?_
        rw [bI_t (show ¬ x < nI 0 ∧ x ≤ nI 255 from ⟨hx.1, h255⟩)]
        refine And.intro (fun _ => ?_) (fun h => absurd h n10)
        conv => whnf
        rw [hN]
        refine And.intro (fun _ => ?_) (fun h => absurd ((nI_eq (by omega) (by omega)).mp h) (by omega))
        refine And.intro (by rw [hN]; exact vp_in_nI (by omega) (by decide)) ?_
        rw [hN, nI_clamp (by omega)]
        conv => whnf
        rw [e2, nI_add, wg_same]
        exact And.intro rfl rfl
      refine Same.mk c1 (c2 _ hT.1) ?_
      obtain ⟨⟨⟨⟨a0, a2, a4, a8, a11, a15⟩, b, ⟨k1, k2, k3⟩, e, f⟩, ⟨r1, r2, r3, r4, r5, r6, r7, r8, ⟨r9a, r9b⟩⟩⟩, t⟩ := hg
      obtain ⟨j, hj, rfl⟩ := ix_of hx (by omega)
      generalize hM2 : wset (wset (wset (wset M 28 (nT M) (nI j)) 3 0 (nI (nT M + 1))) 48 (nT M) (nI j)) 39 15 (nI (nT M + 1)) = M2
      have q15 := isN_of (M := M2) (i := 39) (k := 15) (B := 200) (n := nT M + 1) (by rw [← hM2]; exact wg_same _ _ _ _) (by omega) (by omega)
      have w48 : ∀ k, k ≠ nT M → wg M2 48 k = wg M 48 k := fun k hk => by rw [← hM2, wg_ne1 (by omega), wg_ne2 hk]; rfl
      have w28 : ∀ k, k ≠ nT M → wg M2 28 k = wg M 28 k := fun k hk => by rw [← hM2, wg_ne1 (by omega), wg_ne1 (by omega), wg_ne1 (by omega), wg_ne2 hk]
      have v48 : wg M2 48 (nT M) = nI j := by rw [← hM2, wg_ne1 (by omega), wg_same]
      have v28 : wg M2 28 (nT M) = nI j := by rw [← hM2, wg_ne1 (by omega), wg_ne1 (by omega), wg_ne1 (by omega), wg_same]
      have v3 : wg M2 3 0 = nI (nT M + 1) := by rw [← hM2]; rfl
      have v39 : wg M2 39 15 = nI (nT M + 1) := by rw [← hM2]; rfl
      have hf : ∀ k, k < nT M2 → isN M2 48 k 255 := by
        intro k hk
        have hk : k < nT M + 1 := by rw [← q15.2]; exact hk
        by_cases h : k = nT M
        · subst h; exact (isN_of v48 (by omega) (by omega)).1
        · have h1 := f k (by omega)
          unfold isN cN at h1 ⊢
          rw [w48 k h]; exact h1
      have hr : ∀ k, k < nT M2 → wg M2 28 k = wg M2 48 k := by
        intro k hk
        have hk : k < nT M + 1 := by rw [← q15.2]; exact hk
        by_cases h : k = nT M
        · subst h; rw [v28, v48]
        · rw [w28 k h, w48 k h]; exact r9b k (by omega)
      have q15' := q15.1
      have ev := v3.trans v39.symm
      clear w48 w28 v48 v28 v3 v39 q15
      subst hM2
      exact ⟨⟨⟨⟨a0, a2, a4, a8, a11, q15'⟩, b, ⟨k1, k2, k3⟩, e, hf⟩, ⟨r1, r2, r3, r4, r5, r6, r7, r8, ⟨ev, hr⟩⟩⟩, t⟩
    · have hn : nT M = 200 := by omega
      rw [hn] at hL hT
      have c1 : Fn G 40 84 [.ref 0, .int x] M (some (.int (mI 3))) M := by
        refine Fn_of (d := 40) okc_X9_type [] ?_
        refine And.intro (fun h => absurd h hx.1) (fun _ => ?_)
        refine And.intro (fun _ => ?_) (fun h => absurd h255 h)
        refine call_k (c_tfull hL x) ?_
        refine And.intro (fun _ => ?_) (fun h => absurd rfl h)
        exact And.intro rfl rfl
      have c2 : Fn G 40 120 [.ref 39, .int x] M (some (.int (mI 3))) M := by
        refine Fn_of (d := 40) okc_X10_type [] ?_
        refine call_k (c_in _ _ _) ?_
        rw [bI_t (show ¬ x < nI 0 ∧ x ≤ nI 255 from ⟨hx.1, h255⟩)]
        refine And.intro (fun _ => ?_) (fun h => absurd h n10)
        conv => whnf
        rw [hT.1]
        refine And.intro (fun h => absurd rfl h) (fun _ => ?_)
        exact And.intro rfl rfl
      exact Same.mk c1 c2 hg
  · have c1 : Fn G 40 84 [.ref 0, .int x] M (some (.int (mI 1))) M := by
      refine Fn_of (d := 40) okc_X9_type [] ?_
      refine And.intro (fun _ => ?_) (fun h => ?_)
      · exact And.intro rfl rfl
      · refine And.intro (fun h1 => absurd (in_ix2 (n := 255) (by omega) |>.mp ⟨h, h1⟩) hx) (fun _ => ?_)
        exact And.intro rfl rfl
    have c2 : Fn G 40 120 [.ref 39, .int x] M (some (.int (mI 1))) M := by
      refine Fn_of (d := 40) okc_X10_type [] ?_
      refine call_k (c_in _ _ _) ?_
      rw [bI_iff (in_ix2 (n := 255) (by omega)), bI_f hx]
      refine And.intro (fun h => absurd rfl h) (fun _ => ?_)
      exact And.intro rfl rfl
    exact Same.mk c1 c2 hg
theorem s_clear (hg : GoodT M) : Same G 85 121 [] M := by
  have hT := hg.1.1.t
  have hL : wg M 3 0 = nI (nT M) := hg.1.2.2.2.2.2.2.2.2.2.1.trans hT.1
  have c1 : Fn G 40 85 [.ref 0] M (some (.int (nI (nT M)))) (wset M 3 0 (nI 0)) := by
    refine Fn_of (d := 40) okc_X9_clear [] ?_
    exact And.intro (by rw [hL]) rfl
  have c2 : Fn G 40 121 [.ref 39] (wset M 3 0 (nI 0)) (some (.int (nI (nT M)))) (wset (wset M 3 0 (nI 0)) 39 15 (nI 0)) := by
    have e2 : wg (wset M 3 0 (nI 0)) 39 15 = nI (nT M) := hT.1
    refine Fn_of (d := 40) okc_X10_clear [] ?_
    exact And.intro (by rw [e2]) rfl
  refine Same.mk c1 c2 ?_
  obtain ⟨⟨⟨⟨a0, a2, a4, a8, a11, a15⟩, b, ⟨k1, k2, k3⟩, e, f⟩, ⟨r1, r2, r3, r4, r5, r6, r7, r8, ⟨r9a, r9b⟩⟩⟩, t⟩ := hg
  have q15 := isN_of (M := wset (wset M 3 0 (nI 0)) 39 15 (nI 0)) (i := 39) (k := 15) (B := 200) (n := 0) rfl (by omega) (by omega)
  exact ⟨⟨⟨⟨a0, a2, a4, a8, a11, q15.1⟩, b, ⟨k1, k2, k3⟩, e, fun k hk => absurd (show k < 0 by rw [← q15.2]; exact hk) (by omega)⟩, ⟨r1, r2, r3, r4, r5, r6, r7, r8, ⟨rfl, fun k hk => absurd (show k < 0 by rw [← q15.2]; exact hk) (by omega)⟩⟩⟩, t⟩
theorem s_forget (hg : GoodT M) : Same G 105 169 [] M := by
  have hT := hg.1.1.h
  have hL : wg M 10 0 = nI (nH M) := hg.1.2.2.2.2.2.2.2.2.1.1.trans hT.1
  have c1 : Fn G 40 105 [.ref 0] M (some (.int (nI (nH M)))) (wset M 10 0 (nI 0)) := by
    refine Fn_of (d := 40) okc_X9_forget [] ?_
    exact And.intro (by rw [hL]) rfl
  have c2 : Fn G 40 169 [.ref 39] (wset M 10 0 (nI 0)) (some (.int (nI (nH M)))) (wset (wset M 10 0 (nI 0)) 39 11 (nI 0)) := by
    have e2 : wg (wset M 10 0 (nI 0)) 39 11 = nI (nH M) := hT.1
    refine Fn_of (d := 40) okc_X10_forget [] ?_
    exact And.intro (by rw [e2]) rfl
  refine Same.mk c1 c2 ?_
  obtain ⟨⟨⟨⟨a0, a2, a4, a8, a11, a15⟩, b, ⟨k1, k2, k3⟩, e, f⟩, ⟨r1, r2, r3, r4, r5, r6, r7, ⟨r8a, r8b⟩, r9⟩⟩, t⟩ := hg
  have q15 := isN_of (M := wset (wset M 10 0 (nI 0)) 39 11 (nI 0)) (i := 39) (k := 11) (B := 6) (n := 0) rfl (by omega) (by omega)
  exact ⟨⟨⟨⟨a0, a2, a4, a8, q15.1, a15⟩, b, ⟨k1, k2, k3⟩, fun k hk => absurd (show k < 0 by rw [← q15.2]; exact hk) (by omega), f⟩, ⟨r1, r2, r3, r4, r5, r6, r7, ⟨rfl, fun k hk => absurd (show k < 0 by rw [← q15.2]; exact hk) (by omega)⟩, r9⟩⟩, t⟩
end SAME
