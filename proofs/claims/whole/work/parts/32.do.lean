-- undo; what remember does, on both sides
theorem Good_do {M M2 : WM} (hg : GoodT M)
    (ho : ∀ i, i < 49 → i ≠ 5 → i ≠ 30 → i ≠ 31 → i ≠ 39 → i ≠ 43 → i ≠ 44 → wg M2 i = wg M i)
    (h39 : wg M2 39 0 = wg M 39 0 ∧ wg M2 39 2 = wg M 39 2 ∧ wg M2 39 4 = wg M 39 4 ∧ wg M2 39 11 = wg M 39 11 ∧ wg M2 39 15 = wg M 39 15) (hT : M2.2 = M.2)
    (h8 : wg M2 39 8 = nI (if nK M = 10 then 10 else nK M + 1)) (h50 : wg M2 5 0 = nI (if nK M = 10 then 10 else nK M + 1)) (h51 : wg M2 5 1 = nI (if cN M 5 1 = 9 then 0 else cN M 5 1 + 1))
    (h31 : ∀ s k, s < 10 → k < 11 → wg M2 31 (11 * s + k) = if s = cN M 5 1 then wg M 30 k else wg M 31 (11 * s + k))
    (h44 : ∀ t k, t < (if nK M = 10 then 10 else nK M + 1) → k < 11 → wg M2 44 (11 * t + k) = if t = (if nK M = 10 then 9 else nK M) then wg M 43 k else wg M 44 (11 * (if nK M = 10 then t + 1 else t) + k))
    (h30 : ∀ k, k < 11 → wg M2 30 k = wg M2 43 ((k + 3) % 11)) (hsn : Snap M2 43 0) : GoodT M2 := by
  obtain ⟨⟨⟨⟨a0, a2, a4, a8, a11, a15⟩, b, ⟨k1, k2, k3⟩, e, f⟩, ⟨r1, r2, r3, r4, r5, ⟨r6a, r6b, r6c⟩, ⟨r7a, r7b⟩, ⟨r8a, r8b⟩, ⟨r9a, r9b⟩⟩⟩, t⟩ := hg
  have hkn : nK M ≤ 10 := a8.2
  have hnx : cN M 5 1 ≤ 9 := r6b.2
  have q8 := isN_of (M := M2) (i := 39) (k := 8) (B := 10) h8 (by split <;> omega) (by omega)
  have q51 := isN_of (M := M2) (i := 5) (k := 1) (B := 9) h51 (by split <;> omega) (by omega)
  have eK : nK M2 = if nK M = 10 then 10 else nK M + 1 := q8.2
  have e51 : cN M2 5 1 = if cN M 5 1 = 9 then 0 else cN M 5 1 + 1 := q51.2
  have nWe : nW M2 = nW M := by unfold nW cN; rw [h39.1]
  have nMe : nMo M2 = nMo M := by unfold nMo cN; rw [h39.2.1]
  have nBe : nB M2 = nB M := by unfold nB cN; rw [h39.2.2.1]
  have nHe : nH M2 = nH M := by unfold nH cN; rw [h39.2.2.2.1]
  have nTe : nT M2 = nT M := by unfold nT cN; rw [h39.2.2.2.2]
  have o := fun {i : Nat} (h1 : i < 49 ∧ i ≠ 5 ∧ i ≠ 30 ∧ i ≠ 31 ∧ i ≠ 39 ∧ i ≠ 43 ∧ i ≠ 44) (k : Nat) => congrFun (ho i h1.1 h1.2.1 h1.2.2.1 h1.2.2.2.1 h1.2.2.2.2.1 h1.2.2.2.2.2.1 h1.2.2.2.2.2.2) k
  have oN := fun {i : Nat} (h1 : i < 49 ∧ i ≠ 5 ∧ i ≠ 30 ∧ i ≠ 31 ∧ i ≠ 39 ∧ i ≠ 43 ∧ i ≠ 44) (k : Nat) => (show cN M2 i k = cN M i k by unfold cN; rw [o h1])
  have lne : ∀ m, len M2 m = len M m := fun m => oN (by omega) _
  have txe : ∀ m k, txt M2 m k = txt M m k := fun m k => oN (by omega) _
  refine ⟨⟨⟨⟨isN_cg h39.1 a0, isN_cg h39.2.1 a2, isN_cg h39.2.2.1 a4, q8.1, isN_cg h39.2.2.2.1 a11, isN_cg h39.2.2.2.2 a15⟩, fun m hm => ?_, ⟨hsn, fun t ht => ?_, fun i hi => ?_⟩, fun k hk => ?_, fun k hk => ?_⟩, ⟨?_, fun w hw => ?_, fun m hm => ?_, fun b hb => ?_, h30, ⟨h50.trans h8.symm, q51.1, fun t ht k hk => ?_⟩, ⟨?_, fun i hi q k hk => ?_⟩, ⟨?_, fun k hk => ?_⟩, ⟨?_, fun k hk => ?_⟩⟩⟩, ?_⟩
  · rw [nMe] at hm
    obtain ⟨b1, b2, b3, b4⟩ := b m hm
    refine ⟨isN_cg (o (by omega) _) b1, isN_cg (o (by omega) _) b2, by rw [lne]; exact b3, fun k hk => ?_⟩
    rw [lne] at hk
    exact ⟨isN_cg (o (by omega) _) (b4 k hk).1, by rw [txe, nWe]; exact (b4 k hk).2⟩
  · rw [eK] at ht
    by_cases h10 : nK M = 10
    · rw [if_pos h10] at ht
      by_cases h9 : t = 9
      · refine Snap_cg (i := 43) (o := 0) (fun k hk => ?_) k1
        rw [h44 t k (by rw [if_pos h10]; exact ht) hk, if_pos h10, if_pos h9, Nat.zero_add]
      · refine Snap_cg (i := 44) (o := 11 * (t + 1)) (fun k hk => ?_) (k2 (t + 1) (by omega))
        rw [h44 t k (by rw [if_pos h10]; exact ht) hk, if_pos h10, if_neg h9, if_pos h10]
    · rw [if_neg h10] at ht
      by_cases h9 : t = nK M
      · refine Snap_cg (i := 43) (o := 0) (fun k hk => ?_) k1
        rw [h44 t k (by rw [if_neg h10]; exact ht) hk, if_neg h10, if_pos h9, Nat.zero_add]
      · refine Snap_cg (i := 44) (o := 11 * t) (fun k hk => ?_) (k2 t (by omega))
        rw [h44 t k (by rw [if_neg h10]; exact ht) hk, if_neg h10, if_neg h9, if_neg h10]
  · rw [oN (by omega)]
    exact ⟨isN_cg (o (by omega) _) (k3 i hi).1, fun q => Snap_cg (fun k hk => o (by omega) _) ((k3 i hi).2 q)⟩
  · rw [nHe] at hk
    rw [oN (by omega), nBe]
    exact ⟨isN_cg (o (by omega) _) (e k hk).1, (e k hk).2.1, isN_cg (o (by omega) _) (e k hk).2.2⟩
  · rw [nTe] at hk
    exact isN_cg (o (by omega) _) (f k hk)
  · exact ⟨by rw [o (i := 1) (by omega), h39.1]; exact r1.1, by rw [o (i := 1) (by omega), h39.2.1]; exact r1.2.1, by rw [o (i := 1) (by omega), h39.2.2.1]; exact r1.2.2⟩
  · rw [nWe] at hw
    rw [o (by omega), o (by omega), o (by omega), o (by omega)]; exact r2 w hw
  · rw [nMe] at hm
    rw [o (by omega), o (by omega), o (by omega), o (by omega)]
    refine ⟨(r3 m hm).1, (r3 m hm).2.1, fun k hk => ?_⟩
    rw [lne] at hk
    rw [o (by omega), o (by omega)]; exact (r3 m hm).2.2 k hk
  · rw [nBe] at hb
    rw [o (by omega), o (by omega), o (by omega), o (by omega)]; exact r4 b hb
  · rw [eK] at ht
    rw [e51, eK, h31 _ _ (Nat.mod_lt _ (by omega)) hk, h44 t _ ht (Nat.mod_lt _ (by omega))]
    by_cases h10 : nK M = 10
    · rw [if_pos h10] at ht ⊢
      rw [if_pos h10, if_pos h10]
      by_cases h9 : t = 9
      · rw [if_pos h9, if_pos (by split <;> omega)]
        exact r5 k hk
      · rw [if_neg h9, if_neg (by split <;> omega)]
        have := r6c (t + 1) (by omega) k hk
        rw [← this, h10]
        congr 2
        split <;> omega
    · rw [if_neg h10] at ht ⊢
      rw [if_neg h10, if_neg h10]
      by_cases h9 : t = nK M
      · rw [if_pos h9, if_pos (by split <;> omega)]
        exact r5 k hk
      · rw [if_neg h9, if_neg (by split <;> omega)]
        have := r6c t (by omega) k hk
        rw [← this]
        congr 2
        split <;> omega
  · rw [o (by omega), oN (by omega), oN (by omega)]; exact r7a
  · rw [oN (by omega)] at q
    rw [o (by omega), o (by omega)]; exact r7b i hi q k hk
  · rw [o (by omega), h39.2.2.2.1]; exact r8a
  · rw [nHe] at hk
    rw [o (by omega), o (by omega), o (by omega), o (by omega)]; exact r8b k hk
  · rw [o (by omega), h39.2.2.2.2]; exact r9a
  · rw [nTe] at hk
    rw [o (by omega), o (by omega)]; exact r9b k hk
  · show M2.2 11 = M2.2 39
    rw [hT]; exact t
theorem remW_o (M : WM) {i : Nat} (h : i ≠ 39) (h2 : i ≠ 44) : wg (remW M) i = wg M i := by
  funext k
  unfold remW
  split
  · rw [wg_ne1 h, wg_cpy, if_neg h2, wg_ne1 h, wg_shf, if_neg (by omega)]
  · rw [wg_ne1 h, wg_cpy, if_neg h2]
theorem remW_39 (M : WM) {k : Nat} (h : k ≠ 8) : wg (remW M) 39 k = wg M 39 k := by
  unfold remW
  split
  · rw [wg_ne2 h, wg_cpy, if_neg (by omega), wg_ne2 h, wg_shf, if_neg (by omega)]
  · rw [wg_ne2 h, wg_cpy, if_neg (by omega)]
theorem remW_8 (M : WM) : wg (remW M) 39 8 = nI (if nK M = 10 then 10 else nK M + 1) := by
  unfold remW
  split
  · rw [wg_same]
  · rw [wg_same]
theorem remW_L (M : WM) : (remW M).2 = M.2 := by
  unfold remW
  split <;> rfl
theorem remW_44 (M : WM) (hk : nK M ≤ 10) (t k : Nat) (ht : t < (if nK M = 10 then 10 else nK M + 1)) (hk2 : k < 11) : wg (remW M) 44 (11 * t + k) = if t = (if nK M = 10 then 9 else nK M) then wg M 43 k else wg M 44 (11 * (if nK M = 10 then t + 1 else t) + k) := by
  unfold remW
  by_cases h10 : nK M = 10
  · rw [if_pos h10] at ht ⊢
    rw [if_pos h10, if_pos h10, wg_ne1 (by omega), wg_cpy, if_pos rfl]
    by_cases h9 : t = 9
    · rw [if_pos h9, if_pos (by omega), wg_ne1 (by omega), wg_shf, if_neg (by omega), show 0 + (11 * t + k - 99) = k by omega]
    · rw [if_neg h9, if_neg (by omega), wg_ne1 (by omega), wg_shf, if_pos (by omega), show 11 * t + k + 11 = 11 * (t + 1) + k by omega]
  · rw [if_neg h10] at ht ⊢
    rw [if_neg h10, if_neg h10, wg_ne1 (by omega), wg_cpy, if_pos rfl]
    by_cases h9 : t = nK M
    · rw [if_pos h9, if_pos (by omega), show 0 + (11 * t + k - 11 * nK M) = k by omega]
    · rw [if_neg h9, if_neg (by omega)]
section SAME
variable {G : GG} {d : Nat} {M : WM}
theorem s_undo (hg : GoodT M) : Same G 95 150 [] M := by
  have hK := hg.1.1.k
  have hL : wg M 5 0 = nI (nK M) := hg.1.2.2.2.2.2.2.1.1.trans hK.1
  have hX := hg.1.2.2.2.2.2.2.1.2.1
  rcases Nat.eq_zero_or_pos (nK M) with h0 | h0
  · have c1 : Fn G 40 95 [.ref 0] M (some (.int (mI 2))) M := by
      refine Fn_of (d := 40) okc_X9_undo [] ?_
      conv => whnf
      rw [hL, h0]
      refine And.intro (fun h => absurd rfl h) (fun _ => ?_)
      exact And.intro rfl rfl
    have c2 : Fn G 40 150 [.ref 39] M (some (.int (mI 2))) M := by
      refine Fn_of (d := 40) okc_X10_undo [] ?_
      conv => whnf
      rw [hK.1, h0]
      refine And.intro (fun h => absurd rfl h) (fun _ => ?_)
      exact And.intro rfl rfl
    exact Same.mk c1 c2 hg
  · obtain ⟨k, hk⟩ : ∃ k, nK M = k + 1 := ⟨nK M - 1, by omega⟩
    have hX9 : cN M 5 1 ≤ 9 := hX.2
    have c1 : Fn G 40 95 [.ref 0] M (some (.int (nI k))) (wset (wcpy (wset M 5 1 (nI (if cN M 5 1 = 0 then 9 else cN M 5 1 - 1))) 31 30 ((if cN M 5 1 = 0 then 9 else cN M 5 1 - 1) * 11) 0 11) 5 0 (nI k)) := by
      refine Fn_of (d := 40) okc_X9_undo [] ?_
      conv => whnf
      rw [hL]
      refine And.intro (fun _ => ?_) (fun h => absurd ((nI_eq (by omega) (by omega)).mp h) (by omega))
      refine call_k (c_takeBack (d := 38) hX.1 hX.2 (hL.trans (by rw [hk])) (by omega)) ?_
      exact And.intro rfl rfl
    have c2 : ∀ N : WM, wg N 39 8 = nI (k + 1) → Fn G 40 150 [.ref 39] N (some (.int (nI k))) (wcpy (wset N 39 8 (nI k)) 44 43 (11 * k) 0 11) := by
      intro N hN
      refine Fn_of (d := 40) okc_X10_undo [] ?_
      conv => whnf
      rw [hN]
      refine And.intro (fun _ => ?_) (fun h => absurd ((nI_eq (by omega) (by omega)).mp h) (by omega))
      conv => whnf
      rw [hN, pk_sub (show 1 ≤ k + 1 by omega), show k + 1 - 1 = k from rfl, wg_same, pk_mul]
      refine call_k (m_copy_43_44 (by omega) (by omega)) ?_
      exact And.intro rfl rfl
    refine Same.mk c1 (c2 _ (hK.1.trans (by rw [hk]))) ?_
    obtain ⟨⟨⟨⟨a0, a2, a4, a8, a11, a15⟩, b, ⟨k1, k2, k3⟩, e, f⟩, ⟨r1, r2, r3, r4, r5, ⟨r6a, r6b, r6c⟩, r7, r8, r9⟩⟩, t⟩ := hg
    generalize hnx : (if cN M 5 1 = 0 then 9 else cN M 5 1 - 1) = nx
    have hnx9 : nx ≤ 9 := by rw [← hnx]; split <;> omega
    generalize hM2 : wcpy (wset (wset (wcpy (wset M 5 1 (nI nx)) 31 30 (nx * 11) 0 11) 5 0 (nI k)) 39 8 (nI k)) 44 43 (11 * k) 0 11 = M2
    have v43 : ∀ j, j < 11 → wg M2 43 j = wg M 44 (11 * k + j) := fun j hj => by
      rw [← hM2, wg_cpy, if_pos rfl, if_pos (by omega), show 11 * k + (j - 0) = 11 * k + j by omega]; rfl
    have v30 : ∀ j, j < 11 → wg M2 30 j = wg M 31 (11 * nx + j) := fun j hj => by
      rw [← hM2, wg_cpy, if_neg (by omega), wg_ne1 (by omega), wg_ne1 (by omega), wg_cpy, if_pos rfl, if_pos (by omega), wg_ne1 (by omega), show nx * 11 + (j - 0) = 11 * nx + j by omega]
    have v31 : ∀ j, wg M2 31 j = wg M 31 j := fun j => by rw [← hM2]; rfl
    have v44 : ∀ j, wg M2 44 j = wg M 44 j := fun j => by rw [← hM2]; rfl
    have q8 := isN_of (M := M2) (i := 39) (k := 8) (B := 10) (n := k) (by rw [← hM2]; rfl) (by omega) (by omega)
    have q51 := isN_of (M := M2) (i := 5) (k := 1) (B := 9) (n := nx) (by rw [← hM2]; rfl) (by omega) (by omega)
    have eK : nK M2 = k := q8.2
    have hrel : ∀ j, j < 11 → wg M 31 (11 * nx + j) = wg M 44 (11 * k + (j + 3) % 11) := fun j hj => by
      have := r6c k (by omega) j hj
      rw [← this]
      congr 2
      rw [← hnx]
      split <;> omega
    have hk1 : Snap M2 43 0 := Snap_cg (fun j hj => by rw [Nat.zero_add, v43 j hj]) (k2 k (by omega))
    have hk2 : ∀ t, t < nK M2 → Snap M2 44 (11 * t) := fun t ht => Snap_cg (fun j hj => v44 _) (k2 t (by rw [eK] at ht; omega))
    have hr5 : ∀ j, j < 11 → wg M2 30 j = wg M2 43 ((j + 3) % 11) := fun j hj => by
      rw [v30 j hj, v43 _ (by omega)]; exact hrel j hj
    have hr6c : ∀ t, t < nK M2 → ∀ j, j < 11 → wg M2 31 (11 * ((cN M2 5 1 + 10 - nK M2 + t) % 10) + j) = wg M2 44 (11 * t + (j + 3) % 11) := by
      intro t ht j hj
      rw [eK] at ht
      rw [v31, v44, q51.2, eK, ← r6c t (by omega) j hj]
      congr 2
      rw [← hnx, hk]
      split <;> omega
    have q8' := q8.1
    have q51' := q51.1
    have ev : wg M2 5 0 = wg M2 39 8 := by rw [← hM2]; rfl
    clear v43 v30 v31 v44 q8 q51 eK hrel
    subst hM2
    exact ⟨⟨⟨⟨a0, a2, a4, q8', a11, a15⟩, b, ⟨hk1, hk2, k3⟩, e, f⟩, ⟨r1, r2, r3, r4, hr5, ⟨ev, q51', hr6c⟩, r7, r8, r9⟩⟩, t⟩
end SAME
