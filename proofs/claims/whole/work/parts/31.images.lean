-- keep, back, undo
theorem kb_or : ∀ a, a < 2 → ∀ b, b < 2 → ∀ i, i < 2 → nI (a + 2 * b) ||| nI 1 <<< (nI i &&& 31) = nI ((if i = 0 then 1 else a) + 2 * (if i = 1 then 1 else b)) := by decide
theorem kb_bit : ∀ a, a < 2 → ∀ b, b < 2 → ∀ i, i < 2 → (nI (a + 2 * b) >>> (nI i &&& 31)) &&& nI 1 = nI (if i = 0 then a else b) := by decide
theorem isN_cg {M M' : WM} {i k i' k' B : Nat} (h : wg M' i' k' = wg M i k) (q : isN M i k B) : isN M' i' k' B := by
  unfold isN cN at q ⊢
  rw [h]; exact q
theorem Snap_cg {M M' : WM} {i o i' o' : Nat} (h : ∀ k, k < 11 → wg M' i' (o' + k) = wg M i (o + k)) (q : Snap M i o) : Snap M' i' o' := by
  refine ⟨isN_cg (h 1 (by omega)) q.1, isN_cg (h 2 (by omega)) q.2.1, fun b hb => ?_⟩
  have e := h (3 + b) (by omega)
  rw [← Nat.add_assoc, ← Nat.add_assoc] at e
  exact isN_cg e (q.2.2 b hb)
section SAME
variable {G : GG} {d : Nat} {M : WM}
theorem c_isImage (x : Int32) : Fn G d 114 [.int x] M (some (.int (bI (ix x 2)))) M := by
  refine Fn_of okc_X9_isImage [] ?_
  refine And.intro (fun h => ?_) (fun h => ?_)
  · exact And.intro isB_0 (ret_i (bI_f (fun q => q.1 h)).symm)
  · refine And.intro (fun h1 => ?_) (fun h1 => ?_)
    · exact And.intro isB_0 (ret_i (bI_f (fun q => Int32.not_le.mpr q.2 h1)).symm)
    · exact And.intro isB_1 (ret_i (bI_t ⟨h, Int32.not_le.mp h1⟩).symm)
theorem s_keep (hg : GoodT M) (x : Int32) : Same G 108 173 [.int x] M := by
  rcases Classical.em (ix x 2) with hx | hx
  · obtain ⟨i, hi, rfl⟩ := ix_of hx (by omega)
    have c1 : Fn G 40 108 [.ref 0, .int (nI i)] M (some (.int (wg M 43 0))) (wset (wcpy M 30 6 0 (i * 11) 11) 0 6 (wg M 0 6 ||| nI 1 <<< (nI i &&& 31))) := by
      refine Fn_of (d := 40) okc_X9_keep [] ?_
      refine call_k (c_isImage _) ?_
      rw [bI_t hx]
      refine And.intro (fun _ => ?_) (fun h => absurd h n10)
      refine call_k (c_saveTo_6 hi) ?_
      refine call_k c_minute ?_
      exact And.intro (by rw [← hg.1.rmin]; rfl) rfl
    have c2 : ∀ N : WM, Fn G 40 173 [.ref 39, .int (nI i)] N (some (.int (wg N 43 0))) (wset (wcpy N 43 45 0 (11 * i) 11) 46 i (nI 1)) := by
      intro N
      refine Fn_of (d := 40) okc_X10_keep [] ?_
      refine call_k (c_in _ _ _) ?_
      rw [bI_iff (in_ix2 (n := 1) (by omega)), bI_t hx]
      refine And.intro (fun _ => ?_) (fun h => absurd h n10)
      conv => whnf
      rw [pk_mul]
      refine call_k (m_copy_45_43 (by omega) (by omega)) ?_
      refine And.intro (vp_in_nI (by omega) (by decide)) ?_
      rw [nI_clamp (n := i) (by omega)]
      refine And.intro (vp_in_nI (by omega) (by decide)) ?_
      exact And.intro rfl rfl
    refine Same.mk c1 (c2 _) ?_
    obtain ⟨⟨⟨a, b, ⟨k1, k2, k3⟩, e, f⟩, ⟨r1, r2, r3, r4, r5, r6, ⟨r7a, r7b⟩, r8, r9⟩⟩, t⟩ := hg
    have kk0 := (k3 0 (by omega)).1
    have kk1 := (k3 1 (by omega)).1
    have eb := kb_or (cN M 46 0) (by have := kk0.2; omega) (cN M 46 1) (by have := kk1.2; omega) i hi
    rw [← r7a] at eb
    generalize hM2 : wset (wcpy (wset (wcpy M 30 6 0 (i * 11) 11) 0 6 (wg M 0 6 ||| nI 1 <<< (nI i &&& 31))) 43 45 0 (11 * i) 11) 46 i (nI 1) = M2
    have v46 : wg M2 46 i = nI 1 := by rw [← hM2]; exact wg_same _ _ _ _
    have w46 : ∀ j, j ≠ i → wg M2 46 j = wg M 46 j := fun j hj => by rw [← hM2, wg_ne2 hj]; rfl
    have v45 : ∀ k, k < 11 → wg M2 45 (11 * i + k) = wg M 43 k := fun k hk => by
      rw [← hM2, wg_ne1 (by omega), wg_cpy, if_pos rfl, if_pos (by omega), show 0 + (11 * i + k - 11 * i) = k by omega]; rfl
    have w45 : ∀ j k, j ≠ i → k < 11 → wg M2 45 (11 * j + k) = wg M 45 (11 * j + k) := fun j k hj hk => by
      rw [← hM2, wg_ne1 (by omega), wg_cpy, if_pos rfl, if_neg (by omega)]; rfl
    have v6 : ∀ k, k < 11 → wg M2 6 (11 * i + k) = wg M 30 k := fun k hk => by
      rw [← hM2, wg_ne1 (by omega), wg_cpy, if_neg (by omega), wg_ne1 (by omega), wg_cpy, if_pos rfl, if_pos (by omega), show 0 + (11 * i + k - i * 11) = k by omega]
    have w6 : ∀ j k, j ≠ i → k < 11 → wg M2 6 (11 * j + k) = wg M 6 (11 * j + k) := fun j k hj hk => by
      rw [← hM2, wg_ne1 (by omega), wg_cpy, if_neg (by omega), wg_ne1 (by omega), wg_cpy, if_pos rfl, if_neg (by omega)]
    have v06 : wg M2 0 6 = wg M 0 6 ||| nI 1 <<< (nI i &&& 31) := by
      rw [← hM2, wg_ne1 (by omega), wg_cpy, if_neg (by omega), wg_same]
    have z1 := isN_of (B := 1) v46 (by omega) (by omega)
    have hk3 : ∀ j, j < 2 → isN M2 46 j 1 ∧ (cN M2 46 j = 1 → Snap M2 45 (11 * j)) := by
      intro j hj
      by_cases h : j = i
      · subst h
        exact ⟨z1.1, fun _ => Snap_cg (fun k hk => by rw [v45 k hk, Nat.zero_add]) k1⟩
      · have e2 : cN M2 46 j = cN M 46 j := by unfold cN; rw [w46 j h]
        rw [e2]
        exact ⟨isN_cg (w46 j h) (k3 j hj).1, fun q => Snap_cg (fun k hk => w45 j k h hk) ((k3 j hj).2 q)⟩
    have hr7a : wg M2 0 6 = nI (cN M2 46 0 + 2 * cN M2 46 1) := by
      rw [v06, eb]
      congr 1
      rcases (by omega : i = 0 ∨ i = 1) with rfl | rfl
      · rw [if_pos rfl, if_neg (by omega), z1.2]
        have e2 : cN M2 46 1 = cN M 46 1 := by unfold cN; rw [w46 1 (by omega)]
        rw [e2]
      · rw [if_neg (by omega), if_pos rfl, z1.2]
        have e2 : cN M2 46 0 = cN M 46 0 := by unfold cN; rw [w46 0 (by omega)]
        rw [e2]
    have hr7b : ∀ j, j < 2 → cN M2 46 j = 1 → ∀ k, k < 11 → wg M2 6 (11 * j + k) = wg M2 45 (11 * j + (k + 3) % 11) := by
      intro j hj q k hk
      by_cases h : j = i
      · subst h
        rw [v6 k hk, v45 _ (by omega)]; exact r5 k hk
      · have e2 : cN M2 46 j = cN M 46 j := by unfold cN; rw [w46 j h]
        rw [w6 j k h hk, w45 j _ h (by omega)]
        exact r7b j hj (by rw [← e2]; exact q) k hk
    clear v46 w46 v45 w45 v6 w6 v06 z1
    subst hM2
    exact ⟨⟨⟨a, b, ⟨k1, k2, hk3⟩, e, f⟩, ⟨r1, r2, r3, r4, r5, r6, ⟨hr7a, hr7b⟩, r8, r9⟩⟩, t⟩
  · have c1 : Fn G 40 108 [.ref 0, .int x] M (some (.int (mI 1))) M := by
      refine Fn_of (d := 40) okc_X9_keep [] ?_
      refine call_k (c_isImage _) ?_
      rw [bI_f hx]
      refine And.intro (fun h => absurd rfl h) (fun _ => ?_)
      exact And.intro rfl rfl
    have c2 : Fn G 40 173 [.ref 39, .int x] M (some (.int (mI 1))) M := by
      refine Fn_of (d := 40) okc_X10_keep [] ?_
      refine call_k (c_in _ _ _) ?_
      rw [bI_iff (in_ix2 (n := 1) (by omega)), bI_f hx]
      refine And.intro (fun h => absurd rfl h) (fun _ => ?_)
      exact And.intro rfl rfl
    exact Same.mk c1 c2 hg
theorem s_back (hg : GoodT M) (x : Int32) : Same G 109 174 [.int x] M := by
  rcases Classical.em (ix x 2) with hx | hx
  · obtain ⟨i, hi, rfl⟩ := ix_of hx (by omega)
    have g3 := hg.1.1.2.2.1.2.2
    have r7a := hg.1.2.2.2.2.2.2.2.1.1
    have kk0 := (g3 0 (by omega)).1
    have kk1 := (g3 1 (by omega)).1
    have eb := kb_bit (cN M 46 0) (by have := kk0.2; omega) (cN M 46 1) (by have := kk1.2; omega) i hi
    rw [← r7a] at eb
    have e46 : (if i = 0 then cN M 46 0 else cN M 46 1) = cN M 46 i := by
      rcases (by omega : i = 0 ∨ i = 1) with rfl | rfl
      · rfl
      · rfl
    rw [e46] at eb
    have k46 := (g3 i hi).1
    have k46b : cN M 46 i ≤ 1 := k46.2
    rcases (by omega : cN M 46 i = 0 ∨ cN M 46 i = 1) with hk | hk
    · have c1 : Fn G 40 109 [.ref 0, .int (nI i)] M (some (.int (mI 2))) M := by
        refine Fn_of (d := 40) okc_X9_back [] ?_
        refine call_k (c_isImage _) ?_
        rw [bI_t hx]
        refine And.intro (fun _ => ?_) (fun h => absurd h n10)
        conv => whnf
        rw [eb, hk]
        refine And.intro (fun h => absurd rfl h) (fun _ => ?_)
        exact And.intro rfl rfl
      have c2 : Fn G 40 174 [.ref 39, .int (nI i)] M (some (.int (mI 2))) M := by
        refine Fn_of (d := 40) okc_X10_back [] ?_
        refine call_k (c_in _ _ _) ?_
        rw [bI_iff (in_ix2 (n := 1) (by omega)), bI_t hx]
        refine And.intro (fun _ => ?_) (fun h => absurd h n10)
        refine And.intro (vp_in_nI (by omega) (by decide)) ?_
        rw [nI_clamp (n := i) (by omega), k46.1, hk]
        refine And.intro (fun h => absurd rfl h) (fun _ => ?_)
        exact And.intro rfl rfl
      exact Same.mk c1 c2 hg
    · have hsn := (g3 i hi).2 hk
      have hrel := hg.1.2.2.2.2.2.2.2.1.2 i hi hk
      have e0 : wg M 6 (i * 11 + 8) = wg M 45 (11 * i + 0) := by
        have := hrel 8 (by omega)
        rw [show 11 * i + 8 = i * 11 + 8 by omega] at this
        exact this
      have c1 : Fn G 40 109 [.ref 0, .int (nI i)] M (some (.int (wg M 45 (11 * i + 0)))) (wset (wcpy M 6 30 (i * 11) 0 11) 5 0 (nI 0)) := by
        refine Fn_of (d := 40) okc_X9_back [] ?_
        refine call_k (c_isImage _) ?_
        rw [bI_t hx]
        refine And.intro (fun _ => ?_) (fun h => absurd h n10)
        conv => whnf
        rw [eb, hk]
        refine And.intro (fun _ => ?_) (fun h => absurd h n10)
        refine call_k (c_loadFrom_6 hi) ?_
        refine call_k c_lose ?_
        refine call_k c_minute ?_
        exact And.intro (by rw [← e0]; rfl) rfl
      have c2 : ∀ N : WM, wg N 46 i = nI 1 → Fn G 40 174 [.ref 39, .int (nI i)] N (some (.int (wg N 45 (11 * i + 0)))) (wset (wcpy N 45 43 (11 * i) 0 11) 39 8 (nI 0)) := by
        intro N hN
        refine Fn_of (d := 40) okc_X10_back [] ?_
        refine call_k (c_in _ _ _) ?_
        rw [bI_iff (in_ix2 (n := 1) (by omega)), bI_t hx]
        refine And.intro (fun _ => ?_) (fun h => absurd h n10)
        refine And.intro (vp_in_nI (by omega) (by decide)) ?_
        rw [nI_clamp (n := i) (by omega), hN]
        refine And.intro (fun _ => ?_) (fun h => absurd h n10)
        conv => whnf
        rw [pk_mul]
        refine call_k (m_copy_43_45 (by omega) (by omega)) ?_
        refine And.intro (vp_in_nI (by omega) (by decide)) ?_
        exact And.intro rfl rfl
      refine Same.mk c1 (c2 _ (k46.1.trans (by rw [hk]))) ?_
      obtain ⟨⟨⟨⟨a0, a2, a4, a8, a11, a15⟩, b, ⟨k1, k2, k3⟩, e, f⟩, ⟨r1, r2, r3, r4, r5, ⟨r6a, r6b, r6c⟩, r7, r8, r9⟩⟩, t⟩ := hg
      generalize hM2 : wset (wcpy (wset (wcpy M 6 30 (i * 11) 0 11) 5 0 (nI 0)) 45 43 (11 * i) 0 11) 39 8 (nI 0) = M2
      have v43 : ∀ k, k < 11 → wg M2 43 k = wg M 45 (11 * i + k) := fun k hk => by
        rw [← hM2, wg_ne1 (by omega), wg_cpy, if_pos rfl, if_pos (by omega), show 11 * i + (k - 0) = 11 * i + k by omega]; rfl
      have v30 : ∀ k, k < 11 → wg M2 30 k = wg M 6 (11 * i + k) := fun k hk => by
        rw [← hM2, wg_ne1 (by omega), wg_cpy, if_neg (by omega), wg_ne1 (by omega), wg_cpy, if_pos rfl, if_pos (by omega), show i * 11 + (k - 0) = 11 * i + k by omega]
      have q8 := isN_of (M := M2) (i := 39) (k := 8) (B := 10) (n := 0) (by rw [← hM2]; rfl) (by omega) (by omega)
      have hk1 : Snap M2 43 0 := Snap_cg (fun k hk => by rw [Nat.zero_add, v43 k hk]) hsn
      have hk2 : ∀ t, t < nK M2 → Snap M2 44 (11 * t) := fun t ht => absurd (show t < 0 by rw [← q8.2]; exact ht) (by omega)
      have hr5 : ∀ k, k < 11 → wg M2 30 k = wg M2 43 ((k + 3) % 11) := fun k hk => by
        rw [v30 k hk, v43 _ (by omega)]; exact hrel k hk
      have hr6c : ∀ t, t < nK M2 → ∀ k, k < 11 → wg M2 31 (11 * ((cN M2 5 1 + 10 - nK M2 + t) % 10) + k) = wg M2 44 (11 * t + (k + 3) % 11) := fun t ht => absurd (show t < 0 by rw [← q8.2]; exact ht) (by omega)
      have q8' := q8.1
      have ev : wg M2 5 0 = wg M2 39 8 := by rw [← hM2]; rfl
      clear v43 v30 q8
      subst hM2
      exact ⟨⟨⟨⟨a0, a2, a4, q8', a11, a15⟩, b, ⟨hk1, hk2, k3⟩, e, f⟩, ⟨r1, r2, r3, r4, hr5, ⟨ev, r6b, hr6c⟩, r7, r8, r9⟩⟩, t⟩
  · have c1 : Fn G 40 109 [.ref 0, .int x] M (some (.int (mI 1))) M := by
      refine Fn_of (d := 40) okc_X9_back [] ?_
      refine call_k (c_isImage _) ?_
      rw [bI_f hx]
      refine And.intro (fun h => absurd rfl h) (fun _ => ?_)
      exact And.intro rfl rfl
    have c2 : Fn G 40 174 [.ref 39, .int x] M (some (.int (mI 1))) M := by
      refine Fn_of (d := 40) okc_X10_back [] ?_
      refine call_k (c_in _ _ _) ?_
      rw [bI_iff (in_ix2 (n := 1) (by omega)), bI_f hx]
      refine And.intro (fun h => absurd rfl h) (fun _ => ?_)
      exact And.intro rfl rfl
    exact Same.mk c1 c2 hg
end SAME
