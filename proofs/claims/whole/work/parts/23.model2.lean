-- the reference: rowOf, woken, wouldBe
theorem wset2 (M : WM) (i k : Nat) (a b : Int32) : wset (wset M i k a) i k b = wset M i k b := by
  refine Prod.ext ?_ rfl
  funext p q
  show (if p = i ∧ q = k then b else if p = i ∧ q = k then a else M.1 p q) = if p = i ∧ q = k then b else M.1 p q
  by_cases h : p = i ∧ q = k
  · rw [if_pos h, if_pos h]
  · rw [if_neg h, if_neg h, if_neg h]
theorem wset_self (M : WM) (i k : Nat) : wset M i k (wg M i k) = M := by
  refine Prod.ext ?_ rfl
  funext p q
  show (if p = i ∧ q = k then wg M i k else M.1 p q) = M.1 p q
  by_cases h : p = i ∧ q = k
  · rw [if_pos h, h.1, h.2]; rfl
  · rw [if_neg h]
theorem wg_same (M : WM) (i k : Nat) (v : Int32) : wg (wset M i k v) i k = v := by rw [wg_set, if_pos ⟨rfl, rfl⟩]
theorem wg_ne1 {M : WM} {i k a b : Nat} {v : Int32} (h : a ≠ i) : wg (wset M i k v) a b = wg M a b := by rw [wg_set, if_neg (fun q => h q.1)]
theorem wg_ne2 {M : WM} {i k a b : Nat} {v : Int32} (h : b ≠ k) : wg (wset M i k v) a b = wg M a b := by rw [wg_set, if_neg (fun q => h q.2)]
/-- the row that is to be read: n words, how much louder each -/
def RowIs (M : WM) (r : Nat → Nat) (n : Nat) (lo : Nat → Int32) : Prop := wg M 39 29 = nI n ∧ ∀ k, k < n → wg M 53 k = nI (r k) ∧ wg M 54 k = lo k
theorem RowIs.beh {M : WM} {r : Nat → Nat} {n : Nat} {lo : Nat → Int32} {v : Int32} (h : RowIs M r n lo) : RowIs (wset M 39 32 v) r n lo := h
def rowL (M : WM) (m : Nat) : Nat → WM
  | 0 => wset M 39 29 (wg M 41 (8 * m + 1))
  | k + 1 => wset (wset (rowL M m k) 53 k (wg M 41 (8 * m + 2 + k))) 54 k (nI 0)
theorem rowL_sc (M : WM) (m : Nat) : ∀ k, Sc M (rowL M m k)
  | 0 => Sc.set (Or.inr ⟨rfl, by omega⟩)
  | k + 1 => ((rowL_sc M m k).tr (Sc.set (Or.inl (by omega)))).tr (Sc.set (Or.inl (by omega)))
theorem rowL_many (M : WM) (m : Nat) : ∀ k, wg (rowL M m k) 39 29 = wg M 41 (8 * m + 1)
  | 0 => wg_same _ _ _ _
  | k + 1 => (wg_ne1 (by omega)).trans ((wg_ne1 (by omega)).trans (rowL_many M m k))
theorem rowL_row (M : WM) (m : Nat) : ∀ n k, k < n → wg (rowL M m n) 53 k = wg M 41 (8 * m + 2 + k) ∧ wg (rowL M m n) 54 k = nI 0
  | 0, k, h => absurd h (by omega)
  | n + 1, k, h => by
    unfold rowL
    by_cases e : k = n
    · subst e
      rw [wg_ne1 (show 53 ≠ 54 by omega), wg_same, wg_same]
      exact ⟨rfl, rfl⟩
    · rw [wg_ne1 (show 53 ≠ 54 by omega), wg_ne2 e, wg_ne2 e, wg_ne1 (show 54 ≠ 53 by omega)]
      exact rowL_row M m n k (by omega)
theorem rowL_is {M : WM} (hG : GM M) {m : Nat} (hm : m < nMo M) : RowIs (rowL M m (len M m)) (txt M m) (len M m) zlo := by
  refine ⟨(rowL_many M m _).trans (hG.ln hm).1, fun k hk => ?_⟩
  have h := rowL_row M m (len M m) k hk
  exact ⟨h.1.trans (hG.tx hm hk).1, h.2⟩
section MODEL
variable {G : GG} {d : Nat} {M : WM}
set_option maxHeartbeats 200000 in
theorem lp_rowOf (hG : GM M) {m : Nat} (hm : m < nMo M) : ∀ (n k : Nat), k + n = len M m →
    A G d 135 17 [some (.ref 39), some (.int (nI m)), some (.int (nI k))] [] (rowL M m k) (fun r M2 => r = none ∧ M2 = rowL M m (len M m))
  | 0, k, hk => by
    have hl := hG.ln hm
    have e := rowL_many M m k
    refine A_wp okc_X10_rowOf [17] ?_
    conv => whnf
    rw [e, hl.1]
    refine And.intro (fun _ => ?_) (fun h => absurd (nI_le (by omega) (by omega)) h)
    rw [show len M m = k by omega]
    exact And.intro rfl rfl
  | n + 1, k, hk => by
    have hl := hG.ln hm
    have hM := hG.m
    have e := rowL_many M m k
    have e2 : ∀ q, wg (rowL M m k) 41 q = wg M 41 q := fun q => (rowL_sc M m k).c (by omega) q
    refine A_wp okc_X10_rowOf [17] ?_
    conv => whnf
    rw [e, hl.1]
    refine And.intro (fun h => absurd h (nI_ge (by omega) (by omega))) (fun _ => ?_)
    refine And.intro (by rw [pk_mul, nI_add, nI_add]; exact vp_in_nI (by omega) (by decide)) ?_
    rw [pk_mul, nI_add, nI_add, nI_clamp (n := 8 * m + 2 + k) (by omega), e2]
    refine And.intro (vp_in_nI (by omega) (by decide)) ?_
    rw [nI_clamp (n := k) (by omega)]
    refine And.intro (vp_in_nI (by omega) (by decide)) ?_
    rw [nI_clamp (n := k) (by omega)]
    have ih := lp_rowOf hG hm n (k + 1) (by omega)
    rw [← nI_add k 1] at ih
    exact And.intro trivial ih
theorem m_rowOf (hG : GM M) {m : Nat} (hm : m < nMo M) : Fn G d 135 [.ref 39, .int (nI m)] M none (rowL M m (len M m)) := by
  have hM := hG.m
  refine Fn_of okc_X10_rowOf [17] ?_
  refine And.intro (by rw [pk_mul, nI_add]; exact vp_in_nI (by omega) (by decide)) ?_
  rw [pk_mul, nI_add, nI_clamp (n := 8 * m + 1) (by omega)]
  exact And.intro trivial (lp_rowOf hG hm (len M m) 0 (by omega))
theorem clp_one (v : Int32) : (¬ v < nI 0 → v ≤ nI 9 → v = clp v) ∧ (¬ v < nI 0 → ¬ v ≤ nI 9 → nI 9 = clp v) ∧ (v < nI 0 → nI 0 = clp v) := by
  unfold clp
  refine ⟨fun h h1 => ?_, fun h h1 => ?_, fun h => ?_⟩
  · rw [if_neg h, if_neg (Int32.not_lt.mpr h1)]
  · rw [if_neg h, if_pos (Int32.not_le.mp h1)]
  · rw [if_pos h]
set_option maxHeartbeats 400000 in
theorem lp_woken {r : Nat → Nat} {N : Nat} {lo : Nat → Int32} (hR : RowIs M r N lo) (hN : N ≤ 6) (hr : ∀ k, k < N → r k < 6) (xd e : Int32) : ∀ (n k : Nat) (a : Int32) (z4 z5 : Option Value), k + n = N →
    A G d 136 14 [some (.ref 39), some (.int xd), some (.int e), some (.int (nI k)), z4, z5] [] (wset M 39 32 a) (fun q M2 => q = some (.int (pl M r lo e n k a)) ∧ M2 = wset M 39 32 (rn M r lo e n k a))
  | 0, k, a, z4, z5, hk => by
    have e1 : wg (wset M 39 32 a) 39 29 = nI N := hR.1
    refine A_wp okc_X10_woken [14] ?_
    conv => whnf
    rw [e1]
    refine And.intro (fun _ => ?_) (fun h => absurd (nI_le (by omega) (by omega)) h)
    exact And.intro rfl rfl
  | n + 1, k, a, z4, z5, hk => by
    have e1 : wg (wset M 39 32 a) 39 29 = nI N := hR.1
    have hk2 : k < N := by omega
    have e2 : wg (wset M 39 32 a) 53 k = nI (r k) := (hR.2 k hk2).1
    have e3 : wg (wset M 39 32 a) 54 k = lo k := (hR.2 k hk2).2
    have e4 : ∀ q, wg (wset M 39 32 a) 40 q = wg M 40 q := fun q => rfl
    have hrk := hr k hk2
    have fin : ∀ v : Int32, v = stp M (r k) (lo k) e a → ∀ w : Int32, A G d 136 94 [some (.ref 39), some (.int xd), some (.int e), some (.int (nI k)), some (.int (nI (r k))), some (.int w)] [] (wset M 39 32 v) (fun q M2 => q = some (.int (pl M r lo e (n + 1) k a)) ∧ M2 = wset M 39 32 (rn M r lo e (n + 1) k a)) := by
      intro v hv w
      refine A_wp okc_X10_woken [14] ?_
      conv => whnf
      rw [wg_same]
      refine And.intro (fun h => ?_) (fun h => ?_)
      · have ih := lp_woken hR hN hr xd e n (k + 1) v (some (.int (nI (r k)))) (some (.int w)) (by omega)
        rw [← nI_add k 1] at ih
        rw [hv] at h
        rw [pl, if_neg h, rn, if_neg h, ← hv]
        exact And.intro trivial ih
      · rw [hv] at h
        rw [pl, if_pos h, rn, if_pos h, hv, h]
        exact And.intro rfl rfl
    refine A_wp okc_X10_woken [14, 94] ?_
    conv => whnf
    rw [e1]
    refine And.intro (fun h => absurd h (nI_ge (by omega) (by omega))) (fun _ => ?_)
    refine And.intro (vp_in_nI (by omega) (by decide)) ?_
    rw [nI_clamp (n := k) (by omega), e2]
    refine And.intro (by rw [pk_mul, nI_add]; exact vp_in_nI (by omega) (by decide)) ?_
    refine And.intro (by rw [pk_mul]; exact vp_in_nI (by omega) (by decide)) ?_
    refine And.intro (vp_in_nI (by omega) (by decide)) ?_
    rw [pk_mul, nI_add, nI_clamp (n := 2 * r k + 1) (by omega), nI_clamp (n := 2 * r k) (by omega), nI_clamp (n := k) (by omega), e3, wg_same, e4, e4]
    refine And.intro (fun h => ?_) (fun h => ?_)
    · refine And.intro (fun h1 => ?_) (fun h1 => ?_)
      · have f := fin _ ((clp_one _).1 (Int32.not_lt.mpr h) h1) (a + wg M 40 (2 * r k + 1) - (wg M 40 (2 * r k) + lo k) * e)
        refine And.intro trivial ?_
        rw [wset2]
        exact f
      · have f := fin _ ((clp_one _).2.1 (Int32.not_lt.mpr h) h1) (a + wg M 40 (2 * r k + 1) - (wg M 40 (2 * r k) + lo k) * e)
        refine And.intro trivial ?_
        rw [wset2]
        exact f
    · have f := fin _ ((clp_one _).2.2 (Int32.not_le.mp h)) (a + wg M 40 (2 * r k + 1) - (wg M 40 (2 * r k) + lo k) * e)
      refine And.intro trivial ?_
      rw [wset2]
      exact f
theorem m_woken {r : Nat → Nat} {N : Nat} {lo : Nat → Int32} (hR : RowIs M r N lo) (hN : N ≤ 6) (hr : ∀ k, k < N → r k < 6) (xd e : Int32) : Fn G d 136 [.ref 39, .int xd, .int e] M (some (.int (if xd = nI 0 then mI 9 else pl M r lo e N 0 xd))) (wset M 39 32 (if xd = nI 0 then nI 0 else rn M r lo e N 0 xd)) := by
  refine Fn_of okc_X10_woken [14] ?_
  refine And.intro (fun h => ?_) (fun h => ?_)
  · rw [if_neg h, if_neg h]
    exact And.intro trivial (lp_woken hR hN hr xd e N 0 xd none none (by omega))
  · rw [if_pos h, if_pos h, h]
    exact And.intro rfl rfl
theorem m_wouldBe (hG : GM M) {m b : Nat} (hm : m < nMo M) (hb : b < 4) : Fn G (d + 2) 137 [.ref 39, .int (nI m), .int (nI b)] M (some (.int (woul M m b))) (wset (rowL M m (len M m)) 39 32 (rn0 M m b zlo (wg M 43 (3 + b)))) := by
  have hs := rowL_sc M m (len M m)
  have hl := hG.ln hm
  have hW := hG.w
  refine Fn_of okc_X10_wouldBe [] ?_
  refine call_k (m_rowOf hG hm) ?_
  refine And.intro (by rw [nI_add]; exact vp_in_nI (by omega) (by decide)) ?_
  rw [nI_add, nI_clamp (n := 3 + b) (by omega), hs.c (by omega)]
  refine call_k (m_earsOf hb) ?_
  refine call_k (m_woken (rowL_is hG hm) (by omega) (fun k hk => by have := (hG.tx hm hk).2; omega) _ _) ?_
  rw [hs.eN_, hs.pl_, hs.rn_]
  exact And.intro rfl rfl
end MODEL
