-- wording: the reference's sorts and nextOrder
theorem RowIs.swp {N : WM} {r : Nat → Nat} {n i j : Nat} {lo : Nat → Int32} (h : RowIs N r n lo) (hi : i < n) (hj : j < n) (hij : i ≠ j) : RowIs (wset (wset N 53 i (wg N 53 j)) 53 j (wg N 53 i)) (swp r i j) n lo := by
  refine ⟨h.1, fun k hk => ⟨?_, (h.2 k hk).2⟩⟩
  by_cases e : k = j
  · subst e; rw [wg_same, swp_j]; exact (h.2 i hi).1
  · by_cases e2 : k = i
    · subst e2; rw [wg_ne2 e, wg_same, swp_i hij]; exact (h.2 j hj).1
    · rw [wg_ne2 e, wg_ne2 e2, swp_o e2 e]; exact (h.2 k hk).1
theorem sc53 {M N : WM} (hs : Sc M N) {i j : Nat} {v w : Int32} : Sc M (wset (wset N 53 i v) 53 j w) := (hs.tr (Sc.set (Or.inl (by omega)))).tr (Sc.set (Or.inl (by omega)))
def SoP (M : WM) (r0 : Nat → Nat) (n : Nat) (lo : Nat → Int32) : Option Value → WM → Prop := fun q N => q = none ∧ Sc M N ∧ ∃ r, RowIs N r n lo ∧ Arr r0 r n 0 ∧ asc r 0 n
def NxP (M : WM) (r : Nat → Nat) (n : Nat) (lo : Nat → Int32) : Option Value → WM → Prop := fun q N => Sc M N ∧ ((q = some (.int (nI 0)) ∧ RowIs N r n lo ∧ dsc r 0 n) ∨ (q = some (.int (nI 1)) ∧ ∃ t, RowIs N t n lo ∧ Arr r t n 0 ∧ (∀ s, Arr r s n 0 → lex s r n 0 ∨ lex t s n 0) ∧ vl r n 0 < vl t n 0))
section WORDM
variable {G : GG} {d : Nat} {M : WM}
set_option maxHeartbeats 400000 in
theorem lp_s14 {r0 : Nat → Nat} {n i : Nat} {lo : Nat → Int32} (hn : n ≤ 6) (hi : i < n) (h6 : ∀ q, q < n → r0 q < 6) (P : Option Value → WM → Prop)
    (hout : ∀ (N : WM) (r : Nat → Nat), Sc M N → RowIs N r n lo → Arr r0 r n 0 → (∀ p q, p < i → p < q → q < n → r p ≤ r q) → (∀ q, i < q → q < n → r i ≤ r q) → A G (d + 1) 156 49 [some (.ref 39), some (.int (nI i)), some (.int (nI n))] [] N P) :
    ∀ (u j : Nat) (N : WM) (r : Nat → Nat), j + u = n → i < j → Sc M N → RowIs N r n lo → Arr r0 r n 0 → (∀ p q, p < i → p < q → q < n → r p ≤ r q) → (∀ q, i < q → q < j → r i ≤ r q) →
    A G (d + 1) 156 14 [some (.ref 39), some (.int (nI i)), some (.int (nI j))] [] N P
  | 0, j, N, r, hj, hij, hs, hR, hA, h1, h2 => by
    refine A_wp okc_X10_sorts [14, 49] ?_
    conv => whnf
    rw [hR.1]
    refine And.intro (fun _ => ?_) (fun h => absurd (nI_le (by omega) (by omega)) h)
    rw [show j = n by omega]
    exact And.intro trivial (hout N r hs hR hA h1 (fun q a b => h2 q a (by omega)))
  | u + 1, j, N, r, hj, hij, hs, hR, hA, h1, h2 => by
    have hr6 : ∀ q, q < n → r q < 6 := fun q hq => by
      obtain ⟨p, _, hp, e⟩ := hA.mem (Nat.zero_le q) (show q < 0 + n by omega)
      rw [← e]; exact h6 p (by omega)
    have ej := (hR.2 j (by omega)).1
    have ei := (hR.2 i hi).1
    have bj := hr6 j (by omega)
    have bi := hr6 i hi
    refine A_wp okc_X10_sorts [14, 49] ?_
    conv => whnf
    rw [hR.1]
    refine And.intro (fun h => absurd h (nI_ge (by omega) (by omega))) (fun _ => ?_)
    refine And.intro (vp_in_nI (by omega) (by decide)) ?_
    rw [nI_clamp (n := j) (by omega), ej]
    refine And.intro (vp_in_nI (by omega) (by decide)) ?_
    rw [nI_clamp (n := i) (by omega), ei]
    refine And.intro (fun h => ?_) (fun h => ?_)
    · rw [nI_leI (by omega) (by omega)] at h
      have ih := lp_s14 hn hi h6 P hout u (j + 1) N r (by omega) (by omega) hs hR hA h1 (fun q a b => by
        by_cases e : q = j
        · rw [e]; exact h
        · exact h2 q a (by omega))
      rw [← nI_add j 1] at ih
      exact And.intro trivial ih
    · rw [nI_leI (by omega) (by omega)] at h
      refine call_k (m_trades (show i < 6 by omega) (show j < 6 by omega)) ?_
      have ih := lp_s14 hn hi h6 P hout u (j + 1) _ (swp r i j) (by omega) (by omega) (sc53 hs) (hR.swp hi (by omega) (by omega)) (fun w => (cnt_swp (by omega) (by omega) (by omega) (by omega) (by omega)).trans (hA w)) (fun p q a b c => by
        rw [swp_o (show p ≠ i by omega) (show p ≠ j by omega)]
        by_cases e : q = i
        · rw [e, swp_i (by omega)]; exact h1 p j a (by omega) (by omega)
        · by_cases e2 : q = j
          · rw [e2, swp_j]; exact h1 p i a (by omega) (by omega)
          · rw [swp_o e e2]; exact h1 p q a b c) (fun q a b => by
        rw [swp_i (show i ≠ j by omega)]
        by_cases e2 : q = j
        · rw [e2, swp_j]; omega
        · rw [swp_o (show q ≠ i by omega) e2]
          have := h2 q a (by omega)
          omega)
      rw [← nI_add j 1] at ih
      exact And.intro trivial ih
set_option maxHeartbeats 400000 in
theorem lp_s2 {r0 : Nat → Nat} {n : Nat} {lo : Nat → Int32} (hn : n ≤ 6) (h6 : ∀ q, q < n → r0 q < 6) :
    ∀ (u i : Nat) (N : WM) (r : Nat → Nat) (z : Option Value), i + u = n → Sc M N → RowIs N r n lo → Arr r0 r n 0 → (∀ p q, p < i → p < q → q < n → r p ≤ r q) →
    A G (d + 1) 156 2 [some (.ref 39), some (.int (nI i)), z] [] N (SoP M r0 n lo)
  | 0, i, N, r, z, hi, hs, hR, hA, h1 => by
    refine A_wp okc_X10_sorts [2] ?_
    conv => whnf
    rw [hR.1]
    refine And.intro (fun _ => ?_) (fun h => absurd (nI_le (by omega) (by omega)) h)
    refine ⟨rfl, hs, r, hR, hA, fun q q' _ b c => ?_⟩
    rcases Nat.eq_or_lt_of_le b with e | e
    · rw [e]; exact Nat.le_refl _
    · exact h1 q q' (by omega) e c
  | u + 1, i, N, r, z, hi, hs, hR, hA, h1 => by
    refine A_wp okc_X10_sorts [2, 14] ?_
    conv => whnf
    rw [hR.1]
    refine And.intro (fun h => absurd h (nI_ge (by omega) (by omega))) (fun _ => ?_)
    refine And.intro trivial ?_
    rw [nI_add i 1]
    refine lp_s14 hn (show i < n by omega) h6 _ (fun N2 r2 hs2 hR2 hA2 h12 h22 => ?_) u (i + 1) N r (by omega) (by omega) hs hR hA h1 (fun q a b => by omega)
    have ih := lp_s2 hn h6 u (i + 1) N2 r2 (some (.int (nI n))) (by omega) hs2 hR2 hA2 (fun p q a b c => by
      by_cases e : p = i
      · rw [e] at b ⊢; exact h22 q b c
      · exact h12 p q (by omega) b c)
    rw [← nI_add i 1] at ih
    refine A_wp okc_X10_sorts [2] ?_
    exact And.intro trivial ih
theorem m_sorts {N : WM} {r0 : Nat → Nat} {n : Nat} {lo : Nat → Int32} (hn : n ≤ 6) (h6 : ∀ q, q < n → r0 q < 6) (hs : Sc M N) (hR : RowIs N r0 n lo) : Fr G (d + 1) 156 [.ref 39] N (SoP M r0 n lo) := by
  refine Fr_of okc_X10_sorts [2] ?_
  exact And.intro trivial (lp_s2 hn h6 n 0 N r0 none (by omega) hs hR (Arr.rf _ _ _) (fun p q a _ _ => by omega))
-- nextOrder
set_option maxHeartbeats 400000 in
theorem lp_n86 {u : Nat → Nat} {n i : Nat} {lo : Nat → Int32} (hn : n ≤ 6) (x2 : Int32) (P : Option Value → WM → Prop)
    (hout : ∀ (N : WM) (t : Nat → Nat), Sc M N → RowIs N t n lo → Arr u t n 0 → (∀ q, q ≤ i → t q = u q) → (∀ q, i < q → q < n → t q = u (i + n - q)) → P (some (.int (nI 1))) N) :
    ∀ (c a z : Nat) (N : WM) (g : Nat → Nat), z + 1 ≤ a + c → a + z = i + n → i < a → Sc M N → RowIs N g n lo → Arr u g n 0 → (∀ q, q ≤ i → g q = u q) → (∀ q, i < q → q < a → g q = u (i + n - q)) → (∀ q, z < q → q < n → g q = u (i + n - q)) → (∀ q, a ≤ q → q ≤ z → g q = u q) → a ≤ n →
    A G (d + 1) 155 86 [some (.ref 39), some (.int (nI i)), some (.int x2), some (.int (nI a)), some (.int (nI z))] [] N P
  | c, a, z, N, g, hc, haz, hia, hs, hR, hA, h1, h2, h3, h4, han => by
    refine A_wp okc_X10_nextOrder [86] ?_
    refine And.intro (fun h => ?_) (fun h => ?_)
    · rw [nI_leI (by omega) (by omega)] at h
      refine And.intro isB_1 (hout N g hs hR hA h1 (fun q b1 b2 => ?_))
      rcases Nat.lt_or_ge q a with e | e
      · exact h2 q b1 e
      · rcases Nat.lt_or_ge z q with e2 | e2
        · exact h3 q e2 b2
        · rw [h4 q e e2]
          congr 1
          omega
    · rw [nI_leI (by omega) (by omega)] at h
      obtain ⟨c', rfl⟩ : ∃ c', c = c' + 1 := ⟨c - 1, by omega⟩
      refine call_k (m_trades (show a < 6 by omega) (show z < 6 by omega)) ?_
      have ih := lp_n86 hn x2 P hout c' (a + 1) (z - 1) _ (swp g a z) (by omega) (by omega) (by omega) (sc53 hs) (hR.swp (by omega) (by omega) (by omega)) (fun w => (cnt_swp (by omega) (by omega) (by omega) (by omega) (by omega)).trans (hA w))
        (fun q b => by rw [swp_o (by omega) (by omega)]; exact h1 q b)
        (fun q b1 b2 => by
          by_cases e : q = a
          · rw [e, swp_i (by omega), h4 z (by omega) (by omega)]
            congr 1
            omega
          · rw [swp_o e (by omega)]; exact h2 q b1 (by omega))
        (fun q b1 b2 => by
          by_cases e : q = z
          · rw [e, swp_j, h4 a (by omega) (by omega)]
            congr 1
            omega
          · rw [swp_o (by omega) e]; exact h3 q (by omega) b2)
        (fun q b1 b2 => by rw [swp_o (by omega) (by omega)]; exact h4 q (by omega) (by omega)) (by omega)
      rw [← nI_add a 1, ← nIs (show 1 ≤ z by omega)] at ih
      exact And.intro trivial ih
theorem nx_fin {r t : Nat → Nat} {n i j : Nat} (h6 : ∀ q, q < n → r q < 6) (hij : i < j) (hj : j < n) (hd : dsc r (i + 1) n) (hlt : r i < r j) (hge : ∀ q, j < q → q < n → r q ≤ r i) (hA : Arr (swp r i j) t n 0) (h1 : ∀ q, q ≤ i → t q = swp r i j q) (h2 : ∀ q, i < q → q < n → t q = swp r i j (i + n - q)) :
    Arr r t n 0 ∧ (∀ s, Arr r s n 0 → lex s r n 0 ∨ lex t s n 0) ∧ vl r n 0 < vl t n 0 := by
  have hA2 : Arr r t n 0 := fun w => (hA w).trans (cnt_swp (by omega) (by omega) (by omega) (by omega) (by omega))
  have hag : ∀ q, q < i → t q = r q := fun q hq => by rw [h1 q (by omega), swp_o (by omega) (by omega)]
  have hti : t i = r j := by rw [h1 i (by omega), swp_i (by omega)]
  have hdu : dsc (swp r i j) (i + 1) n := fun q q' a b c => by
    by_cases e : q = q'
    · rw [e]; exact Nat.le_refl _
    · by_cases e1 : q = j
      · rw [e1, swp_j, swp_o (by omega) (by omega)]; exact hge q' (by omega) c
      · by_cases e2 : q' = j
        · rw [e2, swp_j, swp_o (by omega) (by omega)]
          have := hd q j a (by omega) hj
          omega
        · rw [swp_o (by omega) e1, swp_o (by omega) e2]; exact hd q q' a b c
  have ha : asc t (i + 1) n := fun q q' a b c => by
    rw [h2 q (by omega) (by omega), h2 q' (by omega) c]
    exact hdu _ _ (by omega) (by omega) (by omega)
  refine ⟨hA2, nxt (i := i) (N := n) (by omega) hag (by rw [hti]; exact hlt) hd ha (fun q a b c => ?_) n 0 (by omega) (by omega) hA2, vl_nxt (i := i) (N := n) (by omega) hag (by rw [hti]; exact hlt) h6 n 0 (by omega) (by omega)⟩
  rw [hti]
  rcases Nat.lt_or_ge j q with e | e
  · have := hge q e b
    omega
  · exact hd q j (by omega) e hj
set_option maxHeartbeats 400000 in
theorem lp_n47 {N : WM} {r : Nat → Nat} {n i : Nat} {lo : Nat → Int32} (hn : n ≤ 6) (h6 : ∀ q, q < n → r q < 6) (hi1 : i + 1 < n) (hd : dsc r (i + 1) n) (hlt : r i < r (i + 1)) (hs : Sc M N) (hR : RowIs N r n lo) :
    ∀ (c j : Nat), j = i + 1 + c → j < n → (∀ q, j < q → q < n → r q ≤ r i) →
    A G (d + 1) 155 47 [some (.ref 39), some (.int (nI i)), some (.int (nI j)), none, none] [] N (NxP M r n lo)
  | c, j, hj, hjn, hge => by
    have ej := (hR.2 j hjn).1
    have ei := (hR.2 i (by omega)).1
    have bj := h6 j hjn
    have bi := h6 i (by omega)
    refine A_wp okc_X10_nextOrder [47, 86] ?_
    refine And.intro (vp_in_nI (by omega) (by decide)) ?_
    rw [nI_clamp (n := j) (by omega), ej]
    refine And.intro (vp_in_nI (by omega) (by decide)) ?_
    rw [nI_clamp (n := i) (by omega), ei]
    refine And.intro (fun h => ?_) (fun h => ?_)
    · rw [nI_ltI (by omega) (by omega)] at h
      refine call_k (m_trades (show i < 6 by omega) (show j < 6 by omega)) ?_
      have hR2 := hR.swp (i := i) (j := j) (by omega) hjn (by omega)
      conv => whnf
      rw [hR2.1, nI_add i 1, nIs (show 1 ≤ n by omega)]
      refine And.intro trivial ?_
      exact lp_n86 (u := swp r i j) hn _ _ (fun N2 t hs2 hRt hA h1 h2 => ⟨hs2, Or.inr ⟨rfl, t, hRt, nx_fin h6 (by omega) hjn hd h hge hA h1 h2⟩⟩) n (i + 1) (n - 1) _ (swp r i j) (by omega) (by omega) (by omega) (sc53 hs) hR2 (Arr.rf _ _ _) (fun q _ => rfl) (fun q a b => by omega) (fun q a b => by omega) (fun q _ _ => rfl) (by omega)
    · rw [nI_ltI (by omega) (by omega)] at h
      have hc : c ≠ 0 := fun q => by
        rw [q] at hj
        rw [hj] at h
        exact h hlt
      obtain ⟨c', rfl⟩ : ∃ c', c = c' + 1 := ⟨c - 1, by omega⟩
      have ih := lp_n47 hn h6 hi1 hd hlt hs hR c' (j - 1) (by omega) (by omega) (fun q a b => by
        by_cases e : q = j
        · rw [e]; omega
        · exact hge q (by omega) b)
      rw [← nIs (show 1 ≤ j by omega)] at ih
      exact And.intro trivial ih
set_option maxHeartbeats 400000 in
theorem lp_n7 {N : WM} {r : Nat → Nat} {n : Nat} {lo : Nat → Int32} (hn : n ≤ 6) (hn1 : 1 ≤ n) (h6 : ∀ q, q < n → r q < 6) (hs : Sc M N) (hR : RowIs N r n lo) :
    ∀ (c : Nat), c < n → dsc r c n →
    A G (d + 1) 155 7 [some (.ref 39), some (.int (nI c - nI 1)), none, none, none] [] N (NxP M r n lo)
  | 0, hc, hd => by
    refine A_wp okc_X10_nextOrder [7] ?_
    refine And.intro (fun _ => ?_) (fun h => absurd (by decide) h)
    refine And.intro (fun h => absurd h (by decide)) (fun _ => ?_)
    exact And.intro isB_0 ⟨hs, Or.inl ⟨rfl, hR, hd⟩⟩
  | c + 1, hc, hd => by
    have e : nI (c + 1) - nI 1 = nI c := nIs (by omega)
    have ec := (hR.2 c (by omega)).1
    have ec1 := (hR.2 (c + 1) hc).1
    have b1 := h6 c (by omega)
    have b2 := h6 (c + 1) hc
    rw [e]
    refine A_wp okc_X10_nextOrder [7, 47] ?_
    refine And.intro (fun h => absurd h (nI_nlt (Nat.zero_le _) (by omega))) (fun _ => ?_)
    refine And.intro (vp_in_nI (by omega) (by decide)) ?_
    rw [nI_clamp (n := c) (by omega), ec]
    refine And.intro (by rw [nI_add]; exact vp_in_nI (by omega) (by decide)) ?_
    rw [nI_add c 1, nI_clamp (n := c + 1) (by omega), ec1]
    refine And.intro (fun h => ?_) (fun h => ?_)
    · rw [nI_ltI (by omega) (by omega)] at h
      refine And.intro (fun _ => ?_) (fun h => absurd (nI_le (Nat.zero_le _) (by omega)) h)
      conv => whnf
      rw [hR.1, nIs hn1]
      refine And.intro trivial ?_
      exact lp_n47 hn h6 hc hd h hs hR (n - 2 - c) (n - 1) (by omega) (by omega) (fun q a b => by omega)
    · rw [nI_ltI (by omega) (by omega)] at h
      have ih := lp_n7 hn hn1 h6 hs hR c (by omega) (fun q q' a b d => by
        by_cases e1 : q = c
        · by_cases e2 : q' = c
          · rw [e1, e2]; exact Nat.le_refl _
          · have := hd (c + 1) q' (Nat.le_refl _) (by omega) d
            rw [e1]
            omega
        · exact hd q q' (by omega) b d)
      exact And.intro trivial ih
theorem n2_d : ∀ n, n < 7 → 1 ≤ n → nI n - nI 2 = nI (n - 1) - nI 1 := by decide
theorem m_nextOrder {N : WM} {r : Nat → Nat} {n : Nat} {lo : Nat → Int32} (hn : n ≤ 6) (hn1 : 1 ≤ n) (h6 : ∀ q, q < n → r q < 6) (hs : Sc M N) (hR : RowIs N r n lo) : Fr G (d + 1) 155 [.ref 39] N (NxP M r n lo) := by
  refine Fr_of okc_X10_nextOrder [7] ?_
  conv => whnf
  rw [hR.1, n2_d n (by omega) hn1]
  refine And.intro trivial ?_
  exact lp_n7 hn hn1 h6 hs hR (n - 1) (by omega) (fun q q' a b c => by rw [show q = q' by omega]; exact Nat.le_refl _)
end WORDM
