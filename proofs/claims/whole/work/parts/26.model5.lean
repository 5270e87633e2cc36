-- the reference: which
theorem hso_s {M : WM} {m n : Nat} : hso M m 0 (n + 1) ↔ hso M m 0 n ∧ woul M m (cN M 47 (2 * n)) = iteI (cN M 47 (2 * n + 1) = 6) (mI 5) (nI (cN M 47 (2 * n + 1))) := by
  refine ⟨fun h => ⟨fun i h1 h2 => h i h1 (by omega), h n (by omega) (by omega)⟩, fun h i h1 h2 => ?_⟩
  rcases Nat.eq_or_lt_of_le (show i ≤ n by omega) with q | q
  · subst q; exact h.2
  · exact h.1 i h1 (by omega)
section MPUB
variable {G : GG} {d : Nat} {M : WM}
theorem m_woulS (hG : GM M) {N : WM} (hs : Sc M N) {m b : Nat} (hm : m < nMo M) (hb : b < 4) : Fr G (d + 2) 137 [.ref 39, .int (nI m), .int (nI b)] N (AnsS M (woul M m b)) := by
  have h := m_wouldBe (G := G) (d := d) (hs.GM_ hG) (m := m) (b := b) (by rw [hs.nMo_]; exact hm) hb
  refine Fr_mono (fun r M2 q => ?_) h
  obtain ⟨rfl, rfl⟩ := q
  exact AnsS.eq (hs.woul_ m b) (hs.tr (sc32 (rowL_sc N m _)))
set_option maxHeartbeats 400000 in
theorem lp_mwhich1 (hG : GM M) {m : Nat} (hm : m < nMo M) (s : Int32) (P : Option Value → WM → Prop)
    (hk : ∀ N z5, Sc M N → A G (d + 3) 170 86 [some (.ref 39), some (.int s), some (.int (nI m)), some (.int (bI (hso M m 0 (nH M)))), some (.int (nI (nH M))), z5] [] N P) :
    ∀ (n k : Nat) (N : WM) (z5 : Option Value), k + n = nH M → Sc M N →
    A G (d + 3) 170 17 [some (.ref 39), some (.int s), some (.int (nI m)), some (.int (bI (hso M m 0 k))), some (.int (nI k)), z5] [] N P
  | 0, k, N, z5, hn, hs => by
    have hH := hG.h
    have e1 : wg N 39 11 = nI (nH M) := hs.2.1.2.2.2.2.1.trans hH.1
    refine A_wp okc_X10_which [17, 86] ?_
    conv => whnf
    rw [e1]
    refine And.intro (fun _ => ?_) (fun h => absurd (nI_le (by omega) (by omega)) h)
    rw [show k = nH M by omega]
    exact And.intro trivial (hk N z5 hs)
  | n + 1, k, N, z5, hn, hs => by
    have hH := hG.h
    have hB := hG.b
    have e1 : wg N 39 11 = nI (nH M) := hs.2.1.2.2.2.2.1.trans hH.1
    have hg := hG.2.2.2.1 k (by omega)
    have e2 : wg N 47 (2 * k + 1) = nI (cN M 47 (2 * k + 1)) := (hs.c (by omega) _).trans hg.2.2.1
    have e3 : wg N 47 (2 * k) = nI (cN M 47 (2 * k)) := (hs.c (by omega) _).trans hg.1.1
    have p6 : cN M 47 (2 * k + 1) ≤ 6 := hg.2.2.2
    have hb := hg.2.1
    refine A_wp okc_X10_which [17, 86] ?_
    conv => whnf
    rw [e1]
    refine And.intro (fun h => absurd h (nI_ge (by omega) (by omega))) (fun _ => ?_)
    refine And.intro (by rw [pk_mul, nI_add]; exact vp_in_nI (by omega) (by decide)) ?_
    rw [pk_mul, nI_add, nI_clamp (n := 2 * k + 1) (by omega), e2]
    refine And.intro (fun h => ?_) (fun h => ?_)
    · rw [bI_0] at h
      have ih := lp_mwhich1 hG hm s P hk n (k + 1) N (some (.int (nI (cN M 47 (2 * k + 1))))) (by omega) hs
      rw [← nI_add k 1, bI_f (fun q => h (hso_s.mp q).1)] at ih
      exact And.intro trivial ih
    · rw [bI_0, Classical.not_not] at h
      refine And.intro (by rw [pk_mul]; exact vp_in_nI (by omega) (by decide)) ?_
      rw [pk_mul, nI_clamp (n := 2 * k) (by omega), e3]
      refine call_r (m_woulS hG hs hm (by omega)) (fun r M2 q => ?_)
      obtain ⟨rfl, hs2⟩ := q
      have ih := lp_mwhich1 hG hm s P hk n (k + 1) M2 (some (.int (nI (cN M 47 (2 * k + 1))))) (by omega) hs2
      rw [← nI_add k 1] at ih
      refine And.intro (fun h1 => ?_) (fun h1 => ?_)
      · rw [nI_eq (by omega) (by omega)] at h1
        refine And.intro (fun h2 => ?_) (fun h2 => ?_)
        · rw [bI_f (fun q => h2 ((hso_s.mp q).2.trans (iteI_f h1)))] at ih
          exact And.intro trivial ih
        · rw [bI_t (hso_s.mpr ⟨h, h2.trans (iteI_f h1).symm⟩)] at ih
          exact And.intro trivial ih
      · rw [nI_eq (by omega) (by omega)] at h1
        refine And.intro (fun h2 => ?_) (fun h2 => ?_)
        · rw [bI_f (fun q => h2 ((hso_s.mp q).2.trans (iteI_t h1)))] at ih
          exact And.intro trivial ih
        · rw [bI_t (hso_s.mpr ⟨h, h2.trans (iteI_t h1).symm⟩)] at ih
          exact And.intro trivial ih
set_option maxHeartbeats 400000 in
theorem lp_mwhich (hG : GM M) : ∀ (n k : Nat) (s : Int32) (N : WM) (z3 z4 z5 : Option Value), k + n = nMo M → Sc M N →
    A G (d + 3) 170 4 [some (.ref 39), some (.int s), some (.int (nI k)), z3, z4, z5] [] N (AnsS M (whc M n k s))
  | 0, k, s, N, z3, z4, z5, hn, hs => by
    have hH := hG.m
    have e1 : wg N 39 2 = nI (nMo M) := hs.2.1.2.1.trans hH.1
    refine A_wp okc_X10_which [4] ?_
    conv => whnf
    rw [e1]
    refine And.intro (fun _ => ?_) (fun h => absurd (nI_le (by omega) (by omega)) h)
    exact AnsS.eq rfl hs
  | n + 1, k, s, N, z3, z4, z5, hn, hs => by
    have hH := hG.m
    have e1 : wg N 39 2 = nI (nMo M) := hs.2.1.2.1.trans hH.1
    refine A_wp okc_X10_which [4, 17] ?_
    conv => whnf
    rw [e1]
    refine And.intro (fun h => absurd h (nI_ge (by omega) (by omega))) (fun _ => ?_)
    have l1 := lp_mwhich1 (G := G) (d := d) hG (show k < nMo M by omega) s (AnsS M (whc M (n + 1) k s)) (fun N2 z6 hs2 => by
      refine A_wp okc_X10_which [4] ?_
      refine And.intro (fun h => ?_) (fun h => ?_)
      · rw [bI_0] at h
        have ih := lp_mwhich hG n (k + 1) s N2 (some (.int (bI (hso M k 0 (nH M))))) (some (.int (nI (nH M)))) z6 (by omega) hs2
        rw [← nI_add k 1] at ih
        rw [whc, iteI_f h]
        have e0 : s ||| nI 0 = s := Int32.or_zero
        refine And.intro trivial ?_
        rw [e0]
        exact ih
      · rw [bI_0, Classical.not_not] at h
        have ih := lp_mwhich hG n (k + 1) (s ||| nI 1 <<< (nI k &&& 31)) N2 (some (.int (bI (hso M k 0 (nH M))))) (some (.int (nI (nH M)))) z6 (by omega) hs2
        rw [← nI_add k 1] at ih
        rw [whc, iteI_t h]
        exact And.intro trivial ih) (nH M) 0 N z5 (by omega) hs
    rw [bI_t (show hso M k 0 0 from fun i h1 h2 => by omega)] at l1
    exact And.intro trivial l1
theorem m_which (hG : GM M) : Fr G (d + 3) 170 [.ref 39] M (AnsS M (whc M (nMo M) 0 (nI 0))) := by
  refine Fr_of okc_X10_which [4] ?_
  exact And.intro trivial (lp_mwhich hG (nMo M) 0 (nI 0) M none none none (by omega) (Sc.rf M))
end MPUB
