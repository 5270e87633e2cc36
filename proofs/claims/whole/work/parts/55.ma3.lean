-- match: the class's call
section MAC
variable {G : GG} {d : Nat} {M : WM}
def CoP (M N : WM) (m : Nat) : Option Value → WM → Prop := fun q N2 => N2 = N ∧ ∃ c, c < 16 ∧ q = some (.int (nI c)) ∧ ∀ b, b < nB M → (c / 2 ^ b % 2 = 1 ↔ carM M m b)
set_option maxHeartbeats 400000 in
theorem lp_cof (hG : Good M) {m : Nat} (hm : m < nMo M) {N : WM} (hcs : Cs M N) : ∀ (u b c : Nat), b + u = nB M → c < 2 ^ b → (∀ i, i < b → (c / 2 ^ i % 2 = 1 ↔ carM M m i)) →
    A G (d + 7) 67 4 [some (.ref 9), some (.int (nI m)), some (.int (nI c)), some (.int (nI b))] [] N (CoP M N m)
  | 0, b, c, hb, hc, hbits => by
    have hB := hG.b
    have e12 : wg N 1 2 = nI (nB M) := by rw [hcs.1 1 rfl]; exact hB.1
    have h16 := cc_16 b (by omega)
    refine A_wp okc_X7_carriersOf [4] ?_
    conv => whnf
    rw [e12]
    refine And.intro (fun _ => ?_) (fun h => absurd (nI_le (by omega) (by omega)) h)
    exact ⟨rfl, c, by omega, rfl, fun i hi => hbits i (by omega)⟩
  | u + 1, b, c, hb, hc, hbits => by
    have hB := hG.b
    have e12 : wg N 1 2 = nI (nB M) := by rw [hcs.1 1 rfl]; exact hB.1
    have cc := cc_or b (by omega) c hc
    have hwc := c_wouldCarry (G := G) (d := d) (hcs.Good_ hG) (m := m) (b := b) (by rw [hcs.nMo_]; exact hm) (by rw [hcs.nB_]; omega)
    rw [hcs.rn0_, hcs.c (i := 43) rfl] at hwc
    refine A_wp okc_X7_carriersOf [4] ?_
    conv => whnf
    rw [e12]
    refine And.intro (fun h => absurd h (nI_ge (by omega) (by omega))) (fun _ => ?_)
    refine call_k hwc ?_
    refine And.intro (fun h => ?_) (fun h => ?_)
    · rw [bI_0] at h
      have ih := lp_cof hG hm hcs u (b + 1) c (by omega) cc.2.2.1 (fun i hi => by
        by_cases e : i = b
        · rw [e]; exact ⟨fun q => by omega, fun q => absurd q h⟩
        · exact hbits i (by omega))
      rw [← nI_add b 1] at ih
      exact And.intro trivial ih
    · rw [bI_0, Classical.not_not] at h
      have ih := lp_cof hG hm hcs u (b + 1) (c + 2 ^ b) (by omega) cc.2.1 (fun i hi => by
        by_cases e : i = b
        · rw [e]; exact ⟨fun _ => h, fun _ => cc.2.2.2.1⟩
        · rw [cc.2.2.2.2.2 i (by omega)]; exact hbits i (by omega))
      rw [← nI_add b 1, ← cc.1] at ih
      exact And.intro trivial ih
theorem c_carriersOf (hG : Good M) {m : Nat} (hm : m < nMo M) {N : WM} (hcs : Cs M N) : Fr G (d + 7) 67 [.ref 9, .int (nI m)] N (CoP M N m) := by
  refine Fr_of okc_X7_carriersOf [4] ?_
  exact And.intro trivial (lp_cof hG hm hcs (nB M) 0 0 (by omega) (by decide) (fun i hi => by omega))
def FmP (M : WM) : Option Value → WM → Prop := fun q N => q = none ∧ Cs M N ∧ ∃ g, BestR M g ∧ wg N 9 3 = nI (wS M g (nMo M)) ∧ ∀ i, i < nMo M → wg N 34 i = enc (g i)
theorem CB.fin {N : WM} (h : CB M N 0 1) : ∃ g, BestR M g ∧ wg N 9 3 = nI (wS M g (nMo M)) ∧ ∀ i, i < nMo M → wg N 34 i = enc (g i) := by
  have z : ∀ g : Nat → Nat, hv (nB M + 1) g 0 < 1 := fun g => Nat.zero_lt_one
  rcases h with ⟨_, c⟩ | ⟨g, a, r, vg, _, e⟩
  · exact absurd (z (fun _ => 0)) (c (fun _ => 0) (fun i _ => ⟨Nat.zero_le _, fun q => absurd rfl q⟩))
  · exact ⟨g, ⟨vg, fun h v => e h v (z h)⟩, a, r⟩
set_option maxHeartbeats 400000 in
theorem lp_fm (hG : Good M) : ∀ (u m : Nat) (N : WM), m + u = 5 → Cs M N → (∀ i, i < m → i < nMo M → CarOK M N i) →
    A G (d + 9) 66 2 [some (.ref 9), some (.int (nI m))] [] N (FmP M)
  | 0, m, N, hm, hcs, hcar => by
    have hM := hG.m
    refine A_wp okc_X7_findMatch [2] ?_
    refine And.intro (fun _ => ?_) (fun h => absurd (nI_le (by omega) (by omega)) h)
    refine call_r (c_giveFrom hG (nMo M) 0 (d + 8) 0 (fun _ => 0) (wset N 9 3 (mI 1)) (by omega) (by omega) (fun i hi => hcar i (by omega) hi) (fun i hi => by omega) ⟨by omega, fun b hb => ⟨fun q => ?_, fun q => ?_⟩⟩ (hcs.tr (Cs.set rfl)) (fun i hi => by omega) (Or.inl ⟨rfl, fun h _ q => absurd q (Nat.not_lt_zero _)⟩)) ?_
    · rw [Nat.zero_div] at q; omega
    · obtain ⟨i, hi, _⟩ := q; omega
    rintro r N2 ⟨rfl, hcs2, _, _, hcb⟩
    exact ⟨rfl, hcs2, CB.fin hcb⟩
  | u + 1, m, N, hm, hcs, hcar => by
    have hM := hG.m
    have e9 : wg N 30 9 = wg M 43 1 := by rw [hcs.1 30 rfl]; exact hG.rcar
    have e10 : wg N 30 10 = wg M 43 2 := by rw [hcs.1 30 rfl]; exact hG.rlos
    have hop : (¬ bt (wg M 43 1) (nI m) ∧ ¬ bt (wg M 43 2) (nI m)) ↔ opn M m := by
      unfold opn
      rw [bt_or hG.1 (show m < 5 by omega)]
      exact ⟨fun h q => q.elim h.1 h.2, fun h => ⟨fun q => h (Or.inl q), fun q => h (Or.inr q)⟩⟩
    have next : ∀ c, c < 16 → (m < nMo M → ∀ b, b < nB M → (c / 2 ^ b % 2 = 1 ↔ opn M m ∧ carM M m b)) → A G (d + 9) 66 2 [some (.ref 9), some (.int (nI m + nI 1))] [] (wset N 36 m (nI c)) (FmP M) := by
      intro c hc hb
      have ih := lp_fm hG u (m + 1) (wset N 36 m (nI c)) (by omega) (hcs.tr (Cs.set rfl)) (fun i hi hi2 => by
        by_cases e : i = m
        · rw [e] at hi2 ⊢; exact ⟨c, hc, wg_same _ _ _ _, hb hi2⟩
        · obtain ⟨c', a1, a2, a3⟩ := hcar i (by omega) hi2
          exact ⟨c', a1, by rw [wg_ne2 e]; exact a2, a3⟩)
      rw [← nI_add m 1] at ih
      exact ih
    refine A_wp okc_X7_findMatch [2] ?_
    refine And.intro (fun h => absurd h (nI_ge (by omega) (by omega))) (fun _ => ?_)
    refine call_k (c_hasMotion (hcs.w11 hG) hM.2 _) ?_
    refine And.intro (fun h => ?_) (fun h => ?_)
    · rw [bI_0] at h
      refine And.intro (vp_in_nI (by omega) (by decide)) ?_
      rw [nI_clamp (n := m) (by omega)]
      exact And.intro trivial (next 0 (by omega) (fun q => absurd (ix_n q (by omega)) h))
    · rw [bI_0, Classical.not_not] at h
      have hm2 : m < nMo M := by
        have := h.2
        rw [nI_ltI (by omega) (by omega)] at this
        exact this
      refine call_k (c_isOpen _) ?_
      rw [e9, e10, bI_iff hop]
      refine And.intro (fun h1 => ?_) (fun h1 => ?_)
      · rw [bI_0] at h1
        refine And.intro (vp_in_nI (by omega) (by decide)) ?_
        rw [nI_clamp (n := m) (by omega)]
        refine And.intro trivial (next 0 (by omega) (fun _ b _ => ⟨fun q => ?_, fun q => absurd q.1 h1⟩))
        rw [Nat.zero_div] at q; omega
      · rw [bI_0, Classical.not_not] at h1
        refine call_r (c_carriersOf (d := d + 1) hG hm2 hcs) ?_
        rintro r N2 ⟨rfl, c, hc, rfl, hb⟩
        refine And.intro (vp_in_nI (by omega) (by decide)) ?_
        rw [nI_clamp (n := m) (by omega)]
        exact And.intro trivial (next c hc (fun _ b hb2 => (hb b hb2).trans ⟨fun q => ⟨h1, q⟩, fun q => q.2⟩))
theorem c_findMatch (hG : Good M) : Fr G (d + 9) 66 [.ref 9] M (FmP M) := by
  refine Fr_of okc_X7_findMatch [2] ?_
  exact And.intro trivial (lp_fm hG 5 0 M (by omega) (Cs.rf M) (fun i hi => by omega))
set_option maxHeartbeats 400000 in
theorem c_match (hG : Good M) (x : Int32) : Fr G (d + 10) 102 [.ref 0, .int x] M (AnsC M (R_match M x)) := by
  have hM := hG.m
  have go : (x = mI 1 ∨ ix x (nMo M)) → A G (d + 10) 102 18 [some (.ref 0), some (.int x)] [] M (AnsC M (R_match M x)) := by
    intro h
    refine A_wp okc_X9_match [] ?_
    refine call_r (c_findMatch hG) ?_
    rintro r N ⟨rfl, hcs, g, hg, h3, h34⟩
    unfold R_match
    rw [iteI_t h]
    refine And.intro (fun h1 => ?_) (fun h1 => ?_)
    · have hx := h.resolve_left h1
      obtain ⟨k, hk, rfl⟩ := ix_of hx (by omega)
      refine call_k (c_chosen (by omega)) ?_
      exact AnsC.eq ((h34 k hk).trans (S_m_at hg hk hM.2).symm) hcs
    · rw [h1]
      exact AnsC.eq (h3.trans (S_m_w hg).symm) hcs
  refine Fr_of okc_X9_match [18] ?_
  refine And.intro (fun h => ?_) (fun h => ?_)
  · exact And.intro trivial (go (Or.inl h))
  · refine call_k (c_hasMotion hM.1 hM.2 x) ?_
    refine And.intro (fun h1 => ?_) (fun h1 => ?_)
    · rw [bI_0, Classical.not_not] at h1
      exact And.intro trivial (go (Or.inr h1))
    · rw [bI_0] at h1
      exact AnsC.eq (iteI_f (fun q => q.elim h h1)).symm (Cs.rf M)
end MAC
