-- house: the reference's readBaby(), readMotion()
section RDB
variable {G : GG} {d : Nat} {M N : WM} {L : Nat} {x : Nat → Nat} {s : Nat} {F : Nat ⊕ Hs} {h : Hs} {nu : Nat → Nat}
theorem TxM.sc (hT : TxM M L x) {K : WM} (q : Sc M K) : TxM K L x := ⟨q.2.1.2.2.2.2.2.trans hT.1, hT.2.1, fun k hk => by rw [q.c (by omega)]; exact hT.2.2.1 k hk, hT.2.2.2⟩
def PW (M N : WM) (L : Nat) (F : Nat ⊕ Hs) (N2 : WM) : Prop := Sc M N2 ∧ wg N2 39 21 = wg N 39 21 ∧ wg N2 39 20 = nI 1 ∧ ∃ k, k ≤ L ∧ wg N2 39 17 = nI k ∧ F = .inl k
theorem rb33 {N' : WM} {b : Nat} (hb : b < 4) (h26 : wg N' 39 26 = nI b) (hp : PW M N L F N') : A G (d + 4) 128 33 [some (.ref 39)] [] N' (ItP M N L x F s) := by
  obtain ⟨p1, p2, p3, k, p4, p5, p6⟩ := hp
  refine A_wp okc_X10_readBaby [] ?_
  conv => whnf
  rw [h26, pk_mul, nI_add]
  refine call_k (m_takesW p3 _ _) ?_
  refine And.intro (vp_in_nI (by omega) (by decide)) ?_
  rw [nI_clamp (n := 2 * b + 1) (by omega)]
  conv => whnf
  refine ⟨rfl, (p1.tr (Sc.set (Or.inl (by omega)))).tr (Sc.set (Or.inr ⟨rfl, by omega⟩)), ?_, Or.inr ⟨p3, k, p4, p5, p6⟩⟩
  rw [wg_ne2 (show 21 ≠ 26 by omega), wg_ne1 (show 39 ≠ 51 by omega)]
  exact p2
theorem rb16 {N' : WM} {b : Nat} (hb : b < 4) (h26 : wg N' 39 26 = nI b) (hp : PW M N L F N') : A G (d + 4) 128 16 [some (.ref 39)] [] N' (ItP M N L x F s) := by
  obtain ⟨p1, p2, p3, k, p4, p5, p6⟩ := hp
  refine A_wp okc_X10_readBaby [33] ?_
  conv => whnf
  rw [h26, pk_mul]
  refine call_k (m_takesW p3 _ _) ?_
  refine And.intro (vp_in_nI (by omega) (by decide)) ?_
  rw [nI_clamp (n := 2 * b) (by omega)]
  refine And.intro trivial (rb33 (N' := wset N' 51 (2 * b) (nI 0)) hb h26 ⟨p1.tr (Sc.set (Or.inl (by omega))), ?_, p3, k, p4, p5, p6⟩)
  rw [wg_ne1 (show 39 ≠ 51 by omega)]
  exact p2
set_option maxHeartbeats 400000 in
theorem m_readBaby (hT : TxM M L x) (hs : Sc M N) (hw : wg N 39 20 = nI 0) (hk : Lk L x N s) (hF : F = RT_ L x s (98, 0, nu, h)) (ho : SgOK (98, 0, nu, h)) (hh : HsM N h) : Fr G (d + 4) 128 [.ref 39] N (ItP M N L x F s) := by
  have h4 : h.2.2.1 < 4 := room_b ho.2.2.1
  have e26 : wg N 39 26 = nI h.2.2.1 := hh.1.2.2
  refine Fr_of okc_X10_readBaby [16] ?_
  conv => whnf
  rw [e26]
  refine call_r (m_takes (g := (98, 0, nu, h)) (hT.sc hs) hw hk (by show ¬ 98 = 0; omega) (Or.inl (stE_98 (by omega))) (lo := nI 0) (hi := nI 9) (fun v hv => may_98.trans (by rw [← le_ix hv (by omega)]; omega))) ?_
  rintro r N1 ⟨f1, ⟨v1, s1, b1, m1, rfl, w1, k1, l1, R1⟩ | ⟨rfl, w1, z1, R1⟩⟩
  · have o1 := put_ok b1 ho m1
    refine And.intro (vp_in_nI (by omega) (by decide)) ?_
    rw [nI_clamp (n := h.2.2.1) (by omega)]
    have hs1 : Sc M (wset N1 52 h.2.2.1 (nI v1)) := (hs.tr f1.sc).tr (Sc.set (Or.inl (by omega)))
    have e26' : wg (wset N1 52 h.2.2.1 (nI v1)) 39 26 = nI h.2.2.1 := (f1.2.1 26 (by omega)).trans e26
    have e21 : wg (wset N1 52 h.2.2.1 (nI v1)) 39 21 = wg N 39 21 := f1.2.1 21 (by omega)
    refine And.intro trivial ?_
    refine A_wp okc_X10_readBaby [33] ?_
    conv => whnf
    rw [e26', pk_mul]
    refine call_r (m_takes (g := (98, 1, up nu 0 v1, h)) (hT.sc hs1) w1 k1 (by show ¬ 98 = 0; omega) (Or.inl (stE_98 (by omega))) (lo := nI 0) (hi := nI 3) (fun v hv => may_98.trans (by rw [← le_ix hv (by omega)]; omega))) ?_
    rintro r N2 ⟨f2, ⟨v2, s2, b2, m2, rfl, w2, k2, l2, R2⟩ | ⟨rfl, w2, z2, R2⟩⟩
    · have o2 := put_ok b2 o1 m2
      refine And.intro (vp_in_nI (by omega) (by decide)) ?_
      rw [nI_clamp (n := 2 * h.2.2.1) (by omega)]
      have hs2 : Sc M (wset N2 51 (2 * h.2.2.1) (nI v2)) := (hs1.tr f2.sc).tr (Sc.set (Or.inl (by omega)))
      have e26'' : wg (wset N2 51 (2 * h.2.2.1) (nI v2)) 39 26 = nI h.2.2.1 := (f2.2.1 26 (by omega)).trans e26'
      have e21' : wg (wset N2 51 (2 * h.2.2.1) (nI v2)) 39 21 = wg N 39 21 := (f2.2.1 21 (by omega)).trans e21
      refine And.intro trivial ?_
      refine A_wp okc_X10_readBaby [] ?_
      conv => whnf
      rw [e26'', pk_mul, nI_add]
      refine call_r (m_takes (g := (98, 2, up (up nu 0 v1) 1 v2, h)) (hT.sc hs2) w2 k2 (by show ¬ 98 = 0; omega) (Or.inl (stE_98 (by omega))) (lo := nI 1) (hi := nI 99) (fun v hv => may_98.trans (by rw [nI_ltI (by omega) (by omega), nI_leI (by omega) (by omega)]; omega))) ?_
      rintro r N3 ⟨f3, ⟨v3, s3, b3, m3, rfl, w3, k3, l3, R3⟩ | ⟨rfl, w3, z3, R3⟩⟩
      · have o3 := put_ok b3 o2 m3
        refine And.intro (vp_in_nI (by omega) (by decide)) ?_
        rw [nI_clamp (n := 2 * h.2.2.1 + 1) (by omega)]
        have e3 : wg (wset N3 51 (2 * h.2.2.1 + 1) (nI v3)) 39 26 = nI h.2.2.1 := (f3.2.1 26 (by omega)).trans e26''
        conv => whnf
        rw [e3, nI_add]
        have hh2 : HsM (wset N1 52 h.2.2.1 (nI v1)) h := by
          obtain ⟨c, t1, t2, t3⟩ := hh.fx f1 (by omega)
          exact ⟨c, t1, t2, fun b hb => by rw [wg_ne2 (show b ≠ h.2.2.1 by omega)]; exact t3 b hb⟩
        have hh3 : HsM (wset N2 51 (2 * h.2.2.1) (nI v2)) h := by
          obtain ⟨c, t1, t2, t3⟩ := hh2.fx f2 (by omega)
          exact ⟨c, t1, t2, fun b hb => by rw [wg_ne2 (show 2 * b ≠ 2 * h.2.2.1 by omega), wg_ne2 (show 2 * b + 1 ≠ 2 * h.2.2.1 by omega)]; exact t3 b hb⟩
        obtain ⟨⟨c1, c2, c3⟩, t1, t2, t3⟩ := hh3.fx f3 (by omega)
        refine ⟨rfl, ((hs2.tr f3.sc).tr (Sc.set (Or.inl (by omega)))).tr (Sc.set (Or.inr ⟨rfl, by omega⟩)), ?_, Or.inl ⟨s3, (98, 3, up (up (up nu 0 v1) 1 v2) 2 v3, h), addB h v1 v2 v3, w3, k3, by omega, hF.trans (R1.trans (R2.trans R3)), o3, by show ¬ 98 = 0; omega, (itc_f (fun q => n_e (a := 98) (b := 119) rfl q.1)).trans ((itc_f (fun q => n_e (a := 98) (b := 109) rfl q.1)).trans (itc_t ⟨rfl, rfl⟩)), Or.inl (fun v q => ?_), ⟨⟨c1, c2, rfl⟩, fun w hw => ?_, fun m hm => ?_, fun b hb => ?_⟩, ?_⟩⟩
        · rw [wg_ne2 (show 21 ≠ 26 by omega), wg_ne1 (show 39 ≠ 51 by omega), f3.2.1 21 (by omega)]
          exact e21'
        · have q := may_98.mp q
          omega
        · exact t1 w hw
        · exact t2 m hm
        · have hb : b < h.2.2.1 + 1 := hb
          rw [wg_ne1 (show 52 ≠ 39 by omega), wg_ne1 (show 52 ≠ 51 by omega), wg_ne1 (show 51 ≠ 39 by omega), wg_ne1 (show 51 ≠ 39 by omega)]
          show _ = nI (if 5 = 5 ∧ b = h.2.2.1 then v1 else if 5 = 6 ∧ b = h.2.2.1 then v2 else if 5 = 7 ∧ b = h.2.2.1 then v3 else h.2.2.2 5 b) ∧ _ = nI (if 6 = 5 ∧ b = h.2.2.1 then v1 else if 6 = 6 ∧ b = h.2.2.1 then v2 else if 6 = 7 ∧ b = h.2.2.1 then v3 else h.2.2.2 6 b) ∧ _ = nI (if 7 = 5 ∧ b = h.2.2.1 then v1 else if 7 = 6 ∧ b = h.2.2.1 then v2 else if 7 = 7 ∧ b = h.2.2.1 then v3 else h.2.2.2 7 b)
          by_cases q : b = h.2.2.1
          · rw [q, if_pos ⟨rfl, rfl⟩, if_neg (by omega), if_pos ⟨rfl, rfl⟩, if_neg (by omega), if_neg (by omega), if_pos ⟨rfl, rfl⟩, wg_same, wg_ne2 (show 2 * h.2.2.1 ≠ 2 * h.2.2.1 + 1 by omega), f3.1 51 (by omega), wg_same, f3.1 52 (by omega), wg_ne1 (show 52 ≠ 51 by omega), f2.1 52 (by omega), wg_same]
            exact ⟨rfl, rfl, rfl⟩
          · rw [if_neg (by omega), if_neg (by omega), if_neg (by omega), if_neg (by omega), if_neg (by omega), if_neg (by omega), if_neg (by omega), if_neg (by omega), if_neg (by omega), wg_ne2 (show 2 * b ≠ 2 * h.2.2.1 + 1 by omega), wg_ne2 (show 2 * b + 1 ≠ 2 * h.2.2.1 + 1 by omega)]
            exact t3 b (by omega)
        · rw [hh.cs ho.1]
          show h.1 + h.2.1 + (h.2.2.1 + 1) = h.1 + h.2.1 + h.2.2.1 + 1
          omega
      · refine And.intro (vp_in_nI (by omega) (by decide)) ?_
        rw [nI_clamp (n := 2 * h.2.2.1 + 1) (by omega)]
        conv => whnf
        refine ⟨rfl, ((hs2.tr f3.sc).tr (Sc.set (Or.inl (by omega)))).tr (Sc.set (Or.inr ⟨rfl, by omega⟩)), ?_, Or.inr ⟨w3, s2, k2.2.1, z3, hF.trans (R1.trans (R2.trans R3))⟩⟩
        rw [wg_ne2 (show 21 ≠ 26 by omega), wg_ne1 (show 39 ≠ 51 by omega), f3.2.1 21 (by omega)]
        exact e21'
    · refine And.intro (vp_in_nI (by omega) (by decide)) ?_
      rw [nI_clamp (n := 2 * h.2.2.1) (by omega)]
      refine And.intro trivial (rb33 (N' := wset N2 51 (2 * h.2.2.1) (nI 0)) h4 ((f2.2.1 26 (by omega)).trans e26') ⟨(hs1.tr f2.sc).tr (Sc.set (Or.inl (by omega))), (f2.2.1 21 (by omega)).trans e21, w2, s1, k1.2.1, z2, hF.trans (R1.trans R2)⟩)
  · refine And.intro (vp_in_nI (by omega) (by decide)) ?_
    rw [nI_clamp (n := h.2.2.1) (by omega)]
    refine And.intro trivial (rb16 (N' := wset N1 52 h.2.2.1 (nI 0)) h4 ((f1.2.1 26 (by omega)).trans e26) ⟨(hs.tr f1.sc).tr (Sc.set (Or.inl (by omega))), f1.2.1 21 (by omega), w1, s, hk.2.1, z1, hF.trans R1⟩)
-- readMotion
theorem rm119 {N' : WM} {z1 z2 z3 : Option Value} (hp : PW M N L F N') : A G (d + 4) 127 119 [some (.ref 39), z1, z2, z3] [] N' (ItP M N L x F s) := by
  obtain ⟨p1, p2, p3, k, p4, p5, p6⟩ := hp
  refine A_wp okc_X10_readMotion [] ?_
  conv => whnf
  refine ⟨rfl, p1.tr (Sc.set (Or.inr ⟨rfl, by omega⟩)), ?_, Or.inr ⟨p3, k, p4, p5, p6⟩⟩
  rw [wg_ne2 (show 21 ≠ 24 by omega)]
  exact p2
theorem rm30W {N' : WM} {z1 z2 z3 : Option Value} (hp : PW M N L F N') : A G (d + 4) 127 30 [some (.ref 39), z1, z2, z3] [] N' (ItP M N L x F s) := by
  refine A_wp okc_X10_readMotion [119] ?_
  conv => whnf
  rw [hp.2.2.1]
  refine And.intro (fun _ => And.intro trivial (rm119 hp)) (fun h => absurd h n10)
def MoI (M N : WM) (L : Nat) (x : Nat → Nat) (F : Nat ⊕ Hs) (s : Nat) (h : Hs) (n : Nat) (nu : Nat → Nat) (s' : Nat) (N' : WM) : Prop :=
  (Sc M N' ∧ wg N' 39 21 = wg N 39 21 ∧ wg N' 39 20 = nI 0 ∧ Lk L x N' s' ∧ s ≤ s' ∧ F = RT_ L x s' (109, n + 1, nu, h) ∧ SgOK (109, n + 1, nu, h)) ∧ HsM N' h ∧ wg N' 50 (8 * h.2.1) = nI (nu 0) ∧ wg N' 50 (8 * h.2.1 + 1) = nI n ∧ ∀ k, k < n → wg N' 50 (8 * h.2.1 + 2 + k) = nI (nu (k + 1))
theorem rm_ok {N' : WM} {n s' : Nat} {z1 z2 z3 : Option Value} (hcs : csum N = h.1 + h.2.1 + h.2.2.1) (h5 : h.2.1 < 5) (hI : MoI M N L x F s h n nu s' N') (hn1 : 1 ≤ n) (hn6 : n ≤ 6) (h18 : wg N' 39 18 = nI 3) : A G (d + 4) 127 119 [some (.ref 39), z1, z2, z3] [] N' (ItP M N L x F s) := by
  obtain ⟨⟨p1, p2, p3, p4, p5, p6, p7⟩, hh, h0, h1, hk⟩ := hI
  obtain ⟨⟨c1, c2, c3⟩, t1, t2, t3⟩ := hh
  have okm := p7.1.2.2.2.1
  refine A_wp okc_X10_readMotion [] ?_
  conv => whnf
  rw [c2, nI_add]
  refine ⟨rfl, p1.tr (Sc.set (Or.inr ⟨rfl, by omega⟩)), ?_, Or.inl ⟨s', (109, n + 1, nu, h), addM h nu n, p3, p4, p5, p6, p7, by show ¬ 109 = 0; omega, (itc_f (fun q => n_e (a := 109) (b := 119) rfl q.1)).trans (itc_t ⟨rfl, by show 2 ≤ n + 1; omega⟩), Or.inr h18, ⟨⟨c1, rfl, c3⟩, fun w hw => ?_, fun m hm => ?_, fun b hb => ?_⟩, ?_⟩⟩
  · rw [wg_ne2 (show 21 ≠ 24 by omega)]
    exact p2
  · rw [addM_o (by omega), addM_o (by omega)]; exact t1 w hw
  · have hm : m < h.2.1 + 1 := hm
    rw [addM_2, addM_3]
    by_cases e : m = h.2.1
    · rw [if_pos e, if_pos e, e]
      refine ⟨h0, h1, fun k hk2 => ?_⟩
      rw [addM_4, if_pos (by omega), show 6 * h.2.1 + k - 6 * h.2.1 + 1 = k + 1 by omega]
      exact hk k hk2
    · rw [if_neg e, if_neg e]
      have q := t2 m (by omega)
      have q6 := (okm m (show m < h.2.1 by omega)).2.2.1
      have q6 : h.2.2.2 3 m ≤ 6 := q6
      refine ⟨q.1, q.2.1, fun k hk2 => ?_⟩
      rw [addM_4, if_neg (by omega)]
      exact q.2.2 k hk2
  · rw [addM_o (by omega), addM_o (by omega), addM_o (by omega)]; exact t3 b hb
  · rw [hcs]
    show h.1 + (h.2.1 + 1) + h.2.2.1 = h.1 + h.2.1 + h.2.2.1 + 1
    omega
set_option maxHeartbeats 400000 in
theorem lp_rm (hT : TxM M L x) (hcs : csum N = h.1 + h.2.1 + h.2.2.1) (h5 : h.2.1 < 5) : ∀ (u n : Nat) (nu : Nat → Nat) (s' : Nat) (N' : WM) (z2 z3 : Option Value), n + u = 6 → MoI M N L x F s h n nu s' N' →
    A G (d + 4) 127 30 [some (.ref 39), some (.int (nI (8 * h.2.1))), z2, z3] [] N' (ItP M N L x F s)
  | u, n, nu, s', N', z2, z3, hu, hI => by
    have hI0 := hI
    obtain ⟨⟨p1, p2, p3, p4, p5, p6, p7⟩, hh, h0, h1, hk⟩ := hI
    have c1 := hh.1.1
    have h6 : h.1 ≤ 6 := p7.1.1
    have e1 : ∀ q : Nat, q = 8 * h.2.1 + 1 → q < 40 := fun q e => by omega
    have body : (n = 0 ∨ ¬ wg N' 39 18 = nI 3) → A G (d + 4) 127 56 [some (.ref 39), some (.int (nI (8 * h.2.1))), z2, z3] [] N' (ItP M N L x F s) := by
      intro hcond
      have hE : stE (109, n + 1, nu, h) = none ∨ ¬ wg N' 39 18 = nI 3 := hcond.imp (fun q => stE_109 (by omega)) id
      have call : ∀ hi : Int32, (∀ v, v ≤ 99 → (may (109, n + 1, nu, h) v ↔ (¬ nI v < nI 0 ∧ nI v ≤ hi))) → A G (d + 4) 127 83 [some (.ref 39), some (.int (nI (8 * h.2.1))), some (.int (nI n)), z3] [.int hi, .int (nI 0), .ref 39] N' (ItP M N L x F s) := by
        intro hi hmay
        refine A_wp okc_X10_readMotion [30] ?_
        refine call_r (m_takes (g := (109, n + 1, nu, h)) (hT.sc p1) p3 p4 (by show ¬ 109 = 0; omega) hE hmay) ?_
        rintro r N1 ⟨f1, ⟨v1, s1, b1, m1, rfl, w1, k1, l1, R1⟩ | ⟨rfl, w1, z1, R1⟩⟩
        · conv => whnf
          rw [w1]
          refine And.intro (fun q => absurd rfl q) (fun _ => ?_)
          have m1' := may_109.mp m1
          obtain ⟨u', rfl⟩ : ∃ u', u = u' + 1 := ⟨u - 1, by omega⟩
          refine And.intro (by rw [nI_add, nI_add]; exact vp_in_nI (by omega) (by decide)) ?_
          rw [nI_add (8 * h.2.1) 2, nI_add (8 * h.2.1 + 2) n, nI_clamp (n := 8 * h.2.1 + 2 + n) (by omega)]
          refine And.intro (by rw [nI_add]; exact vp_in_nI (by omega) (by decide)) ?_
          rw [nI_add (8 * h.2.1) 1, nI_add n 1, nI_clamp (n := 8 * h.2.1 + 1) (by omega)]
          refine And.intro trivial ?_
          have okm := p7.1.2.2.2.1
          refine lp_rm hT hcs h5 u' (n + 1) (up nu (n + 1) v1) s1 _ _ _ (by omega) ⟨⟨((p1.tr f1.sc).tr (Sc.set (Or.inl (by omega)))).tr (Sc.set (Or.inl (by omega))), ?_, w1, k1, by omega, p6.trans R1, put_ok b1 p7 m1⟩, ?_, ?_, wg_same _ _ _ _, fun k hk2 => ?_⟩
          · rw [wg_ne1 (show 39 ≠ 50 by omega), wg_ne1 (show 39 ≠ 50 by omega), f1.2.1 21 (by omega)]
            exact p2
          · obtain ⟨c, t1, t2, t3⟩ := hh.fx f1 (by omega)
            refine ⟨c, t1, fun m hm => ?_, t3⟩
            have q6 : h.2.2.2 3 m ≤ 6 := (okm m hm).2.2.1
            rw [wg_ne2 (show 8 * m ≠ 8 * h.2.1 + 1 by omega), wg_ne2 (show 8 * m ≠ 8 * h.2.1 + 2 + n by omega), wg_ne2 (show 8 * m + 1 ≠ 8 * h.2.1 + 1 by omega), wg_ne2 (show 8 * m + 1 ≠ 8 * h.2.1 + 2 + n by omega)]
            refine ⟨(t2 m hm).1, (t2 m hm).2.1, fun k hk2 => ?_⟩
            rw [wg_ne2 (show 8 * m + 2 + k ≠ 8 * h.2.1 + 1 by omega), wg_ne2 (show 8 * m + 2 + k ≠ 8 * h.2.1 + 2 + n by omega)]
            exact (t2 m hm).2.2 k hk2
          · rw [wg_ne2 (show 8 * h.2.1 ≠ 8 * h.2.1 + 1 by omega), wg_ne2 (show 8 * h.2.1 ≠ 8 * h.2.1 + 2 + n by omega), f1.1 50 (by omega), up_f _ _ (by omega)]
            exact h0
          · rw [wg_ne2 (show 8 * h.2.1 + 2 + k ≠ 8 * h.2.1 + 1 by omega)]
            by_cases e : k = n
            · rw [e, wg_same, up_t]
            · rw [wg_ne2 (show 8 * h.2.1 + 2 + k ≠ 8 * h.2.1 + 2 + n by omega), f1.1 50 (by omega), up_f _ _ (by omega)]
              exact hk k (by omega)
        · conv => whnf
          rw [w1]
          refine And.intro (fun _ => ?_) (fun q => absurd q n10)
          exact And.intro trivial (rm30W ⟨p1.tr f1.sc, (f1.2.1 21 (by omega)).trans p2, w1, s', p4.2.1, z1, p6.trans R1⟩)
      refine A_wp okc_X10_readMotion [83] ?_
      refine And.intro (by rw [nI_add]; exact vp_in_nI (by omega) (by decide)) ?_
      rw [nI_add (8 * h.2.1) 1, nI_clamp (n := 8 * h.2.1 + 1) (by omega), h1]
      refine And.intro (fun q => ?_) (fun q => ?_)
      · rw [nI_eq (by omega) (by omega)] at q
        conv => whnf
        rw [c1]
        refine And.intro trivial (call _ (fun v hv => ?_))
        rw [in_ix (by omega), may_109]
        unfold ix
        rw [nI_ltI (by omega) (by omega), nI_ltI (by omega) (by omega)]
        omega
      · rw [nI_eq (by omega) (by omega)] at q
        refine And.intro trivial (call _ (fun v hv => ?_))
        rw [may_109]
        refine ⟨fun z => by omega, fun z => absurd z.2 ?_⟩
        rw [Int32.le_iff_toInt_le, nI_toInt (by omega), show (mI 1).toInt = -1 from rfl]
        omega
    refine A_wp okc_X10_readMotion [56, 119] ?_
    conv => whnf
    rw [p3]
    refine And.intro (fun q => absurd rfl q) (fun _ => ?_)
    refine And.intro (fun q => ?_) (fun q => ?_)
    · exact And.intro trivial (body (Or.inr q))
    · refine And.intro (by rw [nI_add]; exact vp_in_nI (by omega) (by decide)) ?_
      rw [nI_add (8 * h.2.1) 1, nI_clamp (n := 8 * h.2.1 + 1) (by omega), h1]
      refine And.intro (fun z => ?_) (fun z => ?_)
      · rw [nI_eq (by omega) (by omega)] at z
        exact And.intro trivial (rm_ok hcs h5 hI0 (by omega) (by omega) q)
      · rw [nI_eq (by omega) (by omega)] at z
        exact And.intro trivial (body (Or.inl z))
set_option maxHeartbeats 400000 in
theorem m_readMotion (hT : TxM M L x) (hs : Sc M N) (hw : wg N 39 20 = nI 0) (hk : Lk L x N s) (hF : F = RT_ L x s (109, 0, nu, h)) (ho : SgOK (109, 0, nu, h)) (hh : HsM N h) : Fr G (d + 4) 127 [.ref 39] N (ItP M N L x F s) := by
  have h5 : h.2.1 < 5 := room_m ho.2.2.1
  have okm := ho.1.2.2.2.1
  have e24 : wg N 39 24 = nI h.2.1 := hh.1.2.1
  refine Fr_of okc_X10_readMotion [30] ?_
  conv => whnf
  rw [e24, pk_mul]
  refine call_r (m_takes (g := (109, 0, nu, h)) (hT.sc hs) hw hk (by show ¬ 109 = 0; omega) (Or.inl (stE_109 (by omega))) (lo := nI 0) (hi := nI 99) (fun v hv => may_109.trans (by rw [← le_ix hv (by omega)]; omega))) ?_
  rintro r N1 ⟨f1, ⟨v1, s1, b1, m1, rfl, w1, k1, l1, R1⟩ | ⟨rfl, w1, z1, R1⟩⟩
  · have o1 := put_ok b1 ho m1
    refine And.intro (vp_in_nI (by omega) (by decide)) ?_
    rw [nI_clamp (n := 8 * h.2.1) (by omega)]
    refine And.intro (by rw [nI_add]; exact vp_in_nI (by omega) (by decide)) ?_
    rw [nI_add (8 * h.2.1) 1, nI_clamp (n := 8 * h.2.1 + 1) (by omega)]
    refine And.intro trivial ?_
    refine lp_rm hT (hh.cs ho.1) h5 6 0 (up nu 0 v1) s1 _ none none (by omega) ⟨⟨((hs.tr f1.sc).tr (Sc.set (Or.inl (by omega)))).tr (Sc.set (Or.inl (by omega))), ?_, w1, k1, by omega, hF.trans R1, o1⟩, ?_, ?_, wg_same _ _ _ _, fun k hk2 => by omega⟩
    · rw [wg_ne1 (show 39 ≠ 50 by omega), wg_ne1 (show 39 ≠ 50 by omega)]
      exact f1.2.1 21 (by omega)
    · obtain ⟨c, t1, t2, t3⟩ := hh.fx f1 (by omega)
      refine ⟨c, t1, fun m hm => ?_, t3⟩
      have q6 : h.2.2.2 3 m ≤ 6 := (okm m hm).2.2.1
      rw [wg_ne2 (show 8 * m ≠ 8 * h.2.1 + 1 by omega), wg_ne2 (show 8 * m ≠ 8 * h.2.1 by omega), wg_ne2 (show 8 * m + 1 ≠ 8 * h.2.1 + 1 by omega), wg_ne2 (show 8 * m + 1 ≠ 8 * h.2.1 by omega)]
      refine ⟨(t2 m hm).1, (t2 m hm).2.1, fun k hk2 => ?_⟩
      rw [wg_ne2 (show 8 * m + 2 + k ≠ 8 * h.2.1 + 1 by omega), wg_ne2 (show 8 * m + 2 + k ≠ 8 * h.2.1 by omega)]
      exact (t2 m hm).2.2 k hk2
    · rw [wg_ne2 (show 8 * h.2.1 ≠ 8 * h.2.1 + 1 by omega), wg_same, up_t]
  · refine And.intro (vp_in_nI (by omega) (by decide)) ?_
    rw [nI_clamp (n := 8 * h.2.1) (by omega)]
    refine And.intro (by rw [nI_add]; exact vp_in_nI (by omega) (by decide)) ?_
    rw [nI_add (8 * h.2.1) 1, nI_clamp (n := 8 * h.2.1 + 1) (by omega)]
    refine And.intro trivial (rm30W ⟨((hs.tr f1.sc).tr (Sc.set (Or.inl (by omega)))).tr (Sc.set (Or.inl (by omega))), ?_, w1, s, hk.2.1, z1, hF.trans R1⟩)
    rw [wg_ne1 (show 39 ≠ 50 by omega), wg_ne1 (show 39 ≠ 50 by omega)]
    exact f1.2.1 21 (by omega)
end RDB
