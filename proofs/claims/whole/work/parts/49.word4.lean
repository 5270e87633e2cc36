-- wording: the reference's call
section WORDM
variable {G : GG} {d : Nat} {M : WM}
theorem Arr.lt6_ {r0 r : Nat → Nat} {n : Nat} (hA : Arr r0 r n 0) (h6 : ∀ q, q < n → r0 q < 6) : ∀ q, q < n → r q < 6 := fun q hq => by
  obtain ⟨p, _, hp, e⟩ := hA.mem (Nat.zero_le q) (show q < 0 + n by omega)
  rw [← e]; exact h6 p (by omega)
set_option maxHeartbeats 400000 in
theorem lp_mw34 (hG : GM M) {m b : Nat} (hm : m < nMo M) (hb : b < 4) {z : Int32} (hz : ¬ z < nI 0) :
    ∀ (c : Nat) (N : WM) (r : Nat → Nat), 6 ^ len M m ≤ vl r (len M m) 0 + c → Sc M N → RowIs N r (len M m) zlo → Arr (txt M m) r (len M m) 0 → (∀ s, Arr (txt M m) s (len M m) 0 → ¬ wg M 43 (3 + b) = nI 0 → ¬ rn M s zlo (eN M b) (len M m) 0 (wg M 43 (3 + b)) = nI 0 → lex r s (len M m) 0) →
    A G (d + 3) 157 34 [some (.ref 39), some (.int (nI m)), some (.int (nI b)), some (.int z), some (.int (nI 1))] [] N (AnsS M (S_wording M m b z))
  | 0, N, r, hc, hs, hR, hA, hlo => by
    have hl := hG.ln hm
    have hW := hG.w
    have h6 := hA.lt6_ (fun q hq => by have := (hG.tx hm hq).2; omega)
    have := vl_lt (r := r) (len M m) 0 (fun q _ hq => h6 q (by omega))
    omega
  | c + 1, N, r, hc, hs, hR, hA, hlo => by
    have hl := hG.ln hm
    have hW := hG.w
    have h6 := hA.lt6_ (fun q hq => by have := (hG.tx hm hq).2; omega)
    have e43 : wg N 43 (3 + b) = wg M 43 (3 + b) := hs.c (by omega) _
    have hwk := m_woken (G := G) (d := d + 2) hR hl.2.2 h6 (wg M 43 (3 + b)) (eN M b)
    rw [hs.pl_, hs.rn_] at hwk
    refine A_wp okc_X10_wording [34] ?_
    refine And.intro (fun h => absurd h n10) (fun _ => ?_)
    refine And.intro (by rw [nI_add]; exact vp_in_nI (by omega) (by decide)) ?_
    rw [nI_add, nI_clamp (n := 3 + b) (by omega), e43]
    refine call_k (m_eN (d := d + 1) hs hb) ?_
    refine call_k hwk ?_
    refine And.intro (fun h => ?_) (fun h => ?_)
    · rw [c5 (by omega), Classical.not_not] at h
      have hnc : ¬ wg M 43 (3 + b) = nI 0 → rn M r zlo (eN M b) (len M m) 0 (wg M 43 (3 + b)) = nI 0 := fun q => by
        rw [if_neg q] at h; exact h
      refine call_r (m_nextOrder (d := d + 1) (M := M) hl.2.2 hl.2.1 h6 (sc32 hs) hR.beh) ?_
      rintro q N2 ⟨hs2, ⟨rfl, hR2, hd⟩ | ⟨rfl, t, hRt, hAt, hnx, hv⟩⟩
      · refine And.intro trivial ?_
        refine A_wp okc_X10_wording [34] ?_
        refine And.intro (fun _ => ?_) (fun h => absurd rfl h)
        refine AnsS.eq (S_w_no (fun t ht => ?_)).symm hs2
        have hat : Arr (txt M m) t (len M m) 0 := ht.2.1
        have l1 := hlo t hat ht.1 ht.2.2.1
        have l2 := lex_max (s := t) (len M m) 0 (fun q q' a b c => hd q q' a b (by omega)) (hA.sy.tr hat)
        have e := lex_anti _ _ l2 l1
        exact ht.2.2.1 ((rn_cg _ _ _ e).trans (hnc ht.1))
      · refine And.intro trivial ?_
        refine lp_mw34 hG hm hb hz c N2 t (by omega) hs2 hRt (hA.tr hAt) (fun s hs3 h0 hcs => ?_)
        rcases hnx s (hA.sy.tr hs3) with l2 | l2
        · have l1 := hlo s hs3 h0 hcs
          have e := lex_anti _ _ l2 l1
          exact absurd ((rn_cg _ _ _ e).trans (hnc h0)) hcs
        · exact l2
    · rw [c5 (by omega)] at h
      have h0 : ¬ wg M 43 (3 + b) = nI 0 := fun q => h (if_pos q)
      rw [if_neg h0] at h
      have hlw : Lw M m b r := ⟨h0, hA, h, fun s hs3 hcs => hlo s hs3 h0 hcs⟩
      conv => whnf
      have e29 : ∀ v, wg (wset N 39 32 v) 39 29 = nI (len M m) := fun v => hR.1
      rw [e29]
      refine And.intro (fun h2 => ?_) (fun h2 => ?_)
      · exact AnsS.eq (S_w_far hlw (fun q => absurd q.2 (Int32.not_lt.mpr h2))).symm (sc32 hs)
      · have hzi : ix z (len M m) := ⟨hz, Int32.not_le.mp h2⟩
        obtain ⟨k, hk, rfl⟩ := ix_of hzi (by omega)
        refine And.intro (vp_in_nI (by omega) (by decide)) ?_
        rw [nI_clamp (n := k) (by omega)]
        refine AnsS.eq ?_ (sc32 hs)
        rw [S_w_at hlw hk hl.2.2]
        exact (hR.2 k hk).1
set_option maxHeartbeats 400000 in
theorem m_wording (hG : GM M) (x y z : Int32) : Fr G (d + 3) 157 [.ref 39, .int x, .int y, .int z] M (AnsS M (R_wording M x y z)) := by
  have hM := hG.m
  have hB := hG.b
  refine Fr_of okc_X10_wording [34] ?_
  refine call_k (c_isMotion hG x) ?_
  refine And.intro (fun h => ?_) (fun h => ?_)
  · rw [bI_0] at h
    exact AnsS.rf (iteI_f (fun q => h q.1)).symm
  rw [bI_0, Classical.not_not] at h
  refine call_k (c_isBaby hG y) ?_
  refine And.intro (fun h1 => ?_) (fun h1 => ?_)
  · rw [bI_0] at h1
    exact AnsS.rf (iteI_f (fun q => h1 q.2.1)).symm
  rw [bI_0, Classical.not_not] at h1
  refine And.intro (fun h2 => ?_) (fun h2 => ?_)
  · have h2 : ¬ z < nI 0 := Int32.not_lt.mpr h2
    unfold R_wording
    rw [iteI_t ⟨h, h1, h2⟩]
    obtain ⟨m, hm, rfl⟩ := ix_of h (by omega)
    obtain ⟨b, hb, rfl⟩ := ix_of h1 (by omega)
    rw [nI_clamp (n := m) (by omega), nI_clamp (n := b) (by omega)]
    have hl := hG.ln hm
    have hW := hG.w
    refine call_k (m_rowOf hG hm) ?_
    refine call_r (m_sorts (d := d + 1) (M := M) hl.2.2 (fun q hq => by have := (hG.tx hm hq).2; omega) (rowL_sc M m _) (rowL_is hG hm)) ?_
    rintro q N ⟨rfl, hs, r, hR, hA, hasc⟩
    refine And.intro trivial ?_
    exact lp_mw34 hG hm (by omega) h2 (6 ^ len M m) N r (by omega) hs hR hA (fun s hs3 _ _ => lex_min _ _ (fun q q' a b c => hasc q q' a b (by omega)) (hA.sy.tr hs3))
  · exact AnsS.rf (iteI_f (fun q => q.2.2 (Int32.not_le.mp h2))).symm
theorem Cs.stp_ {N : WM} (hc : Cs M N) : stp N = stp M := by rw [hc.eq]; rfl
theorem Cs.rn_ {N : WM} (hc : Cs M N) (r : Nat → Nat) (lo : Nat → Int32) (e : Int32) : ∀ (n k : Nat) (a : Int32), rn N r lo e n k a = rn M r lo e n k a
  | 0, _, _ => rfl
  | n + 1, k, a => by
    unfold rn
    rw [hc.stp_, Cs.rn_ hc r lo e n (k + 1) _]
theorem Cs.eN_ {N : WM} (hc : Cs M N) (b : Nat) : eN N b = eN M b := by rw [hc.eq]; rfl
theorem Cs.len_ {N : WM} (hc : Cs M N) (m : Nat) : len N m = len M m := by rw [hc.eq]; rfl
theorem Cs.txt_ {N : WM} (hc : Cs M N) (m : Nat) : txt N m = txt M m := by rw [hc.eq]; rfl
theorem Cs.nMo_ {N : WM} (hc : Cs M N) : nMo N = nMo M := by rw [hc.eq]; rfl
theorem Cs.nB_ {N : WM} (hc : Cs M N) : nB N = nB M := by rw [hc.eq]; rfl
theorem Cs.nW_ {N : WM} (hc : Cs M N) : nW N = nW M := by rw [hc.eq]; rfl
theorem Cs.c {N : WM} (hc : Cs M N) {i : Nat} (hi : isCs i = false) (k : Nat) : wg N i k = wg M i k := by rw [hc.1 i hi]
theorem Cs.rn0_ {N : WM} (hc : Cs M N) (m b : Nat) (lo : Nat → Int32) (a : Int32) : rn0 N m b lo a = rn0 M m b lo a := by
  unfold rn0
  rw [hc.rn_, hc.eN_, hc.len_, hc.txt_]
theorem Cs.Lw_ {N : WM} (hc : Cs M N) (m b : Nat) : Lw N m b = Lw M m b := by
  funext t
  unfold Lw LeastO
  simp only [hc.rn_, hc.eN_, hc.len_, hc.txt_, hc.c (i := 43) rfl]
theorem Cs.R_w {N : WM} (hc : Cs M N) (x y z : Int32) : R_wording N x y z = R_wording M x y z := by
  unfold R_wording S_wording
  rw [hc.nMo_, hc.nB_, hc.Lw_, hc.len_]
theorem s_wording (hg : GoodT M) (x y z : Int32) : Same G 99 157 [.int x, .int y, .int z] M :=
  Same.cs hg (c_wording (d := 29) hg.1 x y z) (fun M1 hc => by
    have h := m_wording (G := G) (d := 37) (hc.Good_ hg.1).1 x y z
    rw [hc.R_w] at h
    exact h)
end WORDM
