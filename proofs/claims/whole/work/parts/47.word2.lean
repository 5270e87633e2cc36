-- wording: the class's findFirst, and its call
theorem filL_L (M : WM) (v : Int32) : ∀ k, (filL M v k).2 = M.2
  | 0 => rfl
  | k + 1 => filL_L M v k
theorem filL_cs (M : WM) (v : Int32) : Cs M (filL M v 6) := ⟨fun i hi => filL_o v (fun q => by rw [q] at hi; cases hi) 6, filL_L M v 6⟩
/-- t is the order that is asked for -/
def Lw (M : WM) (m b : Nat) (t : Nat → Nat) : Prop := ¬ wg M 43 (3 + b) = nI 0 ∧ LeastO M (fun w => cnt (txt M m) w (len M m) 0) (eN M b) (wg M 43 (3 + b)) (len M m) 0 t
noncomputable def S_wording (M : WM) (m b : Nat) (z : Int32) : Int32 := iteI (∃ t, Lw M m b t) (iteI (ix z (len M m)) (nI (Classical.epsilon (Lw M m b) z.toNatClampNeg)) (mI 5)) (mI 9)
noncomputable def R_wording (M : WM) (x y z : Int32) : Int32 := iteI (ix x (nMo M) ∧ ix y (nB M) ∧ ¬ z < nI 0) (S_wording M x.toNatClampNeg y.toNatClampNeg z) (mI 1)
theorem S_w_no {M : WM} {m b : Nat} {z : Int32} (h : ∀ t, ¬ Lw M m b t) : S_wording M m b z = mI 9 := iteI_f (fun q => by obtain ⟨t, ht⟩ := q; exact h t ht)
theorem S_w_far {M : WM} {m b : Nat} {z : Int32} {t : Nat → Nat} (h : Lw M m b t) (hz : ¬ ix z (len M m)) : S_wording M m b z = mI 5 := (iteI_t ⟨t, h⟩).trans (iteI_f hz)
theorem S_w_at {M : WM} {m b k : Nat} {t : Nat → Nat} (h : Lw M m b t) (hk : k < len M m) (h6 : len M m ≤ 6) : S_wording M m b (nI k) = nI (t k) := by
  unfold S_wording
  rw [iteI_t ⟨t, h⟩, iteI_t (ix_n hk (by omega)), nI_clamp (n := k) (by omega)]
  have hs : Lw M m b (Classical.epsilon (Lw M m b)) := Classical.epsilon_spec ⟨t, h⟩
  rw [hs.2.uq h.2 k (by omega) (by omega)]
def FfP (M : WM) (m b : Nat) : Option Value → WM → Prop := fun q N => Cs M N ∧
  ((q = some (.int (nI 1)) ∧ ∃ t, (∀ i, i < len M m → wg N 33 i = nI (t i)) ∧ Lw M m b t) ∨ (q = some (.int (nI 0)) ∧ ∀ t, ¬ Lw M m b t))
section WORDC
variable {G : GG} {d : Nat} {M : WM}
theorem Cs.w11 {N : WM} (hc : Cs M N) (hG : Good M) : wg N 1 1 = nI (nMo M) := by rw [hc.1 1 rfl]; exact hG.m.1
set_option maxHeartbeats 400000 in
theorem lp_ff (hG : Good M) {m b : Nat} (hm : m < nMo M) (hb : b < nB M) : ∀ (n k : Nat) (N : WM) (z : Option Value), k + n = len M m → Cs M N → (∀ w, w < 6 → wg N 32 w = nI (cnt (txt M m) w k 0)) →
    A G (d + 10) 59 25 [some (.ref 8), some (.int (nI m)), some (.int (nI b)), some (.int (nI (len M m))), some (.int (nI k)), z] [] N (FfP M m b)
  | 0, k, N, z, hk, hcs, hlf => by
    have hl := hG.1.ln hm
    have hB := hG.b
    have hW := hG.w
    have hkl : k = len M m := by omega
    have hd := hG.dn hb
    have e30 : wg N 30 b = wg M 43 (3 + b) := by rw [hcs.1 30 rfl]; exact hG.rdep (by omega)
    have hear := c_earsNow (G := G) (d := d + 6) (hcs.Good_ hG) (b := b) (by rw [hcs.eq]; exact hb)
    have eE : eN N b = eN M b := by rw [hcs.eq]; rfl
    rw [eE] at hear
    refine A_wp okc_X5_findFirst [25] ?_
    refine And.intro (fun _ => ?_) (fun h => absurd (nI_le (by omega) (by omega)) h)
    refine call_k (c_ndepth (by omega)) ?_
    rw [e30]
    refine And.intro (fun h => ?_) (fun h => ?_)
    · rw [le0_n hd] at h
      exact And.intro isB_0 ⟨hcs, Or.inr ⟨rfl, fun t ht => ht.1 h⟩⟩
    · rw [le0_n hd] at h
      refine call_k (c_ndepth (by omega)) ?_
      rw [e30]
      refine call_k hear ?_
      refine call_r (c_canGoOn hG (e := eN M b) (L := len M m) hl.2.2 (len M m) 0 (d + 9) (fun w => cnt (txt M m) w (len M m) 0) (fun _ => nI 0) (wg M 43 (3 + b)) N (by omega) (by omega)
        (sm6_cnt _ _ (fun q _ hq => by have := (hG.1.tx hm (show q < len M m by omega)).2; omega)) (fun w hw => by
          obtain ⟨q, _, hq, rfl⟩ := cnt_mem _ _ hw
          exact (hG.1.tx hm (by omega)).2) hd h hcs (by rw [← hkl]; exact hlf) (fun i hi => by omega)) ?_
      rintro r N2 ⟨hcs3, _, ⟨rfl, t, ht, hlo⟩ | ⟨rfl, _, hno⟩⟩
      · refine And.intro (fun h => absurd h n10) (fun _ => ?_)
        exact And.intro isB_1 ⟨hcs3, Or.inl ⟨rfl, t, fun i hi => ht i (by omega) (by omega), h, hlo⟩⟩
      · refine And.intro (fun _ => ?_) (fun h => absurd rfl h)
        exact And.intro isB_0 ⟨hcs3, Or.inr ⟨rfl, fun t ht => ht.2.2.1 (hno t ht.2.1)⟩⟩
  | n + 1, k, N, z, hk, hcs, hlf => by
    have hl := hG.1.ln hm
    have hM := hG.m
    have hW := hG.w
    have hk2 : k < len M m := by omega
    have ht := hG.tx hm hk2
    have e16 : wg N 16 (m * 6 + k) = nI (txt M m k) := by rw [hcs.1 16 rfl]; exact ht.1
    have h6 : txt M m k < 6 := by omega
    refine A_wp okc_X5_findFirst [25] ?_
    refine And.intro (fun h => absurd h (nI_ge (by omega) (by omega))) (fun _ => ?_)
    refine call_k (c_wordAt (hcs.w11 hG) hM.2 hm (by omega)) ?_
    rw [e16]
    refine And.intro (fun h => absurd h (nI_nlt (Nat.zero_le _) (by omega))) (fun _ => ?_)
    refine And.intro (fun h => absurd h (nI_ge (by omega) (by omega))) (fun _ => ?_)
    refine And.intro (vp_in_nI (by omega) (by decide)) ?_
    rw [nI_clamp (n := txt M m k) (by omega), hlf _ h6]
    refine And.intro (vp_in_nI (by omega) (by decide)) ?_
    rw [nI_clamp (n := txt M m k) (by omega), nI_add]
    have ih := lp_ff hG hm hb n (k + 1) (wset N 32 (txt M m k) (nI (cnt (txt M m) (txt M m k) k 0 + 1))) (some (.int (nI (txt M m k)))) (by omega) (hcs.tr (Cs.set rfl)) (fun w hw => by
      rw [cnt_snoc, Nat.zero_add]
      by_cases e : w = txt M m k
      · rw [← e, wg_same, one_t]
      · rw [wg_ne2 e, hlf w hw]
        have z : one (txt M m k) w = 0 := if_neg (fun q => e q.symm)
        rw [z, Nat.add_zero])
    rw [← nI_add k 1] at ih
    exact And.intro trivial ih
theorem c_findFirst (hG : Good M) {m b : Nat} (hm : m < nMo M) (hb : b < nB M) : Fr G (d + 10) 59 [.ref 8, .int (nI m), .int (nI b)] M (FfP M m b) := by
  have hl := hG.1.ln hm
  have hM := hG.m
  refine Fr_of okc_X5_findFirst [25] ?_
  refine call_k (c_length hM.1 hM.2 hm) ?_
  rw [(hG.mo hm).2]
  conv => whnf
  rw [min6_d _ (by omega)]
  refine call_k (c_fill (nI 0)) ?_
  exact And.intro trivial (lp_ff hG hm hb (len M m) 0 _ none (by omega) (filL_cs M (nI 0)) (fun w hw => filL_v (nI 0) 6 w hw))
set_option maxHeartbeats 400000 in
theorem c_wording (hG : Good M) (x y z : Int32) : Fr G (d + 11) 99 [.ref 0, .int x, .int y, .int z] M (AnsC M (R_wording M x y z)) := by
  have hM := hG.m
  have hB := hG.b
  refine Fr_of okc_X9_wording [] ?_
  refine call_k (c_isPair hG x y) ?_
  refine And.intro (fun h => ?_) (fun h => ?_)
  · rw [bI_0] at h
    exact AnsC.eq (iteI_f (fun q => h ⟨q.1, q.2.1⟩)).symm (Cs.rf M)
  rw [bI_0, Classical.not_not] at h
  refine And.intro (fun h1 => ?_) (fun h1 => ?_)
  · have h1 : ¬ z < nI 0 := Int32.not_lt.mpr h1
    unfold R_wording
    rw [iteI_t ⟨h.1, h.2, h1⟩]
    obtain ⟨m, hm, rfl⟩ := ix_of h.1 (by omega)
    obtain ⟨b, hb, rfl⟩ := ix_of h.2 (by omega)
    rw [nI_clamp (n := m) (by omega), nI_clamp (n := b) (by omega)]
    have hl := hG.1.ln hm
    refine call_r (c_findFirst hG hm hb) ?_
    rintro r N ⟨hcs, ⟨rfl, t, ht, hlw⟩ | ⟨rfl, hno⟩⟩
    · refine And.intro (fun _ => ?_) (fun h => absurd h n10)
      have e15 : wg N 15 m = nI (len M m) := by rw [hcs.1 15 rfl]; exact (hG.mo hm).2
      refine call_k (c_length (hcs.w11 hG) hM.2 hm) ?_
      rw [e15]
      refine And.intro (fun h2 => ?_) (fun h2 => ?_)
      · exact AnsC.eq (S_w_far hlw (fun q => absurd q.2 (Int32.not_lt.mpr h2))).symm hcs
      · have hz : ix z (len M m) := ⟨h1, Int32.not_le.mp h2⟩
        obtain ⟨k, hk, rfl⟩ := ix_of hz (by omega)
        refine call_k (c_oWordAt (by omega)) ?_
        exact AnsC.eq ((ht k hk).trans (S_w_at hlw hk hl.2.2).symm) hcs
    · refine And.intro (fun h => absurd rfl h) (fun _ => ?_)
      exact AnsC.eq (S_w_no hno).symm hcs
  · exact AnsC.eq (iteI_f (fun q => q.2.2 (Int32.not_le.mp h1))).symm (Cs.rf M)
end WORDC
