-- reads
section SAME
variable {G : GG} {d : Nat} {M : WM}
/-- a reading's minutes, and the place of its bit in the reference's row -/
def RdC (M : WM) (m b : Nat) (mn : Int32) (cs : Nat) : Prop := (woul M m b = mI 5 ∧ mn = nI (len M m) ∧ cs = 1) ∨ (¬ woul M m b = mI 5 ∧ mn = woul M m b + nI 1 ∧ cs = 2)
theorem RdC_ex (M : WM) (m b : Nat) : ∃ mn cs, RdC M m b mn cs := by
  rcases Classical.em (woul M m b = mI 5) with h | h
  · exact ⟨_, _, Or.inl ⟨h, rfl, rfl⟩⟩
  · exact ⟨_, _, Or.inr ⟨h, rfl, rfl⟩⟩
theorem open_or (hg : GoodT M) {m : Nat} (hm : m < 5) : (¬ bt (wg M 43 1) (nI m) ∧ ¬ bt (wg M 43 2) (nI m)) ↔ ¬ bt (wg M 43 1 ||| wg M 43 2) (nI m) := by
  rw [bt_or hg.1.1 hm]
  exact ⟨fun h q => q.elim h.1 h.2, fun h => ⟨fun q => h (Or.inl q), fun q => h (Or.inr q)⟩⟩
def rdC (M : WM) (m b : Nat) (mn : Int32) (cs : Nat) : WM := wset (wset (wset (remC M) 30 b (rn0 M m b zlo (wg M 43 (3 + b)))) 30 8 (wg M 43 0 + mn)) 30 (8 + cs) (wg M 43 cs ||| nI 1 <<< (nI m &&& 31))
def rdN (N : WM) (m b : Nat) : WM := wset (rowL N m (len N m)) 39 32 (rn0 N m b zlo (wg N 43 (3 + b)))
def rdM (N : WM) (m b : Nat) (mn : Int32) (cs : Nat) : WM := wset (wset (wset (remW (rdN N m b)) 43 0 (wg N 43 0 + mn)) 43 (3 + b) (rn0 N m b zlo (wg N 43 (3 + b)))) 43 cs (wg N 43 cs ||| nI 1 <<< (nI m &&& 31))
theorem rdN_sc (N : WM) (m b : Nat) : Sc N (rdN N m b) := (rowL_sc N m _).tr (Sc.set (Or.inr ⟨rfl, by omega⟩))
theorem c_reads0 (hg : GoodT M) {m b : Nat} (hm : m < nMo M) (hb : b < nB M) (hf : bt (wg M 43 1 ||| wg M 43 2) (nI m) ∨ wg M 43 (3 + b) = nI 0) :
    Fn G 40 92 [.ref 0, .int (nI m), .int (nI b)] M (some (.int (mI 2))) M := by
  have hMo := hg.1.1.m
  have hB := hg.1.1.b
  refine Fn_of (d := 40) okc_X9_reads [] ?_
  refine call_k (c_isPair hg.1 _ _) ?_
  rw [bI_t ⟨ix_n hm (by omega), ix_n hb (by omega)⟩]
  refine And.intro (fun _ => ?_) (fun h => absurd h n10)
  refine call_k (c_wakesAt (d := 35) hg.1 hm hb) ?_
  refine call_k (c_isOpen _) ?_
  rw [hg.1.rcar, hg.1.rlos]
  refine And.intro (fun _ => And.intro rfl rfl) (fun h => ?_)
  rw [bI_0, Classical.not_not, open_or hg (by omega)] at h
  exact And.intro (fun h2 => absurd ((woul9 hg.1.1 hm).mpr (hf.resolve_left h)) h2) (fun _ => And.intro rfl rfl)
theorem m_reads0 (hg : GoodT M) {m b : Nat} (hm : m < nMo M) (hb : b < nB M) (hf : bt (wg M 43 1 ||| wg M 43 2) (nI m) ∨ wg M 43 (3 + b) = nI 0) :
    Fn G 40 146 [.ref 39, .int (nI m), .int (nI b)] M (some (.int (mI 2))) M := by
  have hMo := hg.1.1.m
  have hB := hg.1.1.b
  refine Fn_of (d := 40) okc_X10_reads [] ?_
  refine call_k (c_isMotion hg.1.1 _) ?_
  rw [bI_t (ix_n hm (by omega))]
  refine And.intro (fun h => absurd h n10) (fun _ => ?_)
  refine call_k (c_isBaby hg.1.1 _) ?_
  rw [bI_t (ix_n hb (by omega))]
  refine And.intro (fun _ => ?_) (fun h => absurd h n10)
  refine call_k (m_isDone _) ?_
  refine And.intro (fun _ => And.intro rfl rfl) (fun h => ?_)
  rw [bI_0] at h
  refine And.intro (by rw [nI_add]; exact vp_in_nI (by omega) (by decide)) ?_
  rw [nI_add, nI_clamp (n := 3 + b) (by omega)]
  exact And.intro (fun h2 => absurd (hf.resolve_left h) h2) (fun _ => And.intro rfl rfl)
theorem c_reads1 (hg : GoodT M) {m b : Nat} (hm : m < nMo M) (hb : b < nB M) (hf : ¬ bt (wg M 43 1 ||| wg M 43 2) (nI m) ∧ ¬ wg M 43 (3 + b) = nI 0) {mn : Int32} {cs : Nat} (hc : RdC M m b mn cs) (hl : nI 99999 < wg M 43 0 + mn) :
    Fn G 40 92 [.ref 0, .int (nI m), .int (nI b)] M (some (.int (mI 2))) M := by
  have hMo := hg.1.1.m
  have hB := hg.1.1.b
  have hMc := hg.1.m
  refine Fn_of (d := 40) okc_X9_reads [] ?_
  refine call_k (c_isPair hg.1 _ _) ?_
  rw [bI_t ⟨ix_n hm (by omega), ix_n hb (by omega)⟩]
  refine And.intro (fun _ => ?_) (fun h => absurd h n10)
  refine call_k (c_wakesAt (d := 35) hg.1 hm hb) ?_
  refine call_k (c_isOpen _) ?_
  rw [hg.1.rcar, hg.1.rlos, bI_t ((open_or hg (by omega)).mpr hf.1)]
  refine And.intro (fun h => absurd h n10) (fun _ => ?_)
  refine And.intro (fun _ => ?_) (fun h => absurd ((woul9 hg.1.1 hm).mp h) hf.2)
  rcases hc with ⟨h1, h2, h3⟩ | ⟨h1, h2, h3⟩
  · refine And.intro (fun h => absurd h1 h) (fun _ => ?_)
    refine call_k (c_length hMc.1 hMc.2 hm) ?_
    rw [(hg.1.mo hm).2, ← h2]
    refine call_k (c_isTooLate _) ?_
    rw [hg.1.rmin, bI_t hl]
    exact And.intro (fun h => absurd h n10) (fun _ => And.intro rfl rfl)
  · refine And.intro (fun _ => ?_) (fun h => absurd h h1)
    conv => whnf
    rw [← h2]
    refine call_k (c_isTooLate _) ?_
    rw [hg.1.rmin, bI_t hl]
    exact And.intro (fun h => absurd h n10) (fun _ => And.intro rfl rfl)
theorem c_decideT (x : Int32) : Fn G d 58 [.ref 4, .int x, .int (nI 1)] M none (wset M 30 9 (wg M 30 9 ||| nI 1 <<< (x &&& 31))) := by
  have h := c_decide (G := G) (d := d) (M := M) x True
  rw [bI_t trivial, if_pos trivial] at h
  exact h
theorem c_decideF (x : Int32) : Fn G d 58 [.ref 4, .int x, .int (nI 0)] M none (wset M 30 10 (wg M 30 10 ||| nI 1 <<< (x &&& 31))) := by
  have h := c_decide (G := G) (d := d) (M := M) x False
  rw [bI_f (fun h => h), if_neg (fun h => h)] at h
  exact h
theorem rdN_many {N : WM} (hN : GM N) {m b : Nat} (hm : m < nMo N) : wg (rdN N m b) 39 29 = nI (len N m) := by
  unfold rdN
  rw [wg_ne2 (by omega), rowL_many, (hN.ln hm).1]
theorem m_reads1 (hg : GoodT M) {m b : Nat} (hm : m < nMo M) (hb : b < nB M) (hf : ¬ bt (wg M 43 1 ||| wg M 43 2) (nI m) ∧ ¬ wg M 43 (3 + b) = nI 0) {mn : Int32} {cs : Nat} (hc : RdC M m b mn cs) (hl : nI 99999 < wg M 43 0 + mn) :
    Fn G 40 146 [.ref 39, .int (nI m), .int (nI b)] M (some (.int (mI 2))) (rdN M m b) := by
  have hMo := hg.1.1.m
  have hB := hg.1.1.b
  have hs := rdN_sc M m b
  have h43 : wg (rdN M m b) 43 = wg M 43 := hs.1 43 (by omega)
  refine Fn_of (d := 40) okc_X10_reads [] ?_
  refine call_k (c_isMotion hg.1.1 _) ?_
  rw [bI_t (ix_n hm (by omega))]
  refine And.intro (fun h => absurd h n10) (fun _ => ?_)
  refine call_k (c_isBaby hg.1.1 _) ?_
  rw [bI_t (ix_n hb (by omega))]
  refine And.intro (fun _ => ?_) (fun h => absurd h n10)
  refine call_k (m_isDone _) ?_
  rw [bI_f hf.1]
  refine And.intro (fun h => absurd rfl h) (fun _ => ?_)
  refine And.intro (by rw [nI_add]; exact vp_in_nI (by omega) (by decide)) ?_
  rw [nI_add, nI_clamp (n := 3 + b) (by omega)]
  refine And.intro (fun _ => ?_) (fun h => absurd h hf.2)
  refine call_k (M' := rdN M m b) (m_wouldBe hg.1.1 hm (by omega)) ?_
  rcases hc with ⟨h1, h2, h3⟩ | ⟨h1, h2, h3⟩
  · refine And.intro (fun h => absurd h1 h) (fun _ => ?_)
    refine And.intro (vp_in_nI (by omega) (by decide)) ?_
    rw [nI_clamp (n := 0) (by omega), h43, rdN_many hg.1.1 hm, ← h2]
    exact And.intro (fun h => absurd hl (Int32.not_lt.mpr h)) (fun _ => And.intro rfl rfl)
  · refine And.intro (fun _ => ?_) (fun h => absurd h h1)
    refine And.intro (vp_in_nI (by omega) (by decide)) ?_
    rw [nI_clamp (n := 0) (by omega), h43, ← h2]
    exact And.intro (fun h => absurd hl (Int32.not_lt.mpr h)) (fun _ => And.intro rfl rfl)
theorem c_reads2 (hg : GoodT M) {m b : Nat} (hm : m < nMo M) (hb : b < nB M) (hf : ¬ bt (wg M 43 1 ||| wg M 43 2) (nI m) ∧ ¬ wg M 43 (3 + b) = nI 0) {mn : Int32} {cs : Nat} (hc : RdC M m b mn cs) (hl : ¬ nI 99999 < wg M 43 0 + mn) :
    Fn G 40 92 [.ref 0, .int (nI m), .int (nI b)] M (some (.int (woul M m b))) (rdC M m b mn cs) := by
  have hMo := hg.1.1.m
  have hB := hg.1.1.b
  have hMc := hg.1.m
  have rC : wg (remC M) 30 = wg M 30 := remC_o M (by omega) (by omega)
  have e8 : wg (wset (remC M) 30 b (rn0 M m b zlo (wg M 43 (3 + b)))) 30 8 = wg M 43 0 := by rw [wg_ne2 (by omega), rC, hg.1.rmin]
  have e9 : wg (wset (wset (remC M) 30 b (rn0 M m b zlo (wg M 43 (3 + b)))) 30 8 (wg M 43 0 + mn)) 30 9 = wg M 43 1 := by rw [wg_ne2 (by omega), wg_ne2 (by omega), rC, hg.1.rcar]
  have e10 : wg (wset (wset (remC M) 30 b (rn0 M m b zlo (wg M 43 (3 + b)))) 30 8 (wg M 43 0 + mn)) 30 10 = wg M 43 2 := by rw [wg_ne2 (by omega), wg_ne2 (by omega), rC, hg.1.rlos]
  refine Fn_of (d := 40) okc_X9_reads [] ?_
  refine call_k (c_isPair hg.1 _ _) ?_
  rw [bI_t ⟨ix_n hm (by omega), ix_n hb (by omega)⟩]
  refine And.intro (fun _ => ?_) (fun h => absurd h n10)
  refine call_k (c_wakesAt (d := 35) hg.1 hm hb) ?_
  refine call_k (c_isOpen _) ?_
  rw [hg.1.rcar, hg.1.rlos, bI_t ((open_or hg (by omega)).mpr hf.1)]
  refine And.intro (fun h => absurd h n10) (fun _ => ?_)
  refine And.intro (fun _ => ?_) (fun h => absurd ((woul9 hg.1.1 hm).mp h) hf.2)
  rcases hc with ⟨h1, h2, h3⟩ | ⟨h1, h2, h3⟩
  · subst h3
    refine And.intro (fun h => absurd h1 h) (fun _ => ?_)
    refine call_k (c_length hMc.1 hMc.2 hm) ?_
    rw [(hg.1.mo hm).2, ← h2]
    refine call_k (c_isTooLate _) ?_
    rw [hg.1.rmin, bI_f hl]
    refine And.intro (fun _ => ?_) (fun h => absurd rfl h)
    refine call_k (c_ndepth (by omega)) ?_
    rw [hg.1.rdep (show b < 4 by omega)]
    refine call_k (c_depthAfter (d := 34) hg.1 hm hb _ (hg.1.dn hb)) ?_
    refine call_k (c_rem (d := 38) hg.1) ?_
    refine call_k (c_setDepth (by omega) _) ?_
    refine call_k (c_pass _) ?_
    rw [e8]
    refine And.intro (fun h => absurd h1 h) (fun _ => ?_)
    refine call_k (c_decideT _ ) ?_
    rw [e9]
    exact And.intro rfl rfl
  · subst h3
    refine And.intro (fun _ => ?_) (fun h => absurd h h1)
    conv => whnf
    rw [← h2]
    refine call_k (c_isTooLate _) ?_
    rw [hg.1.rmin, bI_f hl]
    refine And.intro (fun _ => ?_) (fun h => absurd rfl h)
    refine call_k (c_ndepth (by omega)) ?_
    rw [hg.1.rdep (show b < 4 by omega)]
    refine call_k (c_depthAfter (d := 34) hg.1 hm hb _ (hg.1.dn hb)) ?_
    refine call_k (c_rem (d := 38) hg.1) ?_
    refine call_k (c_setDepth (by omega) _) ?_
    refine call_k (c_pass _) ?_
    rw [e8]
    refine And.intro (fun _ => ?_) (fun h => absurd h h1)
    refine call_k (c_decideF _ ) ?_
    rw [e10]
    exact And.intro rfl rfl
theorem m_reads2 {N : WM} (hN : GM N) {m b : Nat} (hm : m < nMo N) (hb : b < nB N) (hf : ¬ bt (wg N 43 1 ||| wg N 43 2) (nI m) ∧ ¬ wg N 43 (3 + b) = nI 0) {mn : Int32} {cs : Nat} (hc : RdC N m b mn cs) (hl : ¬ nI 99999 < wg N 43 0 + mn) :
    Fn G 40 146 [.ref 39, .int (nI m), .int (nI b)] N (some (.int (woul N m b))) (rdM N m b mn cs) := by
  have hMo := hN.m
  have hB := hN.b
  have hs := rdN_sc N m b
  have h43 : wg (rdN N m b) 43 = wg N 43 := hs.1 43 (by omega)
  have w43 : wg (remW (rdN N m b)) 43 = wg N 43 := (remW_o _ (by omega) (by omega)).trans h43
  have w32 : wg (wset (remW (rdN N m b)) 43 0 (wg N 43 0 + mn)) 39 32 = rn0 N m b zlo (wg N 43 (3 + b)) := by
    rw [wg_ne1 (by omega), remW_39 _ (by omega)]
    unfold rdN
    rw [wg_same]
  refine Fn_of (d := 40) okc_X10_reads [] ?_
  refine call_k (c_isMotion hN _) ?_
  rw [bI_t (ix_n hm (by omega))]
  refine And.intro (fun h => absurd h n10) (fun _ => ?_)
  refine call_k (c_isBaby hN _) ?_
  rw [bI_t (ix_n hb (by omega))]
  refine And.intro (fun _ => ?_) (fun h => absurd h n10)
  refine call_k (m_isDone _) ?_
  rw [bI_f hf.1]
  refine And.intro (fun h => absurd rfl h) (fun _ => ?_)
  refine And.intro (by rw [nI_add]; exact vp_in_nI (by omega) (by decide)) ?_
  rw [nI_add, nI_clamp (n := 3 + b) (by omega)]
  refine And.intro (fun _ => ?_) (fun h => absurd h hf.2)
  refine call_k (M' := rdN N m b) (m_wouldBe hN hm (by omega)) ?_
  rcases hc with ⟨h1, h2, h3⟩ | ⟨h1, h2, h3⟩
  · subst h3
    refine And.intro (fun h => absurd h1 h) (fun _ => ?_)
    refine And.intro (vp_in_nI (by omega) (by decide)) ?_
    rw [nI_clamp (n := 0) (by omega), h43, rdN_many hN hm, ← h2]
    refine And.intro (fun _ => ?_) (fun h => absurd (Int32.not_le.mp h) hl)
    refine call_k (m_remembers (d := 38) (hs.GM_ hN).k) ?_
    refine And.intro (vp_in_nI (by omega) (by decide)) ?_
    rw [nI_clamp (n := 0) (by omega), w43]
    refine And.intro (vp_in_nI (by omega) (by decide)) ?_
    rw [nI_clamp (n := 0) (by omega)]
    refine And.intro (by rw [nI_add]; exact vp_in_nI (by omega) (by decide)) ?_
    rw [nI_add, nI_clamp (n := 3 + b) (by omega), w32]
    refine And.intro (fun h => absurd h1 h) (fun _ => ?_)
    refine And.intro (vp_in_nI (by omega) (by decide)) ?_
    rw [nI_clamp (n := 1) (by omega), wg_ne2 (show 1 ≠ 3 + b by omega), wg_ne2 (show 1 ≠ 0 by omega), w43]
    refine And.intro (vp_in_nI (by omega) (by decide)) ?_
    rw [nI_clamp (n := 1) (by omega)]
    exact And.intro rfl rfl
  · subst h3
    refine And.intro (fun _ => ?_) (fun h => absurd h h1)
    refine And.intro (vp_in_nI (by omega) (by decide)) ?_
    rw [nI_clamp (n := 0) (by omega), h43, ← h2]
    refine And.intro (fun _ => ?_) (fun h => absurd (Int32.not_le.mp h) hl)
    refine call_k (m_remembers (d := 38) (hs.GM_ hN).k) ?_
    refine And.intro (vp_in_nI (by omega) (by decide)) ?_
    rw [nI_clamp (n := 0) (by omega), w43]
    refine And.intro (vp_in_nI (by omega) (by decide)) ?_
    rw [nI_clamp (n := 0) (by omega)]
    refine And.intro (by rw [nI_add]; exact vp_in_nI (by omega) (by decide)) ?_
    rw [nI_add, nI_clamp (n := 3 + b) (by omega), w32]
    refine And.intro (fun _ => ?_) (fun h => absurd h h1)
    refine And.intro (vp_in_nI (by omega) (by decide)) ?_
    rw [nI_clamp (n := 2) (by omega), wg_ne2 (show 2 ≠ 3 + b by omega), wg_ne2 (show 2 ≠ 0 by omega), w43]
    refine And.intro (vp_in_nI (by omega) (by decide)) ?_
    rw [nI_clamp (n := 2) (by omega)]
    exact And.intro rfl rfl
theorem rn_c40 {N : WM} (h : wg N 40 = wg M 40) (r : Nat → Nat) (lo : Nat → Int32) (e : Int32) : ∀ (n k : Nat) (a : Int32), rn N r lo e n k a = rn M r lo e n k a
  | 0, _, _ => rfl
  | n + 1, k, a => by
    unfold rn stp
    rw [h, rn_c40 h r lo e n (k + 1) _]
theorem pl_c40 {N : WM} (h : wg N 40 = wg M 40) (r : Nat → Nat) (lo : Nat → Int32) (e : Int32) : ∀ (n k : Nat) (a : Int32), pl N r lo e n k a = pl M r lo e n k a
  | 0, _, _ => rfl
  | n + 1, k, a => by
    unfold pl stp
    rw [h, pl_c40 h r lo e n (k + 1) _]
theorem rdC_woul (m b m' b' : Nat) (mn : Int32) (cs : Nat) : woul (rdC M m b mn cs) m' b' = woul M m' b' := by
  unfold woul
  rw [pl_c40 (N := rdC M m b mn cs) (M := M) rfl]
  rfl
theorem rdC_rn0 (m b m' b' : Nat) (mn : Int32) (cs : Nat) (lo : Nat → Int32) (a : Int32) : rn0 (rdC M m b mn cs) m' b' lo a = rn0 M m' b' lo a := by
  unfold rn0
  rw [rn_c40 (N := rdC M m b mn cs) (M := M) rfl]
  rfl
theorem s_reads (hg : GoodT M) (x y : Int32) : Same G 92 146 [.int x, .int y] M := by
  have hMo := hg.1.1.m
  have hB := hg.1.1.b
  rcases Classical.em (ix x (nMo M) ∧ ix y (nB M)) with hx | hx
  · obtain ⟨m, hm, rfl⟩ := ix_of hx.1 (by omega)
    obtain ⟨b, hb, rfl⟩ := ix_of hx.2 (by omega)
    rcases Classical.em (bt (wg M 43 1 ||| wg M 43 2) (nI m) ∨ wg M 43 (3 + b) = nI 0) with hf | hf
    · exact Same.mk (c_reads0 hg hm hb hf) (m_reads0 hg hm hb hf) hg
    · have hf' : ¬ bt (wg M 43 1 ||| wg M 43 2) (nI m) ∧ ¬ wg M 43 (3 + b) = nI 0 := ⟨fun q => hf (Or.inl q), fun q => hf (Or.inr q)⟩
      obtain ⟨mn, cs, hc⟩ := RdC_ex M m b
      have hcs : cs = 1 ∨ cs = 2 := hc.elim (fun h => Or.inl h.2.2) (fun h => Or.inr h.2.2)
      rcases Classical.em (nI 99999 < wg M 43 0 + mn) with hl | hl
      · exact Same.mk (c_reads1 hg hm hb hf' hc hl) (m_reads1 hg hm hb hf' hc hl) ((rdN_sc M m b).GoodT_ hg)
      · have c1 := c_reads2 (G := G) hg hm hb hf' hc hl
        have hGM1 : GM (rdC M m b mn cs) := hg.1.1
        have c2 := m_reads2 (G := G) (N := rdC M m b mn cs) (m := m) (b := b) (mn := mn) (cs := cs) hGM1 hm hb hf' (by unfold RdC; rw [rdC_woul]; exact hc) hl
        rw [rdC_woul] at c2
        refine Same.mk c1 c2 ?_
        obtain ⟨jd, hjd, ejd⟩ := rn0_n (M := M) (m := m) (b := b) (lo := zlo) (hg.1.dn hb)
        have rC : wg (remC M) 30 = wg M 30 := remC_o M (by omega) (by omega)
        have m1o : ∀ i, i ≠ 30 → wg (rdC M m b mn cs) i = wg (remC M) i := fun i hi => by unfold rdC; rw [wg_row_ne hi, wg_row_ne hi, wg_row_ne hi]
        have m1a : ∀ i, i ≠ 5 → i ≠ 30 → i ≠ 31 → wg (rdC M m b mn cs) i = wg M i := fun i a b c => (m1o i b).trans (remC_o M a c)
        have hs := rdN_sc (rdC M m b mn cs) m b
        have r43 : wg (remW (rdN (rdC M m b mn cs) m b)) 43 = wg M 43 := (remW_o _ (by omega) (by omega)).trans ((hs.1 43 (by omega)).trans (m1a 43 (by omega) (by omega) (by omega)))
        have e43 : wg (rdC M m b mn cs) 43 = wg M 43 := m1a 43 (by omega) (by omega) (by omega)
        have eD : rn0 (rdC M m b mn cs) m b zlo (wg (rdC M m b mn cs) 43 (3 + b)) = rn0 M m b zlo (wg M 43 (3 + b)) := by rw [rdC_rn0, e43]
        obtain ⟨jc, hjc, ejc⟩ : ∃ k, k < 32 ∧ wg M 43 cs ||| nI 1 <<< (nI m &&& 31) = nI k := by
          rcases hcs with rfl | rfl
          · rw [hg.1.1.car.1]; exact or_bit_d _ (by have := hg.1.1.car.2; omega) m (by omega)
          · rw [hg.1.1.los.1]; exact or_bit_d _ (by have := hg.1.1.los.2; omega) m (by omega)
        unfold rdM
        rw [e43, rdC_rn0, ejc, ejd]
        refine Good_both2 hg hs m1o rfl rfl (fun i a b c => by rw [wg_row_ne b, wg_row_ne b, wg_row_ne b]) (fun k _ => by rw [wg_ne1 (by omega), wg_ne1 (by omega), wg_ne1 (by omega)]) rfl (by show (remW _).2 = _; exact remW_L _) (fun k hk => ?_) (Snap_st ?_ ?_ ?_)
        · generalize remW (rdN (rdC M m b mn cs) m b) = RR at r43 ⊢
          unfold rdC
          rw [ejc, ejd]
          by_cases k1 : k = 8 + cs
          · subst k1
            rw [wg_same, show (8 + cs + 3) % 11 = cs by omega, wg_same]
          · rw [wg_ne2 k1, wg_ne2 (show (k + 3) % 11 ≠ cs by omega)]
            by_cases k2 : k = b
            · subst k2
              rw [wg_ne2 (by omega), wg_same, show (k + 3) % 11 = 3 + k by omega, wg_same]
            · rw [wg_ne2 (show (k + 3) % 11 ≠ 3 + b by omega)]
              by_cases k3 : k = 8
              · subst k3
                rw [wg_same, show (8 + 3) % 11 = 0 by omega, wg_same]
              · rw [wg_ne2 k3, wg_ne2 k2, wg_ne2 (show (k + 3) % 11 ≠ 0 by omega), rC]
                exact (hg.1.row hk).trans (congrFun r43 _).symm
        · rcases Classical.em (cs = 1) with q | q
          · subst q; exact (isN_of (n := jc) (wg_same _ _ _ _) (by omega) (by omega)).1
          · refine isN_cg ?_ hg.1.1.2.2.1.1.1
            rw [wg_ne2 (by omega), wg_ne2 (by omega), wg_ne2 (by omega), r43]
        · rcases Classical.em (cs = 2) with q | q
          · subst q; exact (isN_of (n := jc) (wg_same _ _ _ _) (by omega) (by omega)).1
          · refine isN_cg ?_ hg.1.1.2.2.1.1.2.1
            rw [wg_ne2 (by omega), wg_ne2 (by omega), wg_ne2 (by omega), r43]
        · intro c hcc
          by_cases k1 : c = b
          · subst k1
            exact (isN_of (n := jd) ((wg_ne2 (by omega)).trans (wg_same _ _ _ _)) (by omega) (by omega)).1
          · refine isN_cg (i := 43) (k := 3 + c) ?_ (hg.1.1.dep hcc)
            rw [wg_ne2 (by omega), wg_ne2 (by omega), wg_ne2 (by omega), r43]
  · have c1 : Fn G 40 92 [.ref 0, .int x, .int y] M (some (.int (mI 1))) M := by
      refine Fn_of (d := 40) okc_X9_reads [] ?_
      refine call_k (c_isPair hg.1 _ _) ?_
      rw [bI_f hx]
      refine And.intro (fun h => absurd rfl h) (fun _ => ?_)
      exact And.intro rfl rfl
    have c2 : Fn G 40 146 [.ref 39, .int x, .int y] M (some (.int (mI 1))) M := by
      refine Fn_of (d := 40) okc_X10_reads [] ?_
      refine call_k (c_isMotion hg.1.1 _) ?_
      refine And.intro (fun _ => And.intro rfl rfl) (fun h => ?_)
      rw [bI_0, Classical.not_not] at h
      refine call_k (c_isBaby hg.1.1 _) ?_
      refine And.intro (fun h1 => ?_) (fun _ => And.intro rfl rfl)
      rw [bI_0, Classical.not_not] at h1
      exact absurd ⟨h, h1⟩ hx
    exact Same.mk c1 c2 hg
end SAME
