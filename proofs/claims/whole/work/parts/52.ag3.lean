-- agenda: the reference's search
theorem rowL_o (M : WM) (m : Nat) {i : Nat} (h1 : i ≠ 39) (h2 : i ≠ 53) (h3 : i ≠ 54) : ∀ k, wg (rowL M m k) i = wg M i
  | 0 => wg_row_ne h1
  | k + 1 => (wg_row_ne h3).trans ((wg_row_ne h2).trans (rowL_o M m h1 h2 h3 k))
theorem rowL_39 (M : WM) (m : Nat) {q : Nat} (h : q ≠ 29) : ∀ k, wg (rowL M m k) 39 q = wg M 39 q
  | 0 => wg_ne2 h
  | k + 1 => (wg_ne1 (by omega)).trans ((wg_ne1 (by omega)).trans (rowL_39 M m h k))
theorem tk_pop : ∀ t, t < 32 → ∀ m, m < 5 → (nI t >>> (nI m &&& 31)) &&& nI 1 = nI 0 → pop (t ||| 2 ^ m) = pop t + 1 := by decide +kernel
theorem tk_all : ∀ t, t < 32 → pop t = 5 → ∀ m, m < 5 → ¬ (nI t >>> (nI m &&& 31)) &&& nI 1 = nI 0 := by decide +kernel
def AgI (M N : WM) (p : Nat → Nat) (c : Nat) (q : Nat → Int32) (s : BS) : Prop := Sc M N ∧ (∀ k, k < c → wg N 58 k = nI (p k)) ∧ (∀ k, k < c → wg N 59 k = q k) ∧ BsM N s
def PkOK (p : Nat → Nat) (c : Nat) : Prop := ∃ t, TkOK t p c ∧ pop t = c
theorem PkOK.up_ {p : Nat → Nat} {c m : Nat} (h : PkOK p c) (hm : m < 5) (hi : ¬ inP p c m) : PkOK (up p c m) (c + 1) := by
  obtain ⟨t, ht, hp⟩ := h
  exact ⟨t ||| 2 ^ m, ht.up_ hm, by rw [tk_pop t ht.1 m hm ((ht.2 m hm).mpr hi), hp]⟩
section AGM
variable {G : GG} {d : Nat} {M : WM}
/-- the next motion at a level: not one, or one -/
theorem ag_step (hG : GM M) {b c m : Nat} {p : Nat → Nat} {q : Nat → Int32} {dp : Int32} {s : BS} {N : WM} {P : Option Value → WM → Prop} (hb : b < 4) (hc : c ≤ 5) (hm : m < nMo M) (hp5 : ∀ k, k < c → p k < 5) (hI : AgI M N p c q s) (h58 : wg N 58 c = nI m - nI 1) (h59 : wg N 59 c = dp)
    (hskip : ¬ frA M b p c m dp → ∀ N' z, AgI M N' p c q s → wg N' 58 c = nI m → wg N' 59 c = dp → A G (d + 3) 166 33 [some (.ref 39), some (.int (nI b)), some (.int (nI c)), z] [] N' P)
    (htake : frA M b p c m dp → c < 5 → ∀ N' z, AgI M N' (up p c m) (c + 1) (fun k => if k = c then dp else q k) (lk (sumW M (up p c m) (c + 1)) (c + 1) (up p c m) s) → wg N' 58 (c + 1) = mI 1 → wg N' 59 (c + 1) = rn0 M m b zlo dp → A G (d + 3) 166 33 [some (.ref 39), some (.int (nI b)), some (.int (nI (c + 1))), z] [] N' P)
    (hfull : frA M b p c m dp → c < 5) (z : Option Value) :
    A G (d + 3) 166 33 [some (.ref 39), some (.int (nI b)), some (.int (nI c)), z] [] N P := by
  have hM := hG.m
  obtain ⟨hs, hp, hq, hbs⟩ := hI
  have hs1 : Sc M (wset N 58 c (nI m)) := hs.tr (Sc.set (Or.inl (by omega)))
  have e2 : wg N 39 2 = nI (nMo M) := hs.2.1.2.1.trans hM.1
  have hp1 : ∀ k, k < c → wg (wset N 58 c (nI m)) 58 k = nI (p k) := fun k hk => by rw [wg_ne2 (by omega)]; exact hp k hk
  have hl := hG.ln hm
  have e43a : ∀ k, wg (wset N 58 c (nI m)) 43 k = wg M 43 k := fun k => hs1.c (by omega) k
  have hin : (∃ i, i < c ∧ wg (wset N 58 c (nI m)) 58 i = nI m) ↔ inP p c m := by
    constructor
    · rintro ⟨i, hi, e⟩
      rw [hp1 i hi, nI_eq (by have := hp5 i hi; omega) (by omega)] at e
      exact ⟨i, hi, e⟩
    · rintro ⟨i, hi, e⟩
      exact ⟨i, hi, by rw [hp1 i hi, e]⟩
  refine A_wp okc_X10_findAgenda [33] ?_
  refine And.intro (fun h => absurd h (nI_nlt (by omega) (by omega))) (fun _ => ?_)
  refine And.intro (vp_in_nI (by omega) (by decide)) ?_
  rw [nI_clamp (n := c) (by omega), h58]
  refine And.intro (vp_in_nI (by omega) (by decide)) ?_
  rw [nI_clamp (n := c) (by omega), Int32.sub_add_cancel]
  refine And.intro (vp_in_nI (by omega) (by decide)) ?_
  rw [nI_clamp (n := c) (by omega), wg_same]
  conv => whnf
  rw [show wg (wset N 58 c (nI m)) 39 2 = nI (nMo M) from e2]
  refine And.intro (fun _ => ?_) (fun h => absurd (nI_lt hm (by omega)) h)
  refine call_k (m_isDone _) ?_
  rw [e43a, e43a]
  refine And.intro (fun h => ?_) (fun h => ?_)
  · rw [bI_0, Classical.not_not] at h
    exact And.intro trivial (hskip (fun z => z.1.2 h) _ _ ⟨hs1, hp1, hq, hbs⟩ (wg_same _ _ _ _) h59)
  · rw [bI_0] at h
    refine call_k (m_isIn (by omega)) ?_
    rw [bI_iff hin]
    refine And.intro (fun h1 => ?_) (fun h1 => ?_)
    · rw [bI_0, Classical.not_not] at h1
      exact And.intro trivial (hskip (fun z => z.1.1 h1) _ _ ⟨hs1, hp1, hq, hbs⟩ (wg_same _ _ _ _) h59)
    · rw [bI_0] at h1
      have hG1 := hs1.GM_ hG
      have hm1 : m < nMo (wset N 58 c (nI m)) := by rw [hs1.nMo_]; exact hm
      have hR := rowL_is hG1 hm1
      rw [hs1.len_, hs1.txtf] at hR
      have hrow := m_rowOf (G := G) (d := d + 2) hG1 hm1
      rw [hs1.len_] at hrow
      have hs2 : Sc M (rowL (wset N 58 c (nI m)) m (len M m)) := hs1.tr (rowL_sc _ _ _)
      have o58 : ∀ v, wg (wset (rowL (wset N 58 c (nI m)) m (len M m)) 39 32 v) 58 = wg (wset N 58 c (nI m)) 58 := fun v => (wg_row_ne (by omega)).trans (rowL_o _ _ (by omega) (by omega) (by omega) _)
      have o59 : ∀ v, wg (wset (rowL (wset N 58 c (nI m)) m (len M m)) 39 32 v) 59 = wg N 59 := fun v => (wg_row_ne (by omega)).trans ((rowL_o _ _ (by omega) (by omega) (by omega) _).trans (wg_row_ne (by omega)))
      have o60 : ∀ v, wg (wset (rowL (wset N 58 c (nI m)) m (len M m)) 39 32 v) 60 = wg N 60 := fun v => (wg_row_ne (by omega)).trans ((rowL_o _ _ (by omega) (by omega) (by omega) _).trans (wg_row_ne (by omega)))
      have o39 : ∀ v k, k ≠ 32 → k ≠ 29 → wg (wset (rowL (wset N 58 c (nI m)) m (len M m)) 39 32 v) 39 k = wg N 39 k := fun v k a b => (wg_ne2 a).trans ((rowL_39 _ _ b _).trans (wg_ne1 (by omega)))
      have r59 : wg (rowL (wset N 58 c (nI m)) m (len M m)) 59 c = dp := by rw [rowL_o _ _ (by omega) (by omega) (by omega), wg_ne1 (by omega)]; exact h59
      have hbs3 : ∀ v, BsM (wset (rowL (wset N 58 c (nI m)) m (len M m)) 39 32 v) s := fun v => by
        refine ⟨?_, ?_, hbs.2.2.1, fun k hk => ?_⟩
        · rw [o39 v 36 (by omega) (by omega)]; exact hbs.1
        · rw [o39 v 40 (by omega) (by omega)]; exact hbs.2.1
        · rw [o60]; exact hbs.2.2.2 k hk
      refine call_k hrow ?_
      refine And.intro (vp_in_nI (by omega) (by decide)) ?_
      rw [nI_clamp (n := c) (by omega), r59]
      refine call_k (m_eN (d := d + 1) hs2 hb) ?_
      refine call_k (m_wk hG hm hs2 hR dp) ?_
      refine And.intro (fun h2 => ?_) (fun h2 => ?_)
      · rw [c5 (by omega), Classical.not_not] at h2
        exact And.intro trivial (hskip (fun z => z.2 h2) _ _ ⟨sc32 hs2, fun k hk => by rw [o58]; exact hp1 k hk, fun k hk => by rw [o59]; exact hq k hk, hbs3 _⟩ (by rw [o58, wg_same]) (by rw [o59]; exact h59))
      · rw [c5 (by omega)] at h2
        have hf : frA M b p c m dp := ⟨⟨h1, h⟩, h2⟩
        have hc5 := hfull hf
        have hpu : ∀ k, k < c + 1 → wg (wset N 58 c (nI m)) 58 k = nI (up p c m k) := fun k hk => by
          by_cases e : k = c
          · rw [e, wg_same, up_t]
          · rw [up_f _ _ e]; exact hp1 k (by omega)
        have hlk := m_looksAt (G := G) (d := d + 2) (M := M) (N := wset (rowL (wset N 58 c (nI m)) m (len M m)) 39 32 (rn0 M m b zlo dp)) (p := up p c m) (n := c + 1) (s := s) (by omega) ((sc32 hs2).1 41 (by omega)) (fun k hk => by
          by_cases e : k = c
          · rw [e, up_t]; omega
          · rw [up_f _ _ e]; exact hp5 k (by omega)) (fun k hk => by rw [o58]; exact hpu k hk) (hbs3 _)
        rw [← nI_add c 1] at hlk
        refine call_r hlk ?_
        rintro r N4 ⟨rfl, hF, hbs4⟩
        have hs4 := (sc32 (v := rn0 M m b zlo dp) hs2).tr hF.sc
        conv => whnf
        rw [nI_add c 1]
        refine And.intro (vp_in_nI (by omega) (by decide)) ?_
        rw [nI_clamp (n := c + 1) (by omega), hF.2.1 32 (by omega) (by omega), wg_same]
        refine And.intro (vp_in_nI (by omega) (by decide)) ?_
        rw [nI_clamp (n := c + 1) (by omega)]
        refine And.intro trivial ?_
        refine htake hf hc5 _ _ ⟨(hs4.tr (Sc.set (Or.inl (by omega)))).tr (Sc.set (Or.inl (by omega))), fun k hk => ?_, fun k hk => ?_, ?_⟩ (wg_same _ _ _ _) ?_
        · rw [wg_ne2 (by omega), wg_ne1 (by omega), hF.1 58 (by omega) (by omega), o58]
          exact hpu k hk
        · rw [wg_ne1 (by omega), wg_ne2 (by omega), hF.1 59 (by omega) (by omega), o59]
          show _ = if k = c then dp else q k
          by_cases e : k = c
          · rw [if_pos e, e]; exact h59
          · rw [if_neg e]; exact hq k (by omega)
        · exact hbs4
        · rw [wg_ne1 (by omega), wg_same]
set_option maxHeartbeats 400000 in
theorem ag_end (hG : GM M) {b c m : Nat} {p : Nat → Nat} {q : Nat → Int32} {s : BS} {N : WM} {P : Option Value → WM → Prop} (hc : c ≤ 5) (hm : m = nMo M) (hI : AgI M N p c q s) (h58 : wg N 58 c = nI m - nI 1)
    (K : ∀ N' z, AgI M N' p c q s → A G (d + 3) 166 33 [some (.ref 39), some (.int (nI b)), some (.int (nI c - nI 1)), z] [] N' P) (z : Option Value) :
    A G (d + 3) 166 33 [some (.ref 39), some (.int (nI b)), some (.int (nI c)), z] [] N P := by
  have hM := hG.m
  obtain ⟨hs, hp, hq, hbs⟩ := hI
  have e2 : wg N 39 2 = nI (nMo M) := hs.2.1.2.1.trans hM.1
  refine A_wp okc_X10_findAgenda [33] ?_
  refine And.intro (fun h => absurd h (nI_nlt (by omega) (by omega))) (fun _ => ?_)
  refine And.intro (vp_in_nI (by omega) (by decide)) ?_
  rw [nI_clamp (n := c) (by omega), h58]
  refine And.intro (vp_in_nI (by omega) (by decide)) ?_
  rw [nI_clamp (n := c) (by omega), Int32.sub_add_cancel]
  refine And.intro (vp_in_nI (by omega) (by decide)) ?_
  rw [nI_clamp (n := c) (by omega), wg_same]
  conv => whnf
  rw [show wg (wset N 58 c (nI m)) 39 2 = nI (nMo M) from e2]
  refine And.intro (fun h => absurd h (nI_nlt (by omega) (by omega))) (fun _ => ?_)
  exact And.intro trivial (K _ _ ⟨hs.tr (Sc.set (Or.inl (by omega))), fun k hk => by rw [wg_ne2 (by omega)]; exact hp k hk, hq, hbs⟩)
set_option maxHeartbeats 400000 in
theorem lp_agL (hG : GM M) {b c f : Nat} {p : Nat → Nat} {q : Nat → Int32} {dp w : Int32} {P : Option Value → WM → Prop} (hb : b < 4) (hcf : c + (f + 1) = 5) (hp5 : ∀ k, k < c → p k < 5) (hw : w = sumW M p c) (hdp : ∃ j, j ≤ 9 ∧ dp = nI j) (hpk : PkOK p c)
    (hrec : ∀ (p' : Nat → Nat) (q' : Nat → Int32) (dp' : Int32) (s : BS) (N : WM) (z : Option Value), (∀ k, k < c + 1 → p' k < 5) → (∃ j, j ≤ 9 ∧ dp' = nI j) → PkOK p' (c + 1) → AgI M N p' (c + 1) q' s → wg N 58 (c + 1) = mI 1 → wg N 59 (c + 1) = dp' →
      (∀ N' z, AgI M N' p' (c + 1) q' (agN M b f (c + 1) p' dp' (sumW M p' (c + 1)) s) → A G (d + 3) 166 33 [some (.ref 39), some (.int (nI b)), some (.int (nI (c + 1) - nI 1)), z] [] N' P) →
      A G (d + 3) 166 33 [some (.ref 39), some (.int (nI b)), some (.int (nI (c + 1))), z] [] N P) :
    ∀ (u m : Nat) (N : WM) (s : BS) (z : Option Value), m + u = nMo M → AgI M N p c q s → wg N 58 c = nI m - nI 1 → wg N 59 c = dp →
      (∀ N' z, AgI M N' p c q (itr (agG M b f c p dp w) u m s) → A G (d + 3) 166 33 [some (.ref 39), some (.int (nI b)), some (.int (nI c - nI 1)), z] [] N' P) →
      A G (d + 3) 166 33 [some (.ref 39), some (.int (nI b)), some (.int (nI c)), z] [] N P
  | 0, m, N, s, z, hm, hI, h58, h59, K => ag_end hG (by omega) hm hI h58 K z
  | u + 1, m, N, s, z, hm, hI, h58, h59, K => by
    have hM := hG.m
    have em : nI m = nI (m + 1) - nI 1 := (nIs (a := m + 1) (b := 1) (by omega)).symm
    refine ag_step hG hb (by omega) (show m < nMo M by omega) hp5 hI h58 h59 (fun hf N' z hI' a1 a2 => ?_) (fun hf hc5 N' z hI' a1 a2 => ?_) (fun _ => by omega) z
    · refine lp_agL hG hb hcf hp5 hw hdp hpk hrec u (m + 1) N' s z (by omega) hI' (a1.trans em) a2 (fun N2 z2 h2 => K N2 z2 ?_)
      show AgI M N2 p c q (itr (agG M b f c p dp w) u (m + 1) (agG M b f c p dp w m s))
      rw [agG_f hf]
      exact h2
    · refine hrec (up p c m) _ (rn0 M m b zlo dp) _ N' z (fun k hk => ?_) (rn0_n hdp) (hpk.up_ (by omega) hf.1.1) hI' a1 a2 (fun N2 z2 h2 => ?_)
      · by_cases e : k = c
        · rw [e, up_t]; omega
        · rw [up_f _ _ e]; exact hp5 k (by omega)
      · rw [nIs (show 1 ≤ c + 1 by omega), Nat.add_sub_cancel]
        obtain ⟨b1, b2, b3, b4⟩ := h2
        have es : sumW M (up p c m) (c + 1) = w + wg M 41 (8 * m) := by
          show sumW M (up p c m) c + wg M 41 (8 * up p c m c) = w + wg M 41 (8 * m)
          rw [up_t, sumW_cg (p' := p) c (fun k hk => up_f _ _ (by omega)), hw]
        refine lp_agL (q := q) hG hb hcf hp5 hw hdp hpk hrec u (m + 1) N2 _ z2 (by omega) ⟨b1, fun k hk => by rw [b2 k (by omega), up_f _ _ (by omega)], fun k hk => by
          rw [b3 k (by omega)]
          show (if k = c then dp else q k) = q k
          rw [if_neg (by omega)], b4⟩ (by rw [b2 c (by omega), up_t]; exact em) (by
          rw [b3 c (by omega)]
          show (if c = c then dp else q c) = dp
          rw [if_pos rfl]) (fun N3 z3 h3 => K N3 z3 ?_)
        show AgI M N3 p c q (itr (agG M b f c p dp w) u (m + 1) (agG M b f c p dp w m s))
        rw [agG_t hf, ← es]
        exact h3
theorem lp_ag5 (hG : GM M) {b : Nat} {p : Nat → Nat} {q : Nat → Int32} {dp : Int32} {s : BS} {P : Option Value → WM → Prop} (hb : b < 4) (hp5 : ∀ k, k < 5 → p k < 5) (hpk : PkOK p 5) :
    ∀ (u m : Nat) (N : WM) (z : Option Value), m + u = nMo M → AgI M N p 5 q s → wg N 58 5 = nI m - nI 1 → wg N 59 5 = dp →
      (∀ N' z, AgI M N' p 5 q s → A G (d + 3) 166 33 [some (.ref 39), some (.int (nI b)), some (.int (nI 5 - nI 1)), z] [] N' P) →
      A G (d + 3) 166 33 [some (.ref 39), some (.int (nI b)), some (.int (nI 5)), z] [] N P
  | 0, m, N, z, hm, hI, h58, h59, K => ag_end hG (by omega) hm hI h58 K z
  | u + 1, m, N, z, hm, hI, h58, h59, K => by
    have hM := hG.m
    have em : nI m = nI (m + 1) - nI 1 := (nIs (a := m + 1) (b := 1) (by omega)).symm
    have hno : ¬ frA M b p 5 m dp := fun hf => by
      obtain ⟨t, ht, hp⟩ := hpk
      exact tk_all t ht.1 hp m (by omega) ((ht.2 m (by omega)).mpr hf.1.1)
    exact ag_step hG hb (by omega) (show m < nMo M by omega) hp5 hI h58 h59 (fun hf N' z hI' a1 a2 => lp_ag5 hG hb hp5 hpk u (m + 1) N' z (by omega) hI' (a1.trans em) a2 K) (fun hf => absurd hf hno) (fun hf => absurd hf hno) z
theorem lp_agF (hG : GM M) {b : Nat} {P : Option Value → WM → Prop} (hb : b < 4) : ∀ (f c : Nat) (p : Nat → Nat) (q : Nat → Int32) (dp : Int32) (s : BS) (N : WM) (z : Option Value), c + f = 5 → (∀ k, k < c → p k < 5) → (∃ j, j ≤ 9 ∧ dp = nI j) → PkOK p c → AgI M N p c q s → wg N 58 c = mI 1 → wg N 59 c = dp →
      (∀ N' z, AgI M N' p c q (agN M b f c p dp (sumW M p c) s) → A G (d + 3) 166 33 [some (.ref 39), some (.int (nI b)), some (.int (nI c - nI 1)), z] [] N' P) →
      A G (d + 3) 166 33 [some (.ref 39), some (.int (nI b)), some (.int (nI c)), z] [] N P := by
  intro f
  induction f with
  | zero =>
    intro c p q dp s N z hcf hp5 hdp hpk hI h58 h59 K
    obtain rfl : c = 5 := by omega
    exact lp_ag5 hG hb hp5 hpk (nMo M) 0 N z (by omega) hI h58 h59 K
  | succ f IH =>
    intro c p q dp s N z hcf hp5 hdp hpk hI h58 h59 K
    exact lp_agL hG hb hcf hp5 rfl hdp hpk (fun p' q' dp' s' N' z' a1 a2 a3 a4 a5 a6 a7 => IH (c + 1) p' q' dp' s' N' z' (by omega) a1 a2 a3 a4 a5 a6 a7) (nMo M) 0 N s z (by omega) hI h58 h59 (fun N' z' h => K N' z' (by rw [agN_s]; exact h))
theorem m_findAgenda (hG : GM M) {b : Nat} (hb : b < 4) : Fr G (d + 3) 166 [.ref 39, .int (nI b)] M (fun q N => q = none ∧ Sc M N ∧ BsM N (agS M b)) := by
  have hd : ∃ j, j ≤ 9 ∧ wg M 43 (3 + b) = nI j := ⟨_, (hG.dep hb).2, (hG.dep hb).1⟩
  refine Fr_of okc_X10_findAgenda [33] ?_
  refine And.intro (vp_in_nI (by omega) (by decide)) ?_
  refine And.intro (by rw [nI_add]; exact vp_in_nI (by omega) (by decide)) ?_
  rw [nI_add, nI_clamp (n := 3 + b) (by omega), nI_clamp (n := 0) (by omega)]
  refine And.intro (vp_in_nI (by omega) (by decide)) ?_
  refine And.intro trivial ?_
  refine lp_agF hG hb 5 0 (fun _ => 0) (fun _ => nI 0) (wg M 43 (3 + b)) (nI 0, 0, fun _ => 0) _ none (by omega) (fun k hk => by omega) hd ⟨0, ⟨by omega, fun m hm => ⟨fun _ q => by obtain ⟨k, hk, _⟩ := q; omega, fun _ => tk_0 m hm⟩⟩, rfl⟩ ⟨?_, fun k hk => by omega, fun k hk => by omega, rfl, rfl, Nat.zero_le 5, fun k hk => absurd hk (Nat.not_lt_zero k)⟩ rfl rfl (fun N' z h => ?_)
  · exact ((((Sc.rf M).tr (Sc.set (Or.inr ⟨rfl, by omega⟩))).tr (Sc.set (Or.inr ⟨rfl, by omega⟩))).tr (Sc.set (Or.inl (by omega)))).tr (Sc.set (Or.inl (by omega)))
  · refine A_wp okc_X10_findAgenda [33] ?_
    refine And.intro (fun _ => ?_) (fun h => absurd (by decide) h)
    exact ⟨rfl, h.1, h.2.2.2⟩
set_option maxHeartbeats 400000 in
theorem m_agenda (hG : GM M) (x y : Int32) : Fr G (d + 4) 167 [.ref 39, .int x, .int y] M (AnsS M (R_agenda M x y)) := by
  have hB := hG.b
  refine Fr_of okc_X10_agenda [] ?_
  refine call_k (c_isBaby hG x) ?_
  refine And.intro (fun h => ?_) (fun h => ?_)
  · rw [bI_0] at h
    exact AnsS.rf (iteI_f (fun q => h q.1)).symm
  rw [bI_0, Classical.not_not] at h
  refine And.intro (fun h1 => ?_) (fun h1 => ?_)
  · unfold R_agenda
    rw [iteI_t ⟨h, h1⟩]
    obtain ⟨b, hb, rfl⟩ := ix_of h (by omega)
    rw [nI_clamp (n := b) (by omega)]
    unfold S_agenda
    refine call_r (m_findAgenda hG (by omega)) ?_
    rintro r N ⟨rfl, hs, hbs⟩
    refine And.intro (fun h2 => ?_) (fun h2 => ?_)
    · have h2 : ¬ y < nI 0 := Int32.not_lt.mpr h2
      rw [iteI_f (fun q => h2 (by rw [q]; decide))]
      obtain ⟨k, hk, rfl⟩ := nI_of h2
      have h5 := hbs.2.2.1
      conv => whnf
      rw [hbs.2.1]
      refine And.intro (fun h3 => ?_) (fun h3 => ?_)
      · exact AnsS.eq (iteI_f (Int32.not_lt.mpr h3)).symm hs
      · have h3 := Int32.not_le.mp h3
        rw [iteI_t h3, nI_clamp hk]
        rw [nI_ltI hk (by omega)] at h3
        refine And.intro (vp_in_nI (by omega) (by decide)) ?_
        rw [nI_clamp hk]
        exact AnsS.eq (hbs.2.2.2 k h3) hs
    · have h2 : y < nI 0 := Int32.not_le.mp h2
      rw [iteI_t (Classical.byContradiction (fun q => ge_m1 h1 q h2))]
      exact AnsS.eq hbs.1 hs
  · exact AnsS.rf (iteI_f (fun q => h1 q.2)).symm
theorem Cs.frA_ {N : WM} (hc : Cs M N) (b : Nat) (p : Nat → Nat) (c m : Nat) (dp : Int32) : frA N b p c m dp = frA M b p c m dp := by
  unfold frA
  rw [hc.rn0_, hc.c (i := 43) rfl, hc.c (i := 43) rfl]
theorem Cs.agN_ {N : WM} (hc : Cs M N) (b : Nat) : ∀ f, agN N b f = agN M b f
  | 0 => rfl
  | f + 1 => by
    funext c p dp w s
    rw [agN_s, agN_s, hc.nMo_]
    have e : agG N b f c p dp w = agG M b f c p dp w := by
      funext m s
      rcases Classical.em (frA M b p c m dp) with h | h
      · rw [agG_t h, agG_t (by rw [hc.frA_]; exact h), hc.rn0_, hc.c (i := 41) rfl, Cs.agN_ hc b f]
      · rw [agG_f h, agG_f (by rw [hc.frA_]; exact h)]
    rw [e]
theorem Cs.R_a {N : WM} (hc : Cs M N) (x y : Int32) : R_agenda N x y = R_agenda M x y := by
  unfold R_agenda S_agenda agS
  simp only [hc.nB_, hc.agN_, hc.c (i := 43) rfl]
theorem s_agenda (hg : GoodT M) (x y : Int32) : Same G 103 167 [.int x, .int y] M :=
  Same.cs hg (c_agenda (d := 26) hg.1 x y) (fun M1 hc => by
    have h := m_agenda (G := G) (d := 36) (hc.Good_ hg.1).1 x y
    rw [hc.R_a] at h
    exact h)
end AGM
