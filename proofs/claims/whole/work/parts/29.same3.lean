-- hears, rate
section SAME
variable {G : GG} {d : Nat} {M : WM}
theorem s_hears (hg : GoodT M) (x y : Int32) : Same G 104 168 [.int x, .int y] M := by
  have hH := hg.1.1.h
  have hB := hg.1.1.b
  have hBc := hg.1.b
  have hL : wg M 10 0 = nI (nH M) := hg.1.2.2.2.2.2.2.2.2.1.1.trans hH.1
  rcases Classical.em (ix x (nB M) ∧ ix y 7) with hx | hx
  · have hy6 : y ≤ nI 6 := by
      obtain ⟨j, hj, rfl⟩ := ix_of hx.2 (by omega)
      exact nI_le (by omega) (by omega)
    rcases Nat.lt_or_ge (nH M) 6 with hn | hn
    · have c1 : Fn G 40 104 [.ref 0, .int x, .int y] M (some (.int (nI (nH M + 1)))) (wset (wset (wset M 37 (nH M) x) 38 (nH M) y) 10 0 (nI (nH M + 1))) := by
        refine Fn_of (d := 40) okc_X9_hears [] ?_
        refine call_k (c_hasBaby hBc.1 hBc.2 x) ?_
        rw [bI_t hx.1]
        refine And.intro (fun h => absurd h n10) (fun _ => ?_)
        refine And.intro (fun h => absurd h hx.2.1) (fun _ => ?_)
        refine And.intro (fun _ => ?_) (fun h => absurd hy6 h)
        refine call_k (c_adds hL hH.2 x y) ?_
        rw [bI_t hn, if_pos hn]
        refine And.intro (fun h => absurd h n10) (fun _ => ?_)
        exact And.intro rfl rfl
      have c2 : ∀ N : WM, GM N → nB N = nB M → wg N 39 11 = nI (nH M) → Fn G 40 168 [.ref 39, .int x, .int y] N (some (.int (nI (nH M + 1)))) (wset (wset (wset N 47 (2 * nH M) x) 47 (2 * nH M + 1) y) 39 11 (nI (nH M + 1))) := by
        intro N hGN hBN hN
        have e1 : wg (wset N 47 (2 * nH M) x) 39 11 = nI (nH M) := hN
        have e2 : wg (wset (wset N 47 (2 * nH M) x) 47 (2 * nH M + 1) y) 39 11 = nI (nH M) := hN
        refine Fn_of (d := 40) okc_X10_hears [] ?_
        refine call_k (c_isBaby hGN x) ?_
        rw [hBN, bI_t hx.1]
        refine And.intro (fun h => absurd h n10) (fun _ => ?_)
        refine call_k (c_in _ _ _) ?_
        rw [bI_t (show ¬ y < nI 0 ∧ y ≤ nI 6 from ⟨hx.2.1, hy6⟩)]
        refine And.intro (fun _ => ?_) (fun h => absurd h n10)
        conv => whnf
        rw [hN]
        refine And.intro (fun _ => ?_) (fun h => absurd ((nI_eq (by omega) (by omega)).mp h) (by omega))
        refine And.intro (by rw [hN, pk_mul]; exact vp_in_nI (by omega) (by decide)) ?_
        rw [hN, pk_mul, nI_clamp (n := 2 * nH M) (by omega)]
        refine And.intro (by rw [e1, pk_mul, nI_add]; exact vp_in_nI (by omega) (by decide)) ?_
        rw [e1, pk_mul, nI_add, nI_clamp (n := 2 * nH M + 1) (by omega)]
        conv => whnf
        rw [e2, nI_add, wg_same]
        exact And.intro rfl rfl
      refine Same.mk c1 (c2 _ hg.1.1 rfl hH.1) ?_
      obtain ⟨⟨⟨⟨a0, a2, a4, a8, a11, a15⟩, b, ⟨k1, k2, k3⟩, e, f⟩, ⟨r1, r2, r3, r4, r5, r6, r7, ⟨r8a, r8b⟩, r9⟩⟩, t⟩ := hg
      obtain ⟨j, hj, rfl⟩ := ix_of hx.1 (by omega)
      obtain ⟨p, hp, rfl⟩ := ix_of hx.2 (by omega)
      generalize hM2 : wset (wset (wset (wset (wset (wset M 37 (nH M) (nI j)) 38 (nH M) (nI p)) 10 0 (nI (nH M + 1))) 47 (2 * nH M) (nI j)) 47 (2 * nH M + 1) (nI p)) 39 11 (nI (nH M + 1)) = M2
      have q11 := isN_of (M := M2) (i := 39) (k := 11) (B := 6) (n := nH M + 1) (by rw [← hM2]; exact wg_same _ _ _ _) (by omega) (by omega)
      have w47 : ∀ k, k < 2 * nH M → wg M2 47 k = wg M 47 k := fun k hk => by rw [← hM2, wg_ne1 (by omega), wg_ne2 (by omega), wg_ne2 (by omega)]; rfl
      have w37 : ∀ k, k < nH M → wg M2 37 k = wg M 37 k := fun k hk => by rw [← hM2, wg_ne1 (by omega), wg_ne1 (by omega), wg_ne1 (by omega), wg_ne1 (by omega), wg_ne1 (by omega), wg_ne2 (by omega)]
      have w38 : ∀ k, k < nH M → wg M2 38 k = wg M 38 k := fun k hk => by rw [← hM2, wg_ne1 (by omega), wg_ne1 (by omega), wg_ne1 (by omega), wg_ne1 (by omega), wg_ne2 (by omega), wg_ne1 (by omega)]
      have v47 : wg M2 47 (2 * nH M) = nI j := by rw [← hM2, wg_ne1 (by omega), wg_ne2 (by omega), wg_same]
      have v48 : wg M2 47 (2 * nH M + 1) = nI p := by rw [← hM2, wg_ne1 (by omega), wg_same]
      have v37 : wg M2 37 (nH M) = nI j := by rw [← hM2, wg_ne1 (by omega), wg_ne1 (by omega), wg_ne1 (by omega), wg_ne1 (by omega), wg_ne1 (by omega), wg_same]
      have v38 : wg M2 38 (nH M) = nI p := by rw [← hM2, wg_ne1 (by omega), wg_ne1 (by omega), wg_ne1 (by omega), wg_ne1 (by omega), wg_same]
      have v3 : wg M2 10 0 = nI (nH M + 1) := by rw [← hM2]; rfl
      have v39 : wg M2 39 11 = nI (nH M + 1) := by rw [← hM2]; rfl
      have hnB : nB M2 = nB M := by rw [← hM2]; rfl
      have hf : ∀ k, k < nH M2 → isN M2 47 (2 * k) 3 ∧ cN M2 47 (2 * k) < nB M2 ∧ isN M2 47 (2 * k + 1) 6 := by
        intro k hk
        have hk : k < nH M + 1 := by rw [← q11.2]; exact hk
        rw [hnB]
        by_cases h : k = nH M
        · subst h
          have z1 := isN_of (B := 3) v47 (by omega) (by omega)
          have z2 := isN_of (B := 6) v48 (by omega) (by omega)
          exact ⟨z1.1, by rw [z1.2]; exact hj, z2.1⟩
        · have h1 := e k (by omega)
          unfold isN cN at h1 ⊢
          rw [w47 _ (by omega), w47 _ (by omega)]; exact h1
      have hr : ∀ k, k < nH M2 → wg M2 37 k = wg M2 47 (2 * k) ∧ wg M2 38 k = wg M2 47 (2 * k + 1) := by
        intro k hk
        have hk : k < nH M + 1 := by rw [← q11.2]; exact hk
        by_cases h : k = nH M
        · subst h; rw [v37, v38, v47, v48]; exact ⟨rfl, rfl⟩
        · rw [w37 k (by omega), w38 k (by omega), w47 _ (by omega), w47 _ (by omega)]; exact r8b k (by omega)
      have q11' := q11.1
      have ev := v3.trans v39.symm
      clear w47 w37 w38 v47 v48 v37 v38 v3 v39 q11 hnB
      subst hM2
      exact ⟨⟨⟨⟨a0, a2, a4, a8, q11', a15⟩, b, ⟨k1, k2, k3⟩, hf, f⟩, ⟨r1, r2, r3, r4, r5, r6, r7, ⟨ev, hr⟩, r9⟩⟩, t⟩
    · have hn6 : nH M = 6 := by omega
      have c1 : Fn G 40 104 [.ref 0, .int x, .int y] M (some (.int (mI 3))) M := by
        refine Fn_of (d := 40) okc_X9_hears [] ?_
        refine call_k (c_hasBaby hBc.1 hBc.2 x) ?_
        rw [bI_t hx.1]
        refine And.intro (fun h => absurd h n10) (fun _ => ?_)
        refine And.intro (fun h => absurd h hx.2.1) (fun _ => ?_)
        refine And.intro (fun _ => ?_) (fun h => absurd hy6 h)
        refine call_k (c_adds hL hH.2 x y) ?_
        rw [bI_f (show ¬ nH M < 6 by omega), if_neg (show ¬ nH M < 6 by omega)]
        refine And.intro (fun _ => ?_) (fun h => absurd rfl h)
        exact And.intro rfl rfl
      have c2 : Fn G 40 168 [.ref 39, .int x, .int y] M (some (.int (mI 3))) M := by
        refine Fn_of (d := 40) okc_X10_hears [] ?_
        refine call_k (c_isBaby hg.1.1 x) ?_
        rw [bI_t hx.1]
        refine And.intro (fun h => absurd h n10) (fun _ => ?_)
        refine call_k (c_in _ _ _) ?_
        rw [bI_t (show ¬ y < nI 0 ∧ y ≤ nI 6 from ⟨hx.2.1, hy6⟩)]
        refine And.intro (fun _ => ?_) (fun h => absurd h n10)
        conv => whnf
        rw [hH.1, hn6]
        refine And.intro (fun h => absurd rfl h) (fun _ => ?_)
        exact And.intro rfl rfl
      exact Same.mk c1 c2 hg
  · have c1 : Fn G 40 104 [.ref 0, .int x, .int y] M (some (.int (mI 1))) M := by
      refine Fn_of (d := 40) okc_X9_hears [] ?_
      refine call_k (c_hasBaby hBc.1 hBc.2 x) ?_
      refine And.intro (fun _ => ?_) (fun h => ?_)
      · exact And.intro rfl rfl
      · rw [bI_0, Classical.not_not] at h
        refine And.intro (fun _ => ?_) (fun h1 => ?_)
        · exact And.intro rfl rfl
        · refine And.intro (fun h2 => absurd ⟨h, (in_ix2 (n := 6) (by omega)).mp ⟨h1, h2⟩⟩ hx) (fun _ => ?_)
          exact And.intro rfl rfl
    have c2 : Fn G 40 168 [.ref 39, .int x, .int y] M (some (.int (mI 1))) M := by
      refine Fn_of (d := 40) okc_X10_hears [] ?_
      refine call_k (c_isBaby hg.1.1 x) ?_
      refine And.intro (fun _ => ?_) (fun h => ?_)
      · exact And.intro rfl rfl
      · rw [bI_0, Classical.not_not] at h
        refine call_k (c_in _ _ _) ?_
        rw [bI_iff (in_ix2 (n := 6) (by omega)), bI_f (fun q => hx ⟨h, q⟩)]
        refine And.intro (fun h => absurd rfl h) (fun _ => ?_)
        exact And.intro rfl rfl
    exact Same.mk c1 c2 hg
-- Kinds
theorem wsetL2 (M : WM) (i : Nat) (a b : Int64) : wsetL (wsetL M i a) i b = wsetL M i b := by
  refine Prod.ext rfl ?_
  funext p
  show (if p = i then b else if p = i then a else M.2 p) = if p = i then b else M.2 p
  by_cases h : p = i
  · rw [if_pos h, if_pos h]
  · rw [if_neg h, if_neg h, if_neg h]
theorem wl_same (M : WM) (i : Nat) (v : Int64) : wl (wsetL M i v) i = v := by rw [wl_setL, if_pos rfl]
theorem wsetLL (M : WM) (i : Nat) (a b c : Nat) (h : Int64.ofNat a + Int64.ofNat b = Int64.ofNat c) : wsetL (wsetL M i (wl M i + Int64.ofNat a)) i (wl (wsetL M i (wl M i + Int64.ofNat a)) i + Int64.ofNat b) = wsetL M i (wl M i + Int64.ofNat c) := by
  rw [wsetL2, wl_same, Int64.add_assoc, h]
theorem c_asBaby {b : Nat} (hb : b < 4) : Fn G (d + 2) 38 [.ref 11, .int (nI b)] M (some (.int (wg M 30 b))) (wsetL M 11 (wl M 11 + Int64.ofNat 1)) := by
  refine Fn_of okc_X3_asBaby [] ?_
  refine call_k (c_ndepth hb) ?_
  exact And.intro rfl rfl
theorem c_asColic (hG : Good M) {b : Nat} (hb : b < nB M) : Fn G (d + 3) 39 [.ref 11, .int (nI b)] M (some (.int (wg M 43 (3 + b) + wg M 42 (2 * b)))) (wsetL M 11 (wl M 11 + Int64.ofNat 11)) := by
  have hB := hG.b
  refine Fn_of okc_X3_asColic [] ?_
  refine call_k (c_asBaby (by omega)) ?_
  rw [wsetLL M 11 10 1 11 rfl]
  refine call_k (c_ears (M := wsetL M 11 (wl M 11 + Int64.ofNat 11)) (n := nB M) hB.1 hB.2 hb) ?_
  refine And.intro ?_ rfl
  rw [← hG.rdep (by omega), ← (hG.ear hb).1]; rfl
theorem c_asTwin (hG : Good M) {b : Nat} (hb : b < nB M) : Fn G (d + 3) 40 [.ref 11, .int (nI b)] M (some (.int (iteI (hun M b) (wg M 43 (3 + b) - nI 5) (wg M 43 (3 + b))))) (wsetL M 11 (wl M 11 + Int64.ofNat 101)) := by
  have hB := hG.b
  have e : ∀ v, wg (wsetL M 11 v) 30 b = wg M 43 (3 + b) := fun v => hG.rdep (by omega)
  refine Fn_of okc_X3_asTwin [] ?_
  refine call_k (c_asBaby (by omega)) ?_
  rw [wsetLL M 11 100 1 101 rfl]
  have hG2 : Good (wsetL M 11 (wl M 11 + Int64.ofNat 101)) := hG
  refine call_k (c_isHungry hG2 hb) ?_
  refine And.intro (fun h => ?_) (fun h => ?_)
  · rw [bI_0] at h
    have h : ¬ hun M b := h
    rw [iteI_f h, e]
    exact And.intro rfl rfl
  · rw [bI_0, Classical.not_not] at h
    have h : hun M b := h
    rw [iteI_t h, e]
    exact And.intro rfl rfl
theorem c_asTeeth (hG : Good M) {b : Nat} (hb : b < nB M) : Fn G (d + 4) 41 [.ref 11, .int (nI b)] M (some (.int (nI 2 * (wg M 43 (3 + b) + wg M 42 (2 * b))))) (wsetL M 11 (wl M 11 + Int64.ofNat 1011)) := by
  refine Fn_of okc_X3_asTeeth [] ?_
  have hG2 : Good (wsetL M 11 (wl M 11 + Int64.ofNat 1000)) := hG
  refine call_k (c_asColic hG2 hb) ?_
  rw [wsetLL M 11 1000 11 1011 rfl]
  exact And.intro rfl rfl
theorem c_asNurse (hG : Good M) {b : Nat} (hb : b < nB M) : Fn G (d + 4) 42 [.ref 11, .int (nI b)] M (some (.int (iteI (hun M b) (wg M 43 (3 + b) - nI 5) (wg M 43 (3 + b)) + nI b))) (wsetL M 11 (wl M 11 + Int64.ofNat 10101)) := by
  refine Fn_of okc_X3_asNurse [] ?_
  have hG2 : Good (wsetL M 11 (wl M 11 + Int64.ofNat 10000)) := hG
  refine call_k (c_asTwin hG2 hb) ?_
  rw [wsetLL M 11 10000 101 10101 rfl]
  exact And.intro rfl rfl
theorem ernd_L (M : WM) (v : Int64) (i : Nat) : ∀ (n k : Nat) (s : Int32), ernd (wsetL M i v) n k s = ernd M n k s
  | 0, _, _ => rfl
  | n + 1, k, s => by
    rw [ernd, ernd, ernd_L M v i n (k + 1)]; rfl
theorem c_asCharter (hG : Good M) {b : Nat} (hb : b < nB M) : Fn G (d + 3) 43 [.ref 11, .int (nI b)] M (some (.int (wg M 43 (3 + b) + ernd M (nMo M) 0 (nI 0)))) (wsetL M 11 (wl M 11 + Int64.ofNat 100001)) := by
  have hB := hG.b
  have e : ∀ v, wg (wsetL M 11 v) 30 b = wg M 43 (3 + b) := fun v => hG.rdep (by omega)
  refine Fn_of okc_X3_asCharter [] ?_
  refine call_k (c_asBaby (by omega)) ?_
  rw [wsetLL M 11 100000 1 100001 rfl]
  have hG2 : Good (wsetL M 11 (wl M 11 + Int64.ofNat 100001)) := hG
  refine call_k (c_earned hG2) ?_
  rw [e, ernd_L]
  exact And.intro rfl rfl
/-- what RATE is -/
noncomputable def S_rate (M : WM) (k b : Nat) : Int32 := if k = 0 then wg M 43 (3 + b) else if k = 1 then wg M 43 (3 + b) + wg M 42 (2 * b) else if k = 2 then iteI (hun M b) (wg M 43 (3 + b) - nI 5) (wg M 43 (3 + b)) else if k = 3 then nI 2 * (wg M 43 (3 + b) + wg M 42 (2 * b)) else if k = 4 then iteI (hun M b) (wg M 43 (3 + b) - nI 5) (wg M 43 (3 + b)) + nI b else wg M 43 (3 + b) + ernd M (nMo M) 0 (nI 0)
def T_rate (k : Nat) : Nat := if k = 0 then 1 else if k = 1 then 11 else if k = 2 then 101 else if k = 3 then 1011 else if k = 4 then 10101 else 100001
theorem c_rated (hG : Good M) {b k : Nat} (hb : b < nB M) (hk : k < 6) : Fn G (d + 5) 37 [.ref 11, .int (nI k), .int (nI b)] M (some (.int (S_rate M k b))) (wsetL M 11 (wl M 11 + Int64.ofNat (T_rate k))) := by
  have hB := hG.b
  refine Fn_of okc_X3_rated [] ?_
  have hno : ∀ i, i < 6 → i ≠ k → ¬ nI k = nI i := fun i hi h q => h ((nI_eq (by omega) (by omega)).mp q).symm
  refine And.intro (And.intro (fun h1 => ?_) (And.intro (fun h1 => ?_) (And.intro (fun h1 => ?_) (And.intro (fun h1 => ?_) (And.intro (fun h1 => ?_) (And.intro (fun h1 => ?_) trivial)))))) (fun h1 => ?_)
  · have h1 : nI k = nI 0 := h1
    rw [nI_eq (by omega) (by omega)] at h1
    subst h1
    refine call_k (c_asBaby (by omega)) ?_
    exact And.intro (by rw [hG.rdep (by omega)]; rfl) rfl
  · have h1 : nI k = nI 1 := h1
    rw [nI_eq (by omega) (by omega)] at h1
    subst h1
    refine call_k (c_asColic hG hb) ?_
    exact And.intro rfl rfl
  · have h1 : nI k = nI 2 := h1
    rw [nI_eq (by omega) (by omega)] at h1
    subst h1
    refine call_k (c_asTwin hG hb) ?_
    exact And.intro rfl rfl
  · have h1 : nI k = nI 3 := h1
    rw [nI_eq (by omega) (by omega)] at h1
    subst h1
    refine call_k (c_asTeeth hG hb) ?_
    exact And.intro rfl rfl
  · have h1 : nI k = nI 4 := h1
    rw [nI_eq (by omega) (by omega)] at h1
    subst h1
    refine call_k (c_asNurse hG hb) ?_
    exact And.intro rfl rfl
  · have h1 : nI k = nI 5 := h1
    rw [nI_eq (by omega) (by omega)] at h1
    subst h1
    refine call_k (c_asCharter hG hb) ?_
    exact And.intro rfl rfl
  · rw [nI_toInt (by omega)] at h1
    omega
theorem m_rateOf (hG : GM M) {b k : Nat} (hb : b < nB M) (hk : k < 6) : Fn G (d + 2) 171 [.ref 39, .int (nI k), .int (nI b)] M (some (.int (S_rate M k b))) (wsetL M 39 (wl M 39 + Int64.ofNat (T_rate k))) := by
  have hB := hG.b
  have tw : ∀ v, v = iteI (hun M b) (wg M 43 (3 + b) - nI 5) (wg M 43 (3 + b)) → A G (d + 2) 171 36 [some (.ref 39), some (.int (nI k)), some (.int (nI b)), some (.int (wg M 43 (3 + b))), some (.int (wg M 43 (3 + b) + wg M 42 (2 * b))), none] [.int v] M (fun r M2 => r = some (.int (S_rate M k b)) ∧ M2 = wsetL M 39 (wl M 39 + Int64.ofNat (T_rate k))) := by
    intro v hv
    subst hv
    refine A_wp okc_X10_rateOf [] ?_
    refine And.intro (And.intro (fun h1 => ?_) (And.intro (fun h1 => ?_) (And.intro (fun h1 => ?_) (And.intro (fun h1 => ?_) (And.intro (fun h1 => ?_) trivial))))) (fun h1 => ?_)
    · have h1 : nI k = nI 1 := h1
      rw [nI_eq (by omega) (by omega)] at h1
      subst h1
      exact And.intro rfl rfl
    · have h1 : nI k = nI 2 := h1
      rw [nI_eq (by omega) (by omega)] at h1
      subst h1
      exact And.intro rfl rfl
    · have h1 : nI k = nI 3 := h1
      rw [nI_eq (by omega) (by omega)] at h1
      subst h1
      exact And.intro rfl rfl
    · have h1 : nI k = nI 4 := h1
      rw [nI_eq (by omega) (by omega)] at h1
      subst h1
      exact And.intro rfl rfl
    · have h1 : nI k = nI 5 := h1
      rw [nI_eq (by omega) (by omega)] at h1
      subst h1
      have hG2 : GM (wsetL M 39 (wl M 39 + Int64.ofNat 100001)) := hG
      refine call_k (m_earned hG2) ?_
      rw [ernd_L]
      exact And.intro rfl rfl
    · have h0 : k = 0 := by
        rw [nI_toInt (by omega)] at h1
        omega
      subst h0
      exact And.intro rfl rfl
  refine Fn_of okc_X10_rateOf [36] ?_
  refine And.intro (by rw [nI_add]; exact vp_in_nI (by omega) (by decide)) ?_
  rw [nI_add, nI_clamp (n := 3 + b) (by omega)]
  refine And.intro (by rw [pk_mul]; exact vp_in_nI (by omega) (by decide)) ?_
  rw [pk_mul, nI_clamp (n := 2 * b) (by omega)]
  refine call_k (m_isHungry (by omega)) ?_
  refine And.intro (fun h => ?_) (fun h => ?_)
  · rw [bI_0] at h
    exact And.intro trivial (tw _ (iteI_f h).symm)
  · rw [bI_0, Classical.not_not] at h
    exact And.intro trivial (tw _ (iteI_t h).symm)
theorem S_rate_L (M : WM) (v : Int64) (i k b : Nat) : S_rate (wsetL M i v) k b = S_rate M k b := by
  unfold S_rate
  rw [ernd_L]; rfl
theorem s_rate (hg : GoodT M) (x y : Int32) : Same G 107 172 [.int x, .int y] M := by
  have hB := hg.1.1.b
  have hBc := hg.1.b
  rcases Classical.em (ix x 6 ∧ ix y (nB M)) with hx | hx
  · obtain ⟨k, hk, rfl⟩ := ix_of hx.1 (by omega)
    obtain ⟨b, hb, rfl⟩ := ix_of hx.2 (by omega)
    have c1 : Fn G 40 107 [.ref 0, .int (nI k), .int (nI b)] M (some (.int (S_rate M k b))) (wsetL M 11 (wl M 11 + Int64.ofNat (T_rate k))) := by
      refine Fn_of (d := 40) okc_X9_rate [] ?_
      refine And.intro (fun h => absurd h hx.1.1) (fun _ => ?_)
      refine And.intro (fun h => absurd h (nI_nlt (by omega) (by omega))) (fun _ => ?_)
      refine call_k (c_hasBaby hBc.1 hBc.2 _) ?_
      rw [bI_t hx.2]
      refine And.intro (fun _ => ?_) (fun h => absurd h n10)
      refine call_k (c_rated (d := 34) hg.1 hb hk) ?_
      exact And.intro rfl rfl
    have c2 : ∀ N, GM N → nB N = nB M → Fn G 40 172 [.ref 39, .int (nI k), .int (nI b)] N (some (.int (S_rate N k b))) (wsetL N 39 (wl N 39 + Int64.ofNat (T_rate k))) := by
      intro N hN hNB
      refine Fn_of (d := 40) okc_X10_rate [] ?_
      refine call_k (c_in _ _ _) ?_
      rw [bI_iff (in_ix2 (n := 5) (by omega)), bI_t hx.1]
      refine And.intro (fun h => absurd h n10) (fun _ => ?_)
      refine call_k (c_isBaby hN _) ?_
      rw [hNB, bI_t hx.2]
      refine And.intro (fun h => absurd h n10) (fun _ => ?_)
      refine call_k (m_rateOf (d := 37) hN (by rw [hNB]; exact hb) hk) ?_
      exact And.intro rfl rfl
    have c3 := c2 (wsetL M 11 (wl M 11 + Int64.ofNat (T_rate k))) hg.1.1 rfl
    rw [S_rate_L] at c3
    refine Same.mk c1 c3 ⟨hg.1, ?_⟩
    show wl M 11 + Int64.ofNat (T_rate k) = wl M 39 + Int64.ofNat (T_rate k)
    rw [hg.2]
  · have c1 : Fn G 40 107 [.ref 0, .int x, .int y] M (some (.int (mI 1000000))) M := by
      refine Fn_of (d := 40) okc_X9_rate [] ?_
      refine And.intro (fun _ => ?_) (fun h => ?_)
      · exact And.intro rfl rfl
      · refine And.intro (fun _ => ?_) (fun h1 => ?_)
        · exact And.intro rfl rfl
        · refine call_k (c_hasBaby hBc.1 hBc.2 _) ?_
          rw [bI_f (fun q => hx ⟨(in_ix2 (n := 5) (by omega)).mp ⟨h, Int32.not_lt.mp h1⟩, q⟩)]
          refine And.intro (fun h => absurd rfl h) (fun _ => ?_)
          exact And.intro rfl rfl
    have c2 : Fn G 40 172 [.ref 39, .int x, .int y] M (some (.int (mI 1000000))) M := by
      refine Fn_of (d := 40) okc_X10_rate [] ?_
      refine call_k (c_in _ _ _) ?_
      rw [bI_iff (in_ix2 (n := 5) (by omega))]
      refine And.intro (fun _ => ?_) (fun h => ?_)
      · exact And.intro rfl rfl
      · rw [bI_0, Classical.not_not] at h
        refine call_k (c_isBaby hg.1.1 _) ?_
        rw [bI_f (fun q => hx ⟨h, q⟩)]
        refine And.intro (fun _ => ?_) (fun h => absurd rfl h)
        exact And.intro rfl rfl
    exact Same.mk c1 c2 hg
end SAME
