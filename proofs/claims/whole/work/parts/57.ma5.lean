-- match: the reference's call
def dg (B : Nat) : Nat → Nat → Nat → Nat
  | 0, _, _ => 0
  | c + 1, k, i => if i = c then k % B else dg B c (k / B) i
theorem dg_hv {B : Nat} (hB : 1 ≤ B) : ∀ c k, k < B ^ c → hv B (dg B c k) c = k
  | 0, k, h => by
    show 0 = k
    rw [Nat.pow_zero] at h
    omega
  | c + 1, k, h => by
    show hv B (dg B (c + 1) k) c * B + dg B (c + 1) k c = k
    have e1 : dg B (c + 1) k c = k % B := if_pos rfl
    have e2 : hv B (dg B (c + 1) k) c = hv B (dg B c (k / B)) c := hv_cg c (fun i hi => if_neg (by omega))
    rw [e1, e2, dg_hv hB c (k / B) (by rw [Nat.pow_succ] at h; exact (Nat.div_lt_iff_lt_mul hB).mpr h), Nat.mul_comm]
    exact Nat.div_add_mod k B
theorem dg_lt {B : Nat} (hB : 1 ≤ B) : ∀ c k i, dg B c k i < B
  | 0, _, _ => hB
  | c + 1, k, i => by
    show (if i = c then k % B else dg B c (k / B) i) < B
    by_cases e : i = c
    · rw [if_pos e]; exact Nat.mod_lt _ hB
    · rw [if_neg e]; exact dg_lt hB c (k / B) i
def D56 (N N2 : WM) : Prop := (∀ i, i ≠ 56 → wg N2 i = wg N i) ∧ N2.2 = N.2
theorem D56.sc {N N2 : WM} (h : D56 N N2) : Sc N N2 := ⟨fun i hi => h.1 i (by omega), ⟨by rw [h.1 39 (by omega)], by rw [h.1 39 (by omega)], by rw [h.1 39 (by omega)], by rw [h.1 39 (by omega)], by rw [h.1 39 (by omega)], by rw [h.1 39 (by omega)]⟩, h.2⟩
def RB (M N : WM) (T : Nat) : Prop := Bs1 (fun h => Vv M h (nMo M)) (fun g => wV M g (nMo M)) (fun g => hv (nB M + 1) g (nMo M)) (fun g => hv (nB M + 1) g (nMo M)) T (wg N 39 36) (fun g => ∀ i, i < nMo M → wg N 57 i = nI (g i))
def cpW (N : WM) : Nat → WM
  | 0 => N
  | k + 1 => wset (cpW N k) 57 k (wg N 56 k)
theorem cpW_o (N : WM) {i : Nat} (hi : i ≠ 57) : ∀ k, wg (cpW N k) i = wg N i
  | 0 => rfl
  | k + 1 => (wg_row_ne hi).trans (cpW_o N hi k)
theorem cpW_v (N : WM) : ∀ n k, k < n → wg (cpW N n) 57 k = wg N 56 k
  | 0, k, h => absurd h (by omega)
  | n + 1, k, h => by
    show wg (wset (cpW N n) 57 n (wg N 56 n)) 57 k = wg N 56 k
    by_cases e : k = n
    · rw [e, wg_same]
    · rw [wg_ne2 e]; exact cpW_v N n k (by omega)
theorem cpW_sc (N : WM) : ∀ k, Sc N (cpW N k)
  | 0 => Sc.rf N
  | k + 1 => (cpW_sc N k).tr (Sc.set (Or.inl (by omega)))
def FmM (M : WM) : Option Value → WM → Prop := fun q N => q = none ∧ Sc M N ∧ ∃ g, BestR M g ∧ wg N 39 36 = nI (wS M g (nMo M)) ∧ ∀ i, i < nMo M → wg N 57 i = nI (g i)
section MAM
variable {G : GG} {d : Nat} {M : WM}
set_option maxHeartbeats 400000 in
theorem lp_53 (hG : GM M) {g : Nat → Nat} {x1 x2 : Int32} (P : Option Value → WM → Prop) : ∀ (c L : Nat) (N : WM) (z5 : Option Value), c ≤ nMo M → L < 2 ^ 31 → Sc M N → (∀ i, c ≤ i → i < nMo M → wg N 56 i = nI (g i)) → (∀ i, i < c → g i = dg (nB M + 1) c L i) →
    (∀ (N2 : WM) (z : Option Value), D56 N N2 → (∀ i, i < nMo M → wg N2 56 i = nI (g i)) → A G d 162 88 [some (.ref 39), some (.int x1), some (.int x2), z, some (.int (nI 0 - nI 1)), z5] [] N2 P) →
    A G d 162 53 [some (.ref 39), some (.int x1), some (.int x2), some (.int (nI L)), some (.int (nI c - nI 1)), z5] [] N P
  | 0, L, N, z5, hc, hL, hs, h1, h2, K => by
    refine A_wp okc_X10_findMatch [53, 88] ?_
    refine And.intro (fun _ => ?_) (fun h => absurd (by decide) h)
    exact And.intro trivial (K N _ ⟨fun _ _ => rfl, rfl⟩ (fun i hi => h1 i (by omega) hi))
  | c + 1, L, N, z5, hc, hL, hs, h1, h2, K => by
    have hB := hG.b
    have hM := hG.m
    have e : nI (c + 1) - nI 1 = nI c := nIs (by omega)
    have e4 : wg N 39 4 = nI (nB M) := hs.2.1.2.2.1.trans hB.1
    have hne : ¬ nI (nB M + 1) = 0 := nI_ne0 (by omega) (by omega)
    rw [e]
    refine A_wp okc_X10_findMatch [53, 88] ?_
    refine And.intro (fun h => absurd h (nI_nlt (Nat.zero_le _) (by omega))) (fun _ => ?_)
    conv => whnf
    rw [e4, nI_add]
    refine And.intro hne ?_
    refine And.intro (vp_in_nI (by omega) (by decide)) ?_
    rw [nI_clamp (n := c) (by omega), nIr hL (by omega)]
    have e4' : wg (wset N 56 c (nI (L % (nB M + 1)))) 39 4 = nI (nB M) := e4
    conv => whnf
    rw [e4', nI_add]
    refine And.intro hne ?_
    rw [nId hL (by omega)]
    have gc : g c = L % (nB M + 1) := (h2 c (by omega)).trans (if_pos rfl)
    refine And.intro trivial ?_
    exact lp_53 hG P c (L / (nB M + 1)) (wset N 56 c (nI (L % (nB M + 1)))) z5 (by omega) (Nat.lt_of_le_of_lt (Nat.div_le_self _ _) hL) (hs.tr (Sc.set (Or.inl (by omega)))) (fun i a b => by
      by_cases q : i = c
      · rw [q, wg_same, gc]
      · rw [wg_ne2 q]; exact h1 i (by omega) b) (fun i hi => (h2 i (by omega)).trans (if_neg (by omega))) (fun N2 z hD hg => K N2 z ⟨fun i hi => (hD.1 i hi).trans (wg_row_ne hi), hD.2⟩ hg)
set_option maxHeartbeats 200000 in
theorem lp_112 (hG : GM M) {N : WM} {x1 x2 : Int32} {z3 z4 : Option Value} (hs : Sc M N) (P : Option Value → WM → Prop) (K : ∀ z, A G d 162 141 [some (.ref 39), some (.int x1), some (.int x2), z3, z4, z] [] (cpW N (nMo M)) P) : ∀ (u k : Nat), k + u = nMo M →
    A G d 162 112 [some (.ref 39), some (.int x1), some (.int x2), z3, z4, some (.int (nI k))] [] (cpW N k) P
  | 0, k, hk => by
    have hM := hG.m
    have e2 : wg (cpW N k) 39 2 = nI (nMo M) := by rw [cpW_o N (by omega)]; exact hs.2.1.2.1.trans hM.1
    refine A_wp okc_X10_findMatch [112, 141] ?_
    conv => whnf
    rw [e2]
    refine And.intro (fun _ => ?_) (fun h => absurd (nI_le (by omega) (by omega)) h)
    rw [show k = nMo M by omega]
    exact And.intro trivial (K _)
  | u + 1, k, hk => by
    have hM := hG.m
    have e2 : wg (cpW N k) 39 2 = nI (nMo M) := by rw [cpW_o N (by omega)]; exact hs.2.1.2.1.trans hM.1
    have ih := lp_112 hG hs P K u (k + 1) (by omega)
    rw [← nI_add k 1] at ih
    refine A_wp okc_X10_findMatch [112, 141] ?_
    conv => whnf
    rw [e2]
    refine And.intro (fun h => absurd h (nI_ge (by omega) (by omega))) (fun _ => ?_)
    refine And.intro (vp_in_nI (by omega) (by decide)) ?_
    rw [nI_clamp (n := k) (by omega), cpW_o N (show 56 ≠ 57 by omega) k]
    refine And.intro (vp_in_nI (by omega) (by decide)) ?_
    rw [nI_clamp (n := k) (by omega)]
    exact And.intro trivial ih
theorem RB.fin {N : WM} (h : RB M N ((nB M + 1) ^ nMo M)) : ∃ g, BestR M g ∧ wg N 39 36 = nI (wS M g (nMo M)) ∧ ∀ i, i < nMo M → wg N 57 i = nI (g i) := by
  have hlt : ∀ (g : Nat → Nat) n, (∀ i, i < n → g i < nB M + 1) → hv (nB M + 1) g n < (nB M + 1) ^ n := by
    intro g n
    induction n with
    | zero => exact fun _ => Nat.zero_lt_one
    | succ n ih =>
      intro q
      rw [Nat.pow_succ]
      exact (hv_lt (q n (by omega))).mpr (ih (fun i hi => q i (by omega)))
  rcases h with ⟨_, c⟩ | ⟨g, a, r, vg, _, e⟩
  · exact absurd (hlt (fun _ => 0) _ (fun _ _ => by omega)) (c (fun _ => 0) (fun i _ => ⟨Nat.zero_le _, fun q => absurd rfl q⟩))
  · have hb : BestV M g := ⟨vg, fun h v => e h v (hlt h _ v.lt)⟩
    exact ⟨g, hb.R.1, by rw [a]; show nI (wV M g (nMo M)) = _; rw [hb.R.2], r⟩
set_option maxHeartbeats 400000 in
theorem lp_38 (hG : GM M) : ∀ (u k : Nat) (N : WM) (z3 z4 z5 : Option Value), k + u = (nB M + 1) ^ nMo M → Sc M N → WtOK M N → RB M N k →
    A G (d + 2) 162 38 [some (.ref 39), some (.int (nI ((nB M + 1) ^ nMo M))), some (.int (nI k)), z3, z4, z5] [] N (FmM M)
  | 0, k, N, z3, z4, z5, hk, hs, hwt, hrb => by
    have hB := hG.b
    have hM := hG.m
    have hp := pw_d (nB M) (by omega) (nMo M) (by omega)
    refine A_wp okc_X10_findMatch [38] ?_
    refine And.intro (fun _ => ?_) (fun h => absurd (nI_le (by omega) (by omega)) h)
    rw [show k = (nB M + 1) ^ nMo M by omega] at hrb
    exact ⟨rfl, hs, RB.fin hrb⟩
  | u + 1, k, N, z3, z4, z5, hk, hs, hwt, hrb => by
    have hB := hG.b
    have hM := hG.m
    have hp := pw_d (nB M) (by omega) (nMo M) (by omega)
    have e2 : wg N 39 2 = nI (nMo M) := hs.2.1.2.1.trans hM.1
    have hgk := dg_hv (B := nB M + 1) (by omega) (nMo M) k (by omega)
    have hgl : ∀ i, i < nMo M → dg (nB M + 1) (nMo M) k i < nB M + 1 := fun i _ => dg_lt (by omega) _ _ _
    have hbd : ∀ h, Vv M h (nMo M) → wV M h (nMo M) < 2 ^ 31 := fun h _ => by have := wV_le hG h (nMo M) (Nat.le_refl _); omega
    have next : ∀ (N2 : WM) (z3 z4 z5 : Option Value), Sc M N2 → WtOK M N2 → RB M N2 (k + 1) → A G (d + 2) 162 141 [some (.ref 39), some (.int (nI ((nB M + 1) ^ nMo M))), some (.int (nI k)), z3, z4, z5] [] N2 (FmM M) := by
      intro N2 z3 z4 z5 a1 a2 a3
      have ih := lp_38 hG u (k + 1) N2 z3 z4 z5 (by omega) a1 a2 a3
      rw [← nI_add k 1] at ih
      refine A_wp okc_X10_findMatch [38] ?_
      exact And.intro trivial ih
    refine A_wp okc_X10_findMatch [38, 53] ?_
    refine And.intro (fun h => absurd h (nI_ge (by omega) (by omega))) (fun _ => ?_)
    conv => whnf
    rw [e2]
    refine And.intro trivial ?_
    refine lp_53 hG (g := dg (nB M + 1) (nMo M) k) _ (nMo M) k N z5 (Nat.le_refl _) (by omega) hs (fun i a b => by omega) (fun _ _ => rfl) (fun N2 z hD hg => ?_)
    have hs2 := hs.tr hD.sc
    have hwt2 : WtOK M N2 := fun i j a b => by rw [hD.1 55 (by omega)]; exact hwt i j a b
    have e36 : wg N2 39 36 = wg N 39 36 := by rw [hD.1 39 (by omega)]
    have hrb2 : RB M N2 k := by
      unfold RB
      rw [e36, show wg N2 57 = wg N 57 from hD.1 57 (by omega)]
      exact hrb
    refine A_wp okc_X10_findMatch [112, 141] ?_
    refine call_k (m_worthOf hG hs2 hwt2 (fun i hi => ⟨hg i hi, by have := hgl i hi; omega⟩)) ?_
    rcases Classical.em (Vv M (dg (nB M + 1) (nMo M) k) (nMo M)) with hV | hV
    · have hu : ∀ h, Vv M h (nMo M) → hv (nB M + 1) h (nMo M) = k → wV M h (nMo M) = wV M (dg (nB M + 1) (nMo M) k) (nMo M) := fun h v e => wV_cg _ (hv_inj _ v.lt hgl (e.trans hgk.symm))
      rw [iteI_t hV]
      refine And.intro (fun h => ?_) (fun h => ?_)
      · exact And.intro trivial (next N2 _ _ _ hs2 hwt2 (Bs1.old hrb2 hV hgk hu hbd (Int32.not_lt.mpr h)))
      · refine And.intro trivial ?_
        refine lp_112 hG (N := wset N2 39 36 (nI (wV M (dg (nB M + 1) (nMo M) k) (nMo M)))) (hs2.tr (Sc.set (Or.inr ⟨rfl, by omega⟩))) _ (fun z => ?_) (nMo M) 0 (by omega)
        refine next _ _ _ _ ((hs2.tr (Sc.set (Or.inr ⟨rfl, by omega⟩))).tr (cpW_sc _ _)) (fun i j a b => by rw [cpW_o _ (by omega)]; exact hwt2 i j a b) ?_
        have hn := Bs1.new (R' := fun g => ∀ i, i < nMo M → wg (cpW (wset N2 39 36 (nI (wV M (dg (nB M + 1) (nMo M) k) (nMo M)))) (nMo M)) 57 i = nI (g i)) hrb2 hV hgk hu hbd (Int32.not_le.mp h) (fun i hi => by rw [cpW_v _ _ i hi]; exact hg i hi)
        unfold RB
        rw [show wg (cpW (wset N2 39 36 (nI (wV M (dg (nB M + 1) (nMo M) k) (nMo M)))) (nMo M)) 39 36 = nI (wV M (dg (nB M + 1) (nMo M) k) (nMo M)) by rw [cpW_o _ (by omega), wg_same]]
        exact hn
    · rw [iteI_f hV]
      have hno : ∀ h, Vv M h (nMo M) → ¬ hv (nB M + 1) h (nMo M) = k := fun h v e => hV (v.cg (hv_inj _ v.lt hgl (e.trans hgk.symm)))
      have hx : mI 1 ≤ wg N2 39 36 := by
        rcases hrb2 with ⟨a, _⟩ | ⟨g, a, _, vg, _⟩
        · rw [a]; decide
        · rw [a, Int32.le_iff_toInt_le, nI_toInt (hbd g vg), show (mI 1).toInt = -1 from rfl]
          omega
      refine And.intro (fun _ => ?_) (fun h => absurd hx h)
      exact And.intro trivial (next N2 _ _ _ hs2 hwt2 (Bs1.no hrb2 hno))
set_option maxHeartbeats 400000 in
theorem lp_m13 (hG : GM M) {N : WM} (hs : Sc M N) (hwt : WtOK M N) (hrb : RB M N 0) : ∀ (u k : Nat), k + u = nMo M →
    A G (d + 2) 162 13 [some (.ref 39), some (.int (nI ((nB M + 1) ^ k))), some (.int (nI k)), none, none, none] [] N (FmM M)
  | 0, k, hk => by
    have hM := hG.m
    have e2 : wg N 39 2 = nI (nMo M) := hs.2.1.2.1.trans hM.1
    obtain rfl : k = nMo M := by omega
    refine A_wp okc_X10_findMatch [13, 38] ?_
    conv => whnf
    rw [e2]
    refine And.intro (fun _ => ?_) (fun h => absurd (nI_le (by omega) (by omega)) h)
    exact And.intro trivial (lp_38 hG ((nB M + 1) ^ nMo M) 0 N none none none (by omega) hs hwt hrb)
  | u + 1, k, hk => by
    have hM := hG.m
    have hB := hG.b
    have e2 : wg N 39 2 = nI (nMo M) := hs.2.1.2.1.trans hM.1
    have e4 : wg N 39 4 = nI (nB M) := hs.2.1.2.2.1.trans hB.1
    have ih := lp_m13 hG hs hwt hrb u (k + 1) (by omega)
    rw [Nat.pow_succ, ← nIm, ← nI_add (nB M) 1, ← nI_add k 1, ← e4] at ih
    refine A_wp okc_X10_findMatch [13, 38] ?_
    conv => whnf
    rw [e2]
    refine And.intro (fun h => absurd h (nI_ge (by omega) (by omega))) (fun _ => ?_)
    exact And.intro trivial ih
theorem m_findMatch (hG : GM M) : Fr G (d + 4) 162 [.ref 39] M (FmM M) := by
  refine Fr_of okc_X10_findMatch [13] ?_
  refine call_r (m_findWorths hG) ?_
  rintro r N ⟨rfl, hs, hwt⟩
  refine And.intro trivial ?_
  exact lp_m13 (d := d + 2) hG (N := wset N 39 36 (mI 1)) (hs.tr (Sc.set (Or.inr ⟨rfl, by omega⟩))) hwt (Or.inl ⟨rfl, fun h _ q => absurd q (Nat.not_lt_zero _)⟩) (nMo M) 0 (by omega)
theorem in_m1 {x : Int32} {n : Nat} (hn : n < 2 ^ 30) : (¬ x < mI 1 ∧ x ≤ nI n - nI 1) ↔ (x = mI 1 ∨ ix x n) := by
  unfold ix
  have e := pk_sub_toInt (a := n) (b := 1) hn (by omega)
  have em : (mI 1).toInt = -1 := rfl
  have e0 : (nI 0).toInt = 0 := rfl
  rw [Int32.le_iff_toInt_le, Int32.lt_iff_toInt_lt, Int32.lt_iff_toInt_lt, Int32.lt_iff_toInt_lt, e, nI_toInt (n := n) (by omega), ← Int32.toInt_inj, em, e0]
  omega
set_option maxHeartbeats 400000 in
theorem m_match (hG : GM M) (x : Int32) : Fr G (d + 5) 163 [.ref 39, .int x] M (AnsS M (R_match M x)) := by
  have hM := hG.m
  refine Fr_of okc_X10_match [] ?_
  conv => whnf
  rw [hM.1]
  refine call_k (c_in _ _ _) ?_
  rw [bI_iff (in_m1 (by omega))]
  refine And.intro (fun h => ?_) (fun h => ?_)
  · rw [bI_0, Classical.not_not] at h
    unfold R_match
    rw [iteI_t h]
    refine call_r (m_findMatch hG) ?_
    rintro r N ⟨rfl, hs, g, hg, h3, h57⟩
    refine And.intro (fun h1 => ?_) (fun h1 => ?_)
    · have h1 : ¬ x < nI 0 := Int32.not_lt.mpr h1
      have hx : ix x (nMo M) := h.resolve_left (fun q => h1 (by rw [q]; decide))
      obtain ⟨k, hk, rfl⟩ := ix_of hx (by omega)
      have hgk : g k ≤ 4 := by have := (hg.1 k hk).1; have := hG.b; omega
      rw [S_m_at hg hk hM.2]
      unfold enc
      refine And.intro (vp_in_nI (by omega) (by decide)) ?_
      rw [nI_clamp (n := k) (by omega), h57 k hk]
      refine And.intro (fun h2 => ?_) (fun h2 => ?_)
      · rw [nI_eq (by omega) (by omega)] at h2
        refine And.intro (vp_in_nI (by omega) (by decide)) ?_
        rw [nI_clamp (n := k) (by omega), h57 k hk, if_neg h2]
        exact AnsS.eq (nIs (by omega)) hs
      · rw [nI_eq (by omega) (by omega)] at h2
        rw [if_pos h2]
        exact AnsS.eq rfl hs
    · have h1 : x < nI 0 := Int32.not_le.mp h1
      have hx : x = mI 1 := h.resolve_right (fun q => q.1 h1)
      rw [hx]
      exact AnsS.eq (h3.trans (S_m_w hg).symm) hs
  · rw [bI_0] at h
    exact AnsS.rf (iteI_f h).symm
theorem Cs.carM_ {N : WM} (hc : Cs M N) (m b : Nat) : carM N m b = carM M m b := by
  unfold carM
  rw [hc.rn0_, hc.c (i := 43) rfl]
theorem Cs.opn_ {N : WM} (hc : Cs M N) (m : Nat) : opn N m = opn M m := by
  unfold opn
  rw [hc.c (i := 43) rfl, hc.c (i := 43) rfl]
theorem Cs.wS_ {N : WM} (hc : Cs M N) (g : Nat → Nat) : ∀ n, wS N g n = wS M g n
  | 0 => rfl
  | n + 1 => by
    show wS N g n + _ = wS M g n + _
    rw [Cs.wS_ hc g n]
    unfold cN
    rw [hc.c (i := 41) rfl]
theorem Cs.BestR_ {N : WM} (hc : Cs M N) : BestR N = BestR M := by
  funext g
  unfold BestR Rv
  simp only [hc.nMo_, hc.nB_, hc.carM_, hc.opn_, hc.wS_]
theorem Cs.R_ma {N : WM} (hc : Cs M N) (x : Int32) : R_match N x = R_match M x := by
  unfold R_match S_match
  rw [hc.BestR_, hc.nMo_, hc.wS_]
theorem s_match (hg : GoodT M) (x : Int32) : Same G 102 163 [.int x] M :=
  Same.cs hg (c_match (d := 30) hg.1 x) (fun M1 hc => by
    have h := m_match (G := G) (d := 35) (hc.Good_ hg.1).1 x
    rw [hc.R_ma] at h
    exact h)
end MAM
