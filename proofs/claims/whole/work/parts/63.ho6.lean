-- house: the reference's next()
def TxM (N : WM) (L : Nat) (x : Nat → Nat) : Prop := wg N 39 15 = nI L ∧ L ≤ 200 ∧ (∀ k, k < L → wg N 48 k = nI (x k)) ∧ ∀ k, k < L → x k ≤ 255
def Fx (u : Nat) (N N2 : WM) : Prop := (∀ i, i ≠ 39 → wg N2 i = wg N i) ∧ (∀ k, (k < 16 ∨ u < k) → wg N2 39 k = wg N 39 k) ∧ N2.2 = N.2
theorem Fx.rf (u : Nat) (N : WM) : Fx u N N := ⟨fun _ _ => rfl, fun _ _ => rfl, rfl⟩
theorem Fx.tr {u : Nat} {N N2 N3 : WM} (h : Fx u N N2) (k : Fx u N2 N3) : Fx u N N3 := ⟨fun i hi => (k.1 i hi).trans (h.1 i hi), fun i hi => (k.2.1 i hi).trans (h.2.1 i hi), k.2.2.trans h.2.2⟩
theorem Fx.set_ {u : Nat} {N N2 : WM} (h : Fx u N N2) {k : Nat} {v : Int32} (hk : 16 ≤ k) (hu : k ≤ u) : Fx u N (wset N2 39 k v) := ⟨fun i hi => (wg_row_ne hi).trans (h.1 i hi), fun j hj => (wg_ne2 (by omega)).trans (h.2.1 j hj), h.2.2⟩
theorem Fx.up_ {u v : Nat} {N N2 : WM} (h : Fx u N N2) (hv : u ≤ v) : Fx v N N2 := ⟨h.1, fun k hk => h.2.1 k (by omega), h.2.2⟩
theorem Fx.sc {u : Nat} {N N2 : WM} (h : Fx u N N2) : Sc N N2 := ⟨fun i hi => h.1 i (by omega), ⟨h.2.1 0 (by omega), h.2.1 2 (by omega), h.2.1 4 (by omega), h.2.1 8 (by omega), h.2.1 11 (by omega), h.2.1 15 (by omega)⟩, h.2.2⟩
theorem Fx.tx {u : Nat} {N N2 : WM} (h : Fx u N N2) {L : Nat} {x : Nat → Nat} (t : TxM N L x) : TxM N2 L x := ⟨(h.2.1 15 (by omega)).trans t.1, t.2.1, fun k hk => by rw [h.1 48 (by omega)]; exact t.2.2.1 k hk, t.2.2.2⟩
def lrI (L : Nat) (x : Nat → Nat) (k : Nat) : Int32 := if k < L then nI (x k) else mI 1
def tkI (c : Nat) : Int32 := if c = 119 ∨ c = 109 ∨ c = 98 then nI 1 else if c = 59 then nI 3 else nI 4
/-- the token at s is read; the cursor stands behind it -/
def Lk (L : Nat) (x : Nat → Nat) (N : WM) (s : Nat) : Prop := wg N 39 17 = nI s ∧ s ≤ L ∧ (s < L → beg L x s) ∧
  ((s = L ∧ wg N 39 18 = nI 0) ∨ (s < L ∧ ∃ e, s < e ∧ e ≤ L ∧ wg N 39 16 = nI e ∧ (¬ isD L x (e - 1) ∨ ¬ isD L x e) ∧ (∀ j, s < j → j < e → ¬ beg L x j) ∧
    ((isD L x s ∧ ((∃ v, nmb L x s = some v ∧ wg N 39 18 = nI 2 ∧ wg N 39 19 = nI v) ∨ (nmb L x s = none ∧ wg N 39 18 = nI 4))) ∨
     (¬ isD L x s ∧ wg N 39 19 = nI (chr L x s) ∧ wg N 39 18 = tkI (chr L x s)))))
section NXT
variable {G : GG} {d : Nat} {N : WM} {L : Nat} {x : Nat → Nat}
theorem chr_x {k : Nat} (hk : k < L) : chr L x k = x k := if_pos hk
theorem m_letterAt (hT : TxM N L x) {k : Nat} (hk : k < 2 ^ 30) : Fn G d 122 [.ref 39, .int (nI k)] N (some (.int (lrI L x k))) N := by
  have hL := hT.2.1
  unfold lrI
  refine Fn_of okc_X10_letterAt [] ?_
  conv => whnf
  rw [hT.1]
  refine And.intro (fun h => ?_) (fun h => ?_)
  · rw [nI_leI (by omega) (by omega)] at h
    rw [if_neg (by omega)]
    exact And.intro rfl rfl
  · rw [nI_leI (by omega) (by omega)] at h
    refine And.intro (vp_in_nI (by omega) (by decide)) ?_
    rw [nI_clamp (n := k) (by omega), hT.2.2.1 k (by omega), if_pos (by omega)]
    exact And.intro rfl rfl
theorem lr_fig (hT : TxM N L x) (k : Nat) : (¬ lrI L x k < nI 48 ∧ lrI L x k ≤ nI 57) ↔ isD L x k := by
  unfold lrI isD chr
  by_cases h : k < L
  · have := hT.2.2.2 k h
    rw [if_pos h, if_pos h, nI_ltI (by omega) (by omega), nI_leI (by omega) (by omega)]
    omega
  · rw [if_neg h, if_neg h]
    exact ⟨fun q => absurd (by decide) q.1, fun q => by omega⟩
theorem m_fig (hT : TxM N L x) (k : Nat) {N2 : WM} : Fn G (d + 1) 123 [.int (lrI L x k)] N2 (some (.int (bI (isD L x k)))) N2 := by
  refine Fn_of okc_X10_isFigure [] ?_
  refine call_k (c_in _ _ _) ?_
  rw [bI_iff (lr_fig hT k)]
  exact And.intro (isB_bI _) (ret_i rfl)
def NumR (L : Nat) (x : Nat → Nat) (s cur num : Nat) : Prop := (cur = s ∧ num = 0) ∨ (cur = s + 1 ∧ num = x s - 48) ∨ (cur = s + 2 ∧ num = 10 * (x s - 48) + (x (s + 1) - 48)) ∨ (s + 3 ≤ cur ∧ num ≤ 999 ∧ (49 ≤ x s → 100 ≤ num))
def Nx (L : Nat) (x : Nat → Nat) (N : WM) (s : Nat) : Option Value → WM → Prop := fun q N2 => q = none ∧ Fx 19 N N2 ∧ Lk L x N2 s
theorem dig {k : Nat} (hk : k < L) : isD L x k ↔ 48 ≤ x k ∧ x k ≤ 57 := by
  unfold isD
  rw [chr_x hk]
theorem nb_in {s j : Nat} (hj : s < j) (h : ∀ i, s ≤ i → i < j + 1 → isD L x i) : ¬ beg L x j := fun q => q.2 ⟨h j (by omega) (by omega), by omega, h (j - 1) (by omega) (by omega)⟩
set_option maxHeartbeats 400000 in
theorem nx133 {s cur num : Nat} {N' : WM} (hL : L ≤ 200) (hs : s < L) (hb : beg L x s) (hsc : s < cur) (hcL : cur ≤ L) (hds : ∀ j, s ≤ j → j < cur → isD L x j) (hnd : ¬ isD L x cur) (hn : NumR L x s cur num) (hF : Fx 19 N N') (h16 : wg N' 39 16 = nI cur) (h17 : wg N' 39 17 = nI s) (h19 : wg N' 39 19 = nI num) :
    A G (d + 2) 124 133 [some (.ref 39), some (.int (nI (x s)))] [] N' (Nx L x N s) := by
  have d0 := (dig hs).mp (hds s (by omega) hsc)
  have hnum : num ≤ 999 := by
    rcases hn with q | q | q | q
    · omega
    · omega
    · have := (dig (show s + 1 < L by omega)).mp (hds (s + 1) (by omega) (by omega))
      omega
    · omega
  have fin : ∀ t : Int32, ((∃ v, nmb L x s = some v ∧ t = nI 2 ∧ num = v) ∨ (nmb L x s = none ∧ t = nI 4)) → Nx L x N s none (wset N' 39 18 t) := by
    intro t ht
    refine ⟨rfl, hF.set_ (by omega) (by omega), h17, by omega, fun _ => hb, Or.inr ⟨hs, cur, hsc, hcL, h16, Or.inr hnd, fun j a b => nb_in (s := s) a (fun i a1 a2 => hds i a1 (by omega)), Or.inl ⟨hds s (by omega) hsc, ?_⟩⟩⟩
    rcases ht with ⟨v, e, rfl, rfl⟩ | ⟨e, rfl⟩
    · exact Or.inl ⟨num, e, rfl, h19⟩
    · exact Or.inr ⟨e, rfl⟩
  have n1 : cur = s + 1 → nmb L x s = some num := fun e => by
    rw [e] at hnd
    unfold nmb
    rw [itc_t hnd, chr_x hs]
    rcases hn with q | q | q | q <;> first | omega | (congr 1; omega)
  have n2 : cur = s + 2 → nmb L x s = itc (x s = 48) none (some num) := fun e => by
    have hd1 := hds (s + 1) (by omega) (by omega)
    rw [e] at hnd
    unfold nmb
    rw [itc_f (fun q => q hd1), chr_x hs, chr_x (isD_lt hd1)]
    rcases Classical.em (x s = 48) with z | z
    · rw [itc_t (Or.inl z), itc_t z]
    · rw [itc_f (fun q => q.elim z hnd), itc_f z]
      rcases hn with q | q | q | q <;> first | omega | (congr 1; omega)
  have n3 : s + 3 ≤ cur → nmb L x s = none := fun e => by
    have hd1 := hds (s + 1) (by omega) (by omega)
    have hd2 := hds (s + 2) (by omega) (by omega)
    unfold nmb
    rw [itc_f (fun q => q hd1), itc_t (Or.inr hd2)]
  refine A_wp okc_X10_next [] ?_
  conv => whnf
  rw [h19]
  refine And.intro (fun h => ?_) (fun h => ?_)
  · rw [nI_ltI (by omega) (by omega)] at h
    refine fin (nI 4) (Or.inr ⟨n3 ?_, rfl⟩)
    rcases hn with q | q | q | q
    · omega
    · omega
    · have := (dig (show s + 1 < L by omega)).mp (hds (s + 1) (by omega) (by omega))
      omega
    · omega
  · rw [nI_ltI (by omega) (by omega)] at h
    refine And.intro (fun h1 => ?_) (fun h1 => ?_)
    · rw [nI_eq (by omega) (by omega)] at h1
      refine fin (nI 2) (Or.inl ⟨num, ?_, rfl, rfl⟩)
      rcases (by omega : cur = s + 1 ∨ cur = s + 2 ∨ s + 3 ≤ cur) with q | q | q
      · exact n1 q
      · rw [n2 q, itc_f h1]
      · rcases hn with z | z | z | z <;> omega
    · rw [nI_eq (by omega) (by omega)] at h1
      conv => whnf
      rw [h16, h17, nIs (by omega)]
      refine And.intro (fun h2 => ?_) (fun h2 => ?_)
      · rw [nI_leI (by omega) (by omega)] at h2
        exact fin (nI 2) (Or.inl ⟨num, n1 (by omega), rfl, rfl⟩)
      · rw [nI_leI (by omega) (by omega)] at h2
        refine fin (nI 4) (Or.inr ⟨?_, rfl⟩)
        rcases (by omega : cur = s + 2 ∨ s + 3 ≤ cur) with q | q
        · rw [n2 q, itc_t h1]
        · exact n3 q
set_option maxHeartbeats 400000 in
theorem lp_nx67 {s : Nat} (hL : L ≤ 200) (hs : s < L) (hb : beg L x s) (hd0 : isD L x s) : ∀ (n cur num : Nat) (N' : WM), cur + n = L → s ≤ cur → (∀ j, s ≤ j → j < cur → isD L x j) → NumR L x s cur num → Fx 19 N N' → TxM N' L x → wg N' 39 16 = nI cur → wg N' 39 17 = nI s → wg N' 39 19 = nI num →
    A G (d + 2) 124 67 [some (.ref 39), some (.int (nI (x s)))] [] N' (Nx L x N s)
  | 0, cur, num, N', hn, hsc, hds, hnum, hF, hT, h16, h17, h19 => by
    have hnd : ¬ isD L x cur := fun q => by have := isD_lt q; omega
    refine A_wp okc_X10_next [67, 133] ?_
    conv => whnf
    rw [h16]
    refine call_k (m_letterAt hT (by omega)) ?_
    refine call_k (m_fig hT cur) ?_
    refine And.intro (fun _ => ?_) (fun h => absurd (bI_f hnd) h)
    exact And.intro trivial (nx133 hL hs hb (by omega) (by omega) hds hnd hnum hF h16 h17 h19)
  | n + 1, cur, num, N', hn, hsc, hds, hnum, hF, hT, h16, h17, h19 => by
    have hc : cur < L := by omega
    have d0 := (dig hs).mp hd0
    have hnum9 : num ≤ 999 := by
      rcases hnum with q | q | q | q
      · omega
      · omega
      · have := (dig (show s + 1 < L by omega)).mp (hds (s + 1) (by omega) (by omega))
        omega
      · omega
    refine A_wp okc_X10_next [67, 133] ?_
    conv => whnf
    rw [h16]
    refine call_k (m_letterAt hT (by omega)) ?_
    refine call_k (m_fig hT cur) ?_
    refine And.intro (fun h => ?_) (fun h => ?_)
    · rw [bI_0] at h
      have hsc2 : s < cur := by
        rcases Nat.eq_or_lt_of_le hsc with q | q
        · rw [← q] at h; exact absurd hd0 h
        · exact q
      exact And.intro trivial (nx133 hL hs hb hsc2 (by omega) hds h hnum hF h16 h17 h19)
    · rw [bI_0, Classical.not_not] at h
      have dc := (dig hc).mp h
      have next : ∀ num' : Nat, (num' = if 99 < num then num else 10 * num + (x cur - 48)) → A G (d + 2) 124 67 [some (.ref 39), some (.int (nI (x s)))] [] (wset (wset N' 39 19 (nI num')) 39 16 (nI (cur + 1))) (Nx L x N s) := by
        intro num' e'
        refine lp_nx67 hL hs hb hd0 n (cur + 1) num' _ (by omega) (by omega) (fun j a b => ?_) ?_ ((hF.set_ (by omega) (by omega)).set_ (by omega) (by omega)) hT rfl h17 rfl
        · by_cases q : j = cur
          · rw [q]; exact h
          · exact hds j a (by omega)
        · unfold NumR at hnum ⊢
          rcases hnum with ⟨rfl, rfl⟩ | ⟨rfl, q⟩ | ⟨rfl, q⟩ | ⟨q1, q2, q3⟩
          · rw [if_neg (by omega)] at e'
            exact Or.inr (Or.inl ⟨rfl, by omega⟩)
          · rw [if_neg (by omega)] at e'
            exact Or.inr (Or.inr (Or.inl ⟨rfl, by omega⟩))
          · have d1 := (dig (show s + 1 < L by omega)).mp (hds (s + 1) (by omega) (by omega))
            rw [if_neg (by omega)] at e'
            exact Or.inr (Or.inr (Or.inr ⟨by omega, by omega, fun _ => by omega⟩))
          · refine Or.inr (Or.inr (Or.inr ⟨by omega, ?_, fun z => ?_⟩))
            · by_cases z : 99 < num
              · rw [if_pos z] at e'; omega
              · rw [if_neg z] at e'; omega
            · have := q3 z
              rw [if_pos (by omega)] at e'
              omega
      conv => whnf
      rw [h19]
      refine And.intro (fun h1 => ?_) (fun h1 => ?_)
      · rw [nI_leI (by omega) (by omega)] at h1
        conv => whnf
        rw [h19, h16]
        refine call_k (m_letterAt hT (by omega)) ?_
        have f := next (10 * num + (x cur - 48)) (if_neg (by omega)).symm
        conv => whnf
        rw [show lrI L x cur = nI (x cur) from if_pos hc, pk_mul, nI_add, nIs (show 48 ≤ 10 * num + x cur by omega), show 10 * num + x cur - 48 = 10 * num + (x cur - 48) by omega, wg_ne2 (show 16 ≠ 19 by omega), h16, nI_add]
        exact And.intro trivial f
      · rw [nI_leI (by omega) (by omega)] at h1
        have f := next num (if_pos (by omega)).symm
        conv => whnf
        rw [h19, wg_ne2 (show 16 ≠ 19 by omega), h16, nI_add]
        exact And.intro trivial f
set_option maxHeartbeats 400000 in
theorem nx26 {s : Nat} (hT : TxM N L x) (hs : s ≤ L) (hb : s < L → beg L x s) : A G (d + 2) 124 26 [some (.ref 39), none] [] (wset N 39 16 (nI s)) (Nx L x N s) := by
  have hL := hT.2.1
  have hT2 : TxM (wset (wset N 39 16 (nI s)) 39 17 (nI s)) L x := hT
  refine A_wp okc_X10_next [67] ?_
  conv => whnf
  rw [wg_ne2 (show 16 ≠ 17 by omega), wg_same]
  refine call_k (m_letterAt hT2 (by omega)) ?_
  by_cases hsL : s < L
  · have hx := hT.2.2.2 s hsL
    have hb := hb hsL
    rw [show lrI L x s = nI (x s) from if_pos hsL]
    refine And.intro (fun _ => ?_) (fun h => absurd (nI_le (Nat.zero_le _) (by omega)) h)
    have hf := m_fig (G := G) (d := d) hT s (N2 := wset (wset (wset N 39 16 (nI s)) 39 17 (nI s)) 39 19 (nI 0))
    rw [show lrI L x s = nI (x s) from if_pos hsL] at hf
    refine call_k hf ?_
    refine And.intro (fun h => ?_) (fun h => ?_)
    · rw [bI_0] at h
      have fin : ∀ t : Int32, t = tkI (x s) → Nx L x N s none (wset (wset (wset (wset (wset (wset N 39 16 (nI s)) 39 17 (nI s)) 39 19 (nI 0)) 39 18 t) 39 19 (nI (x s))) 39 16 (nI (s + 1))) := by
        intro t ht
        refine ⟨rfl, ((((((Fx.rf 19 N).set_ (by omega) (by omega)).set_ (by omega) (by omega)).set_ (by omega) (by omega)).set_ (by omega) (by omega)).set_ (by omega) (by omega)).set_ (by omega) (by omega), rfl, hs, fun _ => hb, Or.inr ⟨hsL, s + 1, by omega, by omega, rfl, Or.inl (by rw [Nat.add_sub_cancel]; exact h), fun j a b => by omega, Or.inr ⟨h, ?_, ?_⟩⟩⟩
        · rw [chr_x hsL]; rfl
        · rw [chr_x hsL]; exact ht
      unfold tkI at fin
      have e16 : ∀ t : Int32, wg (wset (wset (wset (wset (wset N 39 16 (nI s)) 39 17 (nI s)) 39 19 (nI 0)) 39 18 t) 39 19 (nI (x s))) 39 16 + nI 1 = nI (s + 1) := fun t => by
        rw [wg_ne2 (by omega), wg_ne2 (by omega), wg_ne2 (by omega), wg_ne2 (by omega), wg_same, nI_add]
      refine And.intro (fun h1 => ?_) (fun h1 => ?_)
      · rw [nI_eq (by omega) (by omega)] at h1
        conv => whnf
        rw [e16]
        exact fin (nI 1) (if_pos (by omega)).symm
      · rw [nI_eq (by omega) (by omega)] at h1
        refine And.intro (fun h2 => ?_) (fun h2 => ?_)
        · rw [nI_eq (by omega) (by omega)] at h2
          conv => whnf
          rw [e16]
          exact fin (nI 1) (if_pos (by omega)).symm
        · rw [nI_eq (by omega) (by omega)] at h2
          refine And.intro (fun h3 => ?_) (fun h3 => ?_)
          · rw [nI_eq (by omega) (by omega)] at h3
            refine And.intro (fun h4 => ?_) (fun h4 => ?_)
            · rw [nI_eq (by omega) (by omega)] at h4
              conv => whnf
              rw [e16]
              exact fin (nI 4) (by rw [if_neg (by omega), if_neg (by omega)])
            · rw [nI_eq (by omega) (by omega)] at h4
              conv => whnf
              rw [e16]
              exact fin (nI 3) (by rw [if_neg (by omega), if_pos (by omega)])
          · rw [nI_eq (by omega) (by omega)] at h3
            conv => whnf
            rw [e16]
            exact fin (nI 1) (if_pos (by omega)).symm
    · rw [bI_0, Classical.not_not] at h
      refine And.intro trivial ?_
      exact lp_nx67 hL hsL hb h (L - s) s 0 _ (by omega) (by omega) (fun j a b => by omega) (Or.inl ⟨rfl, rfl⟩) ((((Fx.rf 19 N).set_ (by omega) (by omega)).set_ (by omega) (by omega)).set_ (by omega) (by omega)) hT rfl rfl rfl
  · rw [show lrI L x s = mI 1 from if_neg hsL]
    refine And.intro (fun h => absurd h (by decide)) (fun _ => ?_)
    exact ⟨rfl, ((((Fx.rf 19 N).set_ (by omega) (by omega)).set_ (by omega) (by omega)).set_ (by omega) (by omega)).set_ (by omega) (by omega), rfl, hs, fun q => absurd q hsL, Or.inl ⟨by omega, rfl⟩⟩
set_option maxHeartbeats 400000 in
theorem lp_nx0 (hT : TxM N L x) {e : Nat} (P : Option Value → WM → Prop) (K : ∀ s, e ≤ s → s ≤ L → (∀ j, e ≤ j → j < s → x j = 32) → (s < L → ¬ x s = 32) → A G (d + 2) 124 26 [some (.ref 39), none] [] (wset N 39 16 (nI s)) P) : ∀ (n c : Nat), c + n = L → e ≤ c → (∀ j, e ≤ j → j < c → x j = 32) →
    A G (d + 2) 124 0 [some (.ref 39), none] [] (wset N 39 16 (nI c)) P
  | 0, c, hc, he, hj => by
    have hL := hT.2.1
    have hT2 : TxM (wset N 39 16 (nI c)) L x := hT
    refine A_wp okc_X10_next [0, 26] ?_
    conv => whnf
    rw [wg_same]
    refine call_k (m_letterAt hT2 (by omega)) ?_
    rw [show lrI L x c = mI 1 from if_neg (by omega)]
    refine And.intro (fun _ => ?_) (fun h => absurd h (by decide))
    exact And.intro trivial (K c he (by omega) hj (fun q => by omega))
  | n + 1, c, hc, he, hj => by
    have hL := hT.2.1
    have hT2 : TxM (wset N 39 16 (nI c)) L x := hT
    have hx := hT.2.2.2 c (by omega)
    refine A_wp okc_X10_next [0, 26] ?_
    conv => whnf
    rw [wg_same]
    refine call_k (m_letterAt hT2 (by omega)) ?_
    rw [show lrI L x c = nI (x c) from if_pos (by omega)]
    refine And.intro (fun h => ?_) (fun h => ?_)
    · rw [nI_eq (by omega) (by omega)] at h
      exact And.intro trivial (K c he (by omega) hj (fun _ => h))
    · rw [nI_eq (by omega) (by omega)] at h
      have ih := lp_nx0 hT P K n (c + 1) (by omega) (by omega) (fun j a b => by
        by_cases q : j = c
        · rw [q]; exact h
        · exact hj j a (by omega))
      conv => whnf
      rw [wg_same, nI_add, wset2]
      exact And.intro trivial ih
/-- next() from the cursor e on -/
theorem m_next (hT : TxM N L x) {e : Nat} (he : wg N 39 16 = nI e) (heL : e ≤ L) (hcu : e = 0 ∨ ¬ isD L x (e - 1) ∨ ¬ isD L x e) : Fr G (d + 2) 124 [.ref 39] N (fun q N2 => q = none ∧ Fx 19 N N2 ∧ ∃ s, Lk L x N2 s ∧ e ≤ s ∧ ∀ j, e ≤ j → j < s → ¬ beg L x j) := by
  have hw : N = wset N 39 16 (nI e) := by rw [← he, wset_self]
  have h := lp_nx0 (G := G) (d := d) hT (e := e) (fun q N2 => q = none ∧ Fx 19 N N2 ∧ ∃ s, Lk L x N2 s ∧ e ≤ s ∧ ∀ j, e ≤ j → j < s → ¬ beg L x j) (fun s h1 h2 h3 h4 => ?_) (L - e) e (by omega) (by omega) (fun j a b => by omega)
  · rw [← hw] at h
    exact h
  · have hnb : ∀ j, e ≤ j → j < s → chr L x j = 32 := fun j a b => by rw [chr_x (by omega)]; exact h3 j a b
    refine A_mono (fun q N2 z => ⟨z.1, z.2.1, s, z.2.2, h1, fun j a b w => w.1 (hnb j a b)⟩) (nx26 hT h2 (fun hs => ⟨by rw [chr_x hs]; exact h4 hs, fun w => ?_⟩))
    rcases Nat.eq_or_lt_of_le h1 with q | q
    · subst q
      rcases hcu with z | z | z
      · omega
      · exact z w.2.2
      · exact z w.1
    · have := hnb (s - 1) (by omega) (by omega)
      have w2 := w.2.2
      unfold isD at w2
      omega
end NXT
