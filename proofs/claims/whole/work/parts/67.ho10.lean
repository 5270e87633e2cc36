-- house: the reference's settles(), its loop, its call
def zrW (N : WM) : Nat → WM
  | 0 => N
  | k + 1 => wset (zrW N k) 43 k (nI 0)
theorem zrW_o (N : WM) {i : Nat} (hi : i ≠ 43) : ∀ k, wg (zrW N k) i = wg N i
  | 0 => rfl
  | k + 1 => (wg_row_ne hi).trans (zrW_o N hi k)
theorem zrW_L (N : WM) : ∀ k, (zrW N k).2 = N.2
  | 0 => rfl
  | k + 1 => zrW_L N k
theorem zrW_v (N : WM) : ∀ n k, k < n → wg (zrW N n) 43 k = nI 0
  | 0, k, h => absurd h (by omega)
  | n + 1, k, h => by
    show wg (wset (zrW N n) 43 n (nI 0)) 43 k = nI 0
    by_cases q : k = n
    · rw [q, wg_same]
    · rw [wg_ne2 q]; exact zrW_v N n k (by omega)
theorem wcpy_o (N : WM) (i0 i1 sp dp n : Nat) {i : Nat} (hi : i ≠ i1) : wg (wcpy N i0 i1 sp dp n) i = wg N i := by
  funext k
  rw [wg_cpy, if_neg hi]
theorem wcpy_1 (N : WM) (i0 i1 n : Nat) (h : i0 ≠ i1) : wset (wcpy N i0 i1 0 0 n) i1 n (wg (wcpy N i0 i1 0 0 n) i0 n) = wcpy N i0 i1 0 0 (n + 1) := by
  have e := wcpy_s N (i0 := i0) (i1 := i1) (sp := 0) (dp := 0) (n := n) h
  rw [Nat.zero_add] at e
  exact e
def EndM (M N : WM) (h : Hs) : Prop := ((wg N 39 0 = nI h.1 ∧ wg N 39 2 = nI h.2.1 ∧ wg N 39 4 = nI h.2.2.1) ∧ wg N 39 8 = nI 0 ∧ wg N 39 11 = nI 0 ∧ wg N 39 15 = nI 0) ∧
  (∀ w, w < h.1 → wg N 40 (2 * w) = nI (h.2.2.2 0 w) ∧ wg N 40 (2 * w + 1) = nI (h.2.2.2 1 w)) ∧
  (∀ m, m < h.2.1 → wg N 41 (8 * m) = nI (h.2.2.2 2 m) ∧ wg N 41 (8 * m + 1) = nI (h.2.2.2 3 m) ∧ ∀ k, k < h.2.2.2 3 m → wg N 41 (8 * m + 2 + k) = nI (h.2.2.2 4 (6 * m + k))) ∧
  (∀ b, b < h.2.2.1 → wg N 42 (2 * b) = nI (h.2.2.2 6 b) ∧ wg N 42 (2 * b + 1) = nI (h.2.2.2 7 b)) ∧
  (∀ k, k < 11 → wg N 43 k = if 3 ≤ k ∧ k < 3 + h.2.2.1 then nI (h.2.2.2 5 (k - 3)) else nI 0) ∧ (wg N 46 0 = nI 0 ∧ wg N 46 1 = nI 0) ∧ (∀ i, i < 39 → wg N i = wg M i) ∧ N.2 = M.2
section SET
variable {G : GG} {d : Nat} {M N : WM} {P : Option Value → WM → Prop}
set_option maxHeartbeats 200000 in
theorem lp_se26 (K : A G d 131 50 [some (.ref 39), some (.int (nI 12))] [] (wcpy N 49 40 0 0 12) P) : ∀ (u k : Nat), k + u = 12 → A G d 131 26 [some (.ref 39), some (.int (nI k))] [] (wcpy N 49 40 0 0 k) P
  | 0, k, hk => by
    refine A_wp okc_X10_settles [26, 50] ?_
    refine And.intro (fun _ => ?_) (fun h => absurd (nI_le (by omega) (by omega)) h)
    rw [show k = 12 by omega]
    exact And.intro trivial K
  | u + 1, k, hk => by
    have ih := lp_se26 K u (k + 1) (by omega)
    rw [← nI_add k 1, ← wcpy_1 N 49 40 k (by omega)] at ih
    refine A_wp okc_X10_settles [26, 50] ?_
    refine And.intro (fun h => absurd h (nI_ge (by omega) (by omega))) (fun _ => ?_)
    refine And.intro (vp_in_nI (by omega) (by decide)) ?_
    rw [nI_clamp (n := k) (by omega)]
    refine And.intro (vp_in_nI (by omega) (by decide)) ?_
    rw [nI_clamp (n := k) (by omega)]
    exact And.intro trivial ih
set_option maxHeartbeats 200000 in
theorem lp_se52 (K : A G d 131 76 [some (.ref 39), some (.int (nI 40))] [] (wcpy N 50 41 0 0 40) P) : ∀ (u k : Nat), k + u = 40 → A G d 131 52 [some (.ref 39), some (.int (nI k))] [] (wcpy N 50 41 0 0 k) P
  | 0, k, hk => by
    refine A_wp okc_X10_settles [52, 76] ?_
    refine And.intro (fun _ => ?_) (fun h => absurd (nI_le (by omega) (by omega)) h)
    rw [show k = 40 by omega]
    exact And.intro trivial K
  | u + 1, k, hk => by
    have ih := lp_se52 K u (k + 1) (by omega)
    rw [← nI_add k 1, ← wcpy_1 N 50 41 k (by omega)] at ih
    refine A_wp okc_X10_settles [52, 76] ?_
    refine And.intro (fun h => absurd h (nI_ge (by omega) (by omega))) (fun _ => ?_)
    refine And.intro (vp_in_nI (by omega) (by decide)) ?_
    rw [nI_clamp (n := k) (by omega)]
    refine And.intro (vp_in_nI (by omega) (by decide)) ?_
    rw [nI_clamp (n := k) (by omega)]
    exact And.intro trivial ih
set_option maxHeartbeats 200000 in
theorem lp_se78 (K : A G d 131 102 [some (.ref 39), some (.int (nI 8))] [] (wcpy N 51 42 0 0 8) P) : ∀ (u k : Nat), k + u = 8 → A G d 131 78 [some (.ref 39), some (.int (nI k))] [] (wcpy N 51 42 0 0 k) P
  | 0, k, hk => by
    refine A_wp okc_X10_settles [78, 102] ?_
    refine And.intro (fun _ => ?_) (fun h => absurd (nI_le (by omega) (by omega)) h)
    rw [show k = 8 by omega]
    exact And.intro trivial K
  | u + 1, k, hk => by
    have ih := lp_se78 K u (k + 1) (by omega)
    rw [← nI_add k 1, ← wcpy_1 N 51 42 k (by omega)] at ih
    refine A_wp okc_X10_settles [78, 102] ?_
    refine And.intro (fun h => absurd h (nI_ge (by omega) (by omega))) (fun _ => ?_)
    refine And.intro (vp_in_nI (by omega) (by decide)) ?_
    rw [nI_clamp (n := k) (by omega)]
    refine And.intro (vp_in_nI (by omega) (by decide)) ?_
    rw [nI_clamp (n := k) (by omega)]
    exact And.intro trivial ih
set_option maxHeartbeats 200000 in
theorem lp_se104 (K : A G d 131 123 [some (.ref 39), some (.int (nI 11))] [] (zrW N 11) P) : ∀ (u k : Nat), k + u = 11 → A G d 131 104 [some (.ref 39), some (.int (nI k))] [] (zrW N k) P
  | 0, k, hk => by
    refine A_wp okc_X10_settles [104, 123] ?_
    refine And.intro (fun _ => ?_) (fun h => absurd (nI_le (by omega) (by omega)) h)
    rw [show k = 11 by omega]
    exact And.intro trivial K
  | u + 1, k, hk => by
    have ih := lp_se104 K u (k + 1) (by omega)
    rw [← nI_add k 1] at ih
    refine A_wp okc_X10_settles [104, 123] ?_
    refine And.intro (fun h => absurd h (nI_ge (by omega) (by omega))) (fun _ => ?_)
    refine And.intro (vp_in_nI (by omega) (by decide)) ?_
    rw [nI_clamp (n := k) (by omega)]
    exact And.intro trivial ih
set_option maxHeartbeats 200000 in
theorem lp_se125 {b : Nat} (hb : b ≤ 4) (h4 : wg N 39 4 = nI b) (K : A G d 131 153 [some (.ref 39), some (.int (nI b))] [] (wcpy N 52 43 0 3 b) P) : ∀ (u k : Nat), k + u = b → A G d 131 125 [some (.ref 39), some (.int (nI k))] [] (wcpy N 52 43 0 3 k) P
  | 0, k, hk => by
    have e4 : wg (wcpy N 52 43 0 3 k) 39 4 = nI b := h4
    refine A_wp okc_X10_settles [125, 153] ?_
    conv => whnf
    rw [e4]
    refine And.intro (fun _ => ?_) (fun h => absurd (nI_le (by omega) (by omega)) h)
    rw [show k = b by omega]
    exact And.intro trivial K
  | u + 1, k, hk => by
    have e4 : wg (wcpy N 52 43 0 3 k) 39 4 = nI b := h4
    have ih := lp_se125 hb h4 K u (k + 1) (by omega)
    have e := wcpy_s N (i0 := 52) (i1 := 43) (sp := 0) (dp := 3) (n := k) (by omega)
    rw [Nat.zero_add] at e
    rw [← nI_add k 1, ← e] at ih
    refine A_wp okc_X10_settles [125, 153] ?_
    conv => whnf
    rw [e4]
    refine And.intro (fun h => absurd h (nI_ge (by omega) (by omega))) (fun _ => ?_)
    refine And.intro (vp_in_nI (by omega) (by decide)) ?_
    rw [nI_clamp (n := k) (by omega)]
    refine And.intro (by rw [nI_add]; exact vp_in_nI (by omega) (by decide)) ?_
    rw [nI_add 3 k, nI_clamp (n := 3 + k) (by omega)]
    exact And.intro trivial ih
def S4 (N : WM) (h : Hs) : WM := wcpy (wcpy (wcpy (wset (wset (wset N 39 0 (nI h.1)) 39 2 (nI h.2.1)) 39 4 (nI h.2.2.1)) 49 40 0 0 12) 50 41 0 0 40) 51 42 0 0 8
def S7 (N : WM) (h : Hs) : WM := wset (wset (wset (wset (wset (wcpy (zrW (S4 N h) 11) 52 43 0 3 h.2.2.1) 39 8 (nI 0)) 39 11 (nI 0)) 46 0 (nI 0)) 46 1 (nI 0)) 39 15 (nI 0)
theorem S7_o (N : WM) (h : Hs) {i : Nat} (h1 : i < 39 ∨ 46 < i ∨ i = 44 ∨ i = 45) : wg (S7 N h) i = wg N i := by
  unfold S7 S4
  rw [wg_row_ne (by omega), wg_row_ne (by omega), wg_row_ne (by omega), wg_row_ne (by omega), wg_row_ne (by omega), wcpy_o _ _ _ _ _ _ (by omega), zrW_o _ (by omega), wcpy_o _ _ _ _ _ _ (by omega), wcpy_o _ _ _ _ _ _ (by omega), wcpy_o _ _ _ _ _ _ (by omega), wg_row_ne (by omega), wg_row_ne (by omega), wg_row_ne (by omega)]
theorem S4_39 (N : WM) (h : Hs) (k : Nat) : wg (S4 N h) 39 k = wg (wset (wset (wset N 39 0 (nI h.1)) 39 2 (nI h.2.1)) 39 4 (nI h.2.2.1)) 39 k := by
  unfold S4
  rw [wcpy_o _ _ _ _ _ _ (by omega), wcpy_o _ _ _ _ _ _ (by omega), wcpy_o _ _ _ _ _ _ (by omega)]
theorem S7_39 (N : WM) (h : Hs) {k : Nat} (h1 : k ≠ 8) (h2 : k ≠ 11) (h3 : k ≠ 15) : wg (S7 N h) 39 k = wg (wset (wset (wset N 39 0 (nI h.1)) 39 2 (nI h.2.1)) 39 4 (nI h.2.2.1)) 39 k := by
  unfold S7
  rw [wg_ne2 h3, wg_ne1 (by omega), wg_ne1 (by omega), wg_ne2 h2, wg_ne2 h1, wcpy_o _ _ _ _ _ _ (by omega), zrW_o _ (by omega), S4_39]
theorem S7_t (N : WM) (h : Hs) {i : Nat} (h1 : 40 ≤ i) (h2 : i ≤ 42) : wg (S7 N h) i = wg (S4 N h) i := by
  unfold S7
  rw [wg_row_ne (by omega), wg_row_ne (by omega), wg_row_ne (by omega), wg_row_ne (by omega), wg_row_ne (by omega), wcpy_o _ _ _ _ _ _ (by omega), zrW_o _ (by omega)]
theorem S7_40 (N : WM) (h : Hs) {k : Nat} (hk : k < 12) : wg (S7 N h) 40 k = wg N 49 k := by
  rw [S7_t N h (by omega) (by omega)]
  unfold S4
  rw [wcpy_o _ _ _ _ _ _ (by omega), wcpy_o _ _ _ _ _ _ (by omega), wg_cpy, if_pos rfl, if_pos (by omega), Nat.zero_add, Nat.sub_zero, wg_ne1 (by omega), wg_ne1 (by omega), wg_ne1 (by omega)]
theorem S7_41 (N : WM) (h : Hs) {k : Nat} (hk : k < 40) : wg (S7 N h) 41 k = wg N 50 k := by
  rw [S7_t N h (by omega) (by omega)]
  unfold S4
  rw [wcpy_o _ _ _ _ _ _ (by omega), wg_cpy, if_pos rfl, if_pos (by omega), Nat.zero_add, Nat.sub_zero, wcpy_o _ _ _ _ _ _ (by omega), wg_ne1 (by omega), wg_ne1 (by omega), wg_ne1 (by omega)]
theorem S7_42 (N : WM) (h : Hs) {k : Nat} (hk : k < 8) : wg (S7 N h) 42 k = wg N 51 k := by
  rw [S7_t N h (by omega) (by omega)]
  unfold S4
  rw [wg_cpy, if_pos rfl, if_pos (by omega), Nat.zero_add, Nat.sub_zero, wcpy_o _ _ _ _ _ _ (by omega), wcpy_o _ _ _ _ _ _ (by omega), wg_ne1 (by omega), wg_ne1 (by omega), wg_ne1 (by omega)]
theorem S7_43 (N : WM) (h : Hs) {k : Nat} (hk : k < 11) : wg (S7 N h) 43 k = if 3 ≤ k ∧ k < 3 + h.2.2.1 then wg N 52 (k - 3) else nI 0 := by
  unfold S7
  rw [wg_ne1 (by omega), wg_ne1 (by omega), wg_ne1 (by omega), wg_ne1 (by omega), wg_ne1 (by omega), wg_cpy, if_pos rfl, zrW_v _ 11 k hk, zrW_o _ (by omega), Nat.zero_add]
  unfold S4
  rw [wcpy_o _ _ _ _ _ _ (by omega), wcpy_o _ _ _ _ _ _ (by omega), wcpy_o _ _ _ _ _ _ (by omega), wg_ne1 (by omega), wg_ne1 (by omega), wg_ne1 (by omega)]
theorem S7_L (N : WM) (h : Hs) : (S7 N h).2 = N.2 := zrW_L (S4 N h) 11
theorem S7_end {h : Hs} (hs : Sc M N) (hh : HsM N h) (ho : HsOK h) : EndM M (S7 N h) h := by
  obtain ⟨o1, o2, o3, o4, o5⟩ := ho
  obtain ⟨_, t1, t2, t3⟩ := hh
  refine ⟨⟨⟨?_, ?_, ?_⟩, ?_, ?_, ?_⟩, fun w hw => ?_, fun m hm => ?_, fun b hb => ?_, fun k hk => ?_, ⟨?_, ?_⟩, fun i hi => ?_, ?_⟩
  · rw [S7_39 N h (by omega) (by omega) (by omega)]; rfl
  · rw [S7_39 N h (by omega) (by omega) (by omega)]; rfl
  · rw [S7_39 N h (by omega) (by omega) (by omega)]; rfl
  · rfl
  · rfl
  · rfl
  · rw [S7_40 N h (by omega), S7_40 N h (by omega)]; exact t1 w hw
  · obtain ⟨a1, a2, a3⟩ := t2 m hm
    rw [S7_41 N h (by omega), S7_41 N h (by omega)]
    refine ⟨a1, a2, fun k hk => ?_⟩
    have := (o4 m hm).2.2.1
    rw [S7_41 N h (by omega)]; exact a3 k hk
  · rw [S7_42 N h (by omega), S7_42 N h (by omega)]; exact (t3 b hb).2
  · rw [S7_43 N h hk]
    by_cases q : 3 ≤ k ∧ k < 3 + h.2.2.1
    · rw [if_pos q, if_pos q]; exact (t3 (k - 3) (by omega)).1
    · rw [if_neg q, if_neg q]
  · rfl
  · rfl
  · rw [S7_o N h (by omega), hs.1 i (by omega)]
  · rw [S7_L]; exact hs.2.2
set_option maxHeartbeats 400000 in
theorem m_settles {h : Hs} (hh : HsM N h) (ho : HsOK h) : Fn G d 131 [.ref 39] N none (S7 N h) := by
  obtain ⟨⟨c1, c2, c3⟩, _⟩ := hh
  have o3 := ho.2.2.1
  refine Fn_of okc_X10_settles [26] ?_
  conv => whnf
  rw [c1]
  rw [show wg (wset N 39 0 (nI h.1)) 39 24 = nI h.2.1 from c2]
  rw [show wg (wset (wset N 39 0 (nI h.1)) 39 2 (nI h.2.1)) 39 26 = nI h.2.2.1 from c3]
  refine And.intro trivial ?_
  have start := lp_se26 (G := G) (d := d) (N := wset (wset (wset N 39 0 (nI h.1)) 39 2 (nI h.2.1)) 39 4 (nI h.2.2.1)) (P := fun r M2 => r = none ∧ M2 = S7 N h) ?_ 12 0 (by omega)
  · rw [wcpy_0] at start
    exact start
  refine A_wp okc_X10_settles [52] ?_
  refine And.intro trivial ?_
  have start := lp_se52 (G := G) (d := d) (N := wcpy (wset (wset (wset N 39 0 (nI h.1)) 39 2 (nI h.2.1)) 39 4 (nI h.2.2.1)) 49 40 0 0 12) (P := fun r M2 => r = none ∧ M2 = S7 N h) ?_ 40 0 (by omega)
  · rw [wcpy_0] at start
    exact start
  refine A_wp okc_X10_settles [78] ?_
  refine And.intro trivial ?_
  have start := lp_se78 (G := G) (d := d) (N := wcpy (wcpy (wset (wset (wset N 39 0 (nI h.1)) 39 2 (nI h.2.1)) 39 4 (nI h.2.2.1)) 49 40 0 0 12) 50 41 0 0 40) (P := fun r M2 => r = none ∧ M2 = S7 N h) ?_ 8 0 (by omega)
  · rw [wcpy_0] at start
    exact start
  refine A_wp okc_X10_settles [104] ?_
  refine And.intro trivial ?_
  refine lp_se104 (N := S4 N h) ?_ 11 0 (by omega)
  refine A_wp okc_X10_settles [125] ?_
  refine And.intro trivial ?_
  have start := lp_se125 (G := G) (d := d) (N := zrW (S4 N h) 11) (b := h.2.2.1) (P := fun r M2 => r = none ∧ M2 = S7 N h) o3 (by rw [zrW_o _ (by omega), S4_39]; rfl) ?_ h.2.2.1 0 (by omega)
  · rw [wcpy_0] at start
    exact start
  refine A_wp okc_X10_settles [] ?_
  refine And.intro (vp_in_nI (by omega) (by decide)) ?_
  refine And.intro (vp_in_nI (by omega) (by decide)) ?_
  exact And.intro rfl rfl
end SET
