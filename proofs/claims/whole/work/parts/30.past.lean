-- copy, remembers; keep, back, undo
theorem wcpy_0 (M : WM) (i0 i1 sp dp : Nat) : wcpy M i0 i1 sp dp 0 = M := by
  refine Prod.ext ?_ rfl
  funext a b
  show (if a = i1 then (if dp ≤ b ∧ b < dp + 0 then M.1 i0 (sp + (b - dp)) else M.1 i1 b) else M.1 a b) = M.1 a b
  by_cases h : a = i1
  · rw [if_pos h, if_neg (by omega), h]
  · rw [if_neg h]
theorem wcpy_s (M : WM) {i0 i1 sp dp n : Nat} (h01 : i0 ≠ i1) : wset (wcpy M i0 i1 sp dp n) i1 (dp + n) (wg (wcpy M i0 i1 sp dp n) i0 (sp + n)) = wcpy M i0 i1 sp dp (n + 1) := by
  refine Prod.ext ?_ rfl
  funext a b
  have e : wg (wcpy M i0 i1 sp dp n) i0 (sp + n) = M.1 i0 (sp + n) := by rw [wg_cpy, if_neg h01]; rfl
  rw [e]
  show (if a = i1 ∧ b = dp + n then M.1 i0 (sp + n) else if a = i1 then (if dp ≤ b ∧ b < dp + n then M.1 i0 (sp + (b - dp)) else M.1 i1 b) else M.1 a b) = (if a = i1 then (if dp ≤ b ∧ b < dp + (n + 1) then M.1 i0 (sp + (b - dp)) else M.1 i1 b) else M.1 a b)
  by_cases h : a = i1
  · rw [if_pos h, if_pos h]
    by_cases h2 : b = dp + n
    · rw [if_pos ⟨h, h2⟩, if_pos (by omega), h2, show sp + (dp + n - dp) = sp + n by omega]
    · rw [if_neg (fun q => h2 q.2)]
      by_cases h3 : dp ≤ b ∧ b < dp + n
      · rw [if_pos h3, if_pos (by omega)]
      · rw [if_neg h3, if_neg (by omega)]
  · rw [if_neg (fun q => h q.1), if_neg h, if_neg h]
section CPY
variable {G : GG} {d : Nat} {M : WM}
set_option maxHeartbeats 200000 in
theorem lp_copy_44_43 {dp sp : Nat} (hd : dp + 11 ≤ 110) (hs : sp + 11 ≤ 11) : ∀ (n k : Nat), k + n = 11 →
    A G d 119 3 [some (.ref 44), some (.int (nI dp)), some (.ref 43), some (.int (nI sp)), some (.int (nI k))] [] (wcpy M 43 44 sp dp k) (fun r M2 => r = none ∧ M2 = wcpy M 43 44 sp dp 11)
  | 0, k, hk => by
    refine A_wp okc_X10_copy [3] ?_
    refine And.intro (fun _ => ?_) (fun h => absurd (nI_le (by omega) (by omega)) h)
    rw [show k = 11 by omega]
    exact And.intro rfl rfl
  | n + 1, k, hk => by
    refine A_wp okc_X10_copy [3] ?_
    refine And.intro (fun h => absurd h (nI_ge (by omega) (by omega))) (fun _ => ?_)
    refine And.intro (by rw [nI_add]; exact vp_in_nI (by omega) (by decide)) ?_
    refine And.intro (by rw [nI_add]; exact vp_in_nI (by omega) (by decide)) ?_
    rw [nI_add, nI_add, nI_clamp (n := sp + k) (by omega), nI_clamp (n := dp + k) (by omega), wcpy_s M (show 43 ≠ 44 by omega)]
    have ih := lp_copy_44_43 hd hs n (k + 1) (by omega)
    rw [← nI_add k 1] at ih
    exact And.intro trivial ih
theorem m_copy_44_43 {dp sp : Nat} (hd : dp + 11 ≤ 110) (hs : sp + 11 ≤ 11) : Fn G d 119 [.ref 44, .int (nI dp), .ref 43, .int (nI sp)] M none (wcpy M 43 44 sp dp 11) := by
  refine Fn_of okc_X10_copy [3] ?_
  have h := lp_copy_44_43 (G := G) (d := d) (M := M) hd hs 11 0 (by omega)
  rw [wcpy_0] at h
  exact And.intro trivial h
set_option maxHeartbeats 200000 in
theorem lp_copy_43_44 {dp sp : Nat} (hd : dp + 11 ≤ 11) (hs : sp + 11 ≤ 110) : ∀ (n k : Nat), k + n = 11 →
    A G d 119 3 [some (.ref 43), some (.int (nI dp)), some (.ref 44), some (.int (nI sp)), some (.int (nI k))] [] (wcpy M 44 43 sp dp k) (fun r M2 => r = none ∧ M2 = wcpy M 44 43 sp dp 11)
  | 0, k, hk => by
    refine A_wp okc_X10_copy [3] ?_
    refine And.intro (fun _ => ?_) (fun h => absurd (nI_le (by omega) (by omega)) h)
    rw [show k = 11 by omega]
    exact And.intro rfl rfl
  | n + 1, k, hk => by
    refine A_wp okc_X10_copy [3] ?_
    refine And.intro (fun h => absurd h (nI_ge (by omega) (by omega))) (fun _ => ?_)
    refine And.intro (by rw [nI_add]; exact vp_in_nI (by omega) (by decide)) ?_
    refine And.intro (by rw [nI_add]; exact vp_in_nI (by omega) (by decide)) ?_
    rw [nI_add, nI_add, nI_clamp (n := sp + k) (by omega), nI_clamp (n := dp + k) (by omega), wcpy_s M (show 44 ≠ 43 by omega)]
    have ih := lp_copy_43_44 hd hs n (k + 1) (by omega)
    rw [← nI_add k 1] at ih
    exact And.intro trivial ih
theorem m_copy_43_44 {dp sp : Nat} (hd : dp + 11 ≤ 11) (hs : sp + 11 ≤ 110) : Fn G d 119 [.ref 43, .int (nI dp), .ref 44, .int (nI sp)] M none (wcpy M 44 43 sp dp 11) := by
  refine Fn_of okc_X10_copy [3] ?_
  have h := lp_copy_43_44 (G := G) (d := d) (M := M) hd hs 11 0 (by omega)
  rw [wcpy_0] at h
  exact And.intro trivial h
set_option maxHeartbeats 200000 in
theorem lp_copy_45_43 {dp sp : Nat} (hd : dp + 11 ≤ 22) (hs : sp + 11 ≤ 11) : ∀ (n k : Nat), k + n = 11 →
    A G d 119 3 [some (.ref 45), some (.int (nI dp)), some (.ref 43), some (.int (nI sp)), some (.int (nI k))] [] (wcpy M 43 45 sp dp k) (fun r M2 => r = none ∧ M2 = wcpy M 43 45 sp dp 11)
  | 0, k, hk => by
    refine A_wp okc_X10_copy [3] ?_
    refine And.intro (fun _ => ?_) (fun h => absurd (nI_le (by omega) (by omega)) h)
    rw [show k = 11 by omega]
    exact And.intro rfl rfl
  | n + 1, k, hk => by
    refine A_wp okc_X10_copy [3] ?_
    refine And.intro (fun h => absurd h (nI_ge (by omega) (by omega))) (fun _ => ?_)
    refine And.intro (by rw [nI_add]; exact vp_in_nI (by omega) (by decide)) ?_
    refine And.intro (by rw [nI_add]; exact vp_in_nI (by omega) (by decide)) ?_
    rw [nI_add, nI_add, nI_clamp (n := sp + k) (by omega), nI_clamp (n := dp + k) (by omega), wcpy_s M (show 43 ≠ 45 by omega)]
    have ih := lp_copy_45_43 hd hs n (k + 1) (by omega)
    rw [← nI_add k 1] at ih
    exact And.intro trivial ih
theorem m_copy_45_43 {dp sp : Nat} (hd : dp + 11 ≤ 22) (hs : sp + 11 ≤ 11) : Fn G d 119 [.ref 45, .int (nI dp), .ref 43, .int (nI sp)] M none (wcpy M 43 45 sp dp 11) := by
  refine Fn_of okc_X10_copy [3] ?_
  have h := lp_copy_45_43 (G := G) (d := d) (M := M) hd hs 11 0 (by omega)
  rw [wcpy_0] at h
  exact And.intro trivial h
set_option maxHeartbeats 200000 in
theorem lp_copy_43_45 {dp sp : Nat} (hd : dp + 11 ≤ 11) (hs : sp + 11 ≤ 22) : ∀ (n k : Nat), k + n = 11 →
    A G d 119 3 [some (.ref 43), some (.int (nI dp)), some (.ref 45), some (.int (nI sp)), some (.int (nI k))] [] (wcpy M 45 43 sp dp k) (fun r M2 => r = none ∧ M2 = wcpy M 45 43 sp dp 11)
  | 0, k, hk => by
    refine A_wp okc_X10_copy [3] ?_
    refine And.intro (fun _ => ?_) (fun h => absurd (nI_le (by omega) (by omega)) h)
    rw [show k = 11 by omega]
    exact And.intro rfl rfl
  | n + 1, k, hk => by
    refine A_wp okc_X10_copy [3] ?_
    refine And.intro (fun h => absurd h (nI_ge (by omega) (by omega))) (fun _ => ?_)
    refine And.intro (by rw [nI_add]; exact vp_in_nI (by omega) (by decide)) ?_
    refine And.intro (by rw [nI_add]; exact vp_in_nI (by omega) (by decide)) ?_
    rw [nI_add, nI_add, nI_clamp (n := sp + k) (by omega), nI_clamp (n := dp + k) (by omega), wcpy_s M (show 45 ≠ 43 by omega)]
    have ih := lp_copy_43_45 hd hs n (k + 1) (by omega)
    rw [← nI_add k 1] at ih
    exact And.intro trivial ih
theorem m_copy_43_45 {dp sp : Nat} (hd : dp + 11 ≤ 11) (hs : sp + 11 ≤ 22) : Fn G d 119 [.ref 43, .int (nI dp), .ref 45, .int (nI sp)] M none (wcpy M 45 43 sp dp 11) := by
  refine Fn_of okc_X10_copy [3] ?_
  have h := lp_copy_43_45 (G := G) (d := d) (M := M) hd hs 11 0 (by omega)
  rw [wcpy_0] at h
  exact And.intro trivial h
/-- the first n of was are those 11 behind them -/
def shf (M : WM) (n : Nat) : WM := (fun a b => if a = 44 ∧ b < n then M.1 44 (b + 11) else M.1 a b, M.2)
theorem wg_shf (M : WM) (n a b : Nat) : wg (shf M n) a b = if a = 44 ∧ b < n then wg M 44 (b + 11) else wg M a b := rfl
theorem shf_0 (M : WM) : shf M 0 = M := by
  refine Prod.ext ?_ rfl
  funext a b
  show (if a = 44 ∧ b < 0 then M.1 44 (b + 11) else M.1 a b) = M.1 a b
  rw [if_neg (by omega)]
theorem shf_s (M : WM) (n : Nat) : wset (shf M n) 44 n (wg (shf M n) 44 (n + 11)) = shf M (n + 1) := by
  refine Prod.ext ?_ rfl
  funext a b
  have e : wg (shf M n) 44 (n + 11) = M.1 44 (n + 11) := by rw [wg_shf, if_neg (by omega)]; rfl
  rw [e]
  show (if a = 44 ∧ b = n then M.1 44 (n + 11) else if a = 44 ∧ b < n then M.1 44 (b + 11) else M.1 a b) = if a = 44 ∧ b < n + 1 then M.1 44 (b + 11) else M.1 a b
  by_cases h : a = 44 ∧ b = n
  · rw [if_pos h, if_pos (by omega), h.2]
  · rw [if_neg h]
    by_cases h2 : a = 44 ∧ b < n
    · rw [if_pos h2, if_pos (by omega)]
    · rw [if_neg h2, if_neg (by omega)]
/-- what remembers() does -/
def remW (M : WM) : WM := if nK M = 10 then wset (wcpy (wset (shf M 99) 39 8 (nI 9)) 43 44 0 99 11) 39 8 (nI 10) else wset (wcpy M 43 44 0 (11 * nK M) 11) 39 8 (nI (nK M + 1))
set_option maxHeartbeats 200000 in
theorem lp_shift (P : Option Value → WM → Prop) (hk : A G d 145 38 [some (.ref 39), some (.int (nI 99))] [] (shf M 99) P) : ∀ (n k : Nat), k + n = 99 →
    A G d 145 11 [some (.ref 39), some (.int (nI k))] [] (shf M k) P
  | 0, k, hn => by
    refine A_wp okc_X10_remembers [11, 38] ?_
    refine And.intro (fun _ => ?_) (fun h => absurd (nI_le (by omega) (by omega)) h)
    rw [show k = 99 by omega]
    exact And.intro trivial hk
  | n + 1, k, hn => by
    refine A_wp okc_X10_remembers [11, 38] ?_
    refine And.intro (fun h => absurd h (nI_ge (by omega) (by omega))) (fun _ => ?_)
    refine And.intro (by rw [nI_add]; exact vp_in_nI (by omega) (by decide)) ?_
    refine And.intro (vp_in_nI (by omega) (by decide)) ?_
    rw [nI_add, nI_clamp (n := k + 11) (by omega), nI_clamp (n := k) (by omega), shf_s]
    have ih := lp_shift P hk n (k + 1) (by omega)
    rw [← nI_add k 1] at ih
    exact And.intro trivial ih
theorem m_remembers (hK : wg M 39 8 = nI (nK M) ∧ nK M ≤ 10) : Fn G (d + 1) 145 [.ref 39] M none (remW M) := by
  have fin : ∀ (N : WM) (kn : Nat) (z : Option Value), wg N 39 8 = nI kn → kn < 10 → A G (d + 1) 145 48 [some (.ref 39), z] [] N (fun r M2 => r = none ∧ M2 = wset (wcpy N 43 44 0 (11 * kn) 11) 39 8 (nI (kn + 1))) := by
    intro N kn z hN hlt
    have e1 : wg (wcpy N 43 44 0 (11 * kn) 11) 39 8 = nI kn := hN
    refine A_wp okc_X10_remembers [] ?_
    conv => whnf
    rw [hN, pk_mul]
    refine call_k (m_copy_44_43 (by omega) (by omega)) ?_
    conv => whnf
    rw [e1, nI_add]
    exact And.intro rfl rfl
  refine Fn_of okc_X10_remembers [11, 48] ?_
  conv => whnf
  rw [hK.1]
  refine And.intro (fun h => ?_) (fun h => ?_)
  · rw [nI_eq (by omega) (by omega)] at h
    refine And.intro trivial ?_
    have f := fin M (nK M) none hK.1 (by omega)
    refine A_mono (fun r M2 q => ⟨q.1, q.2.trans ?_⟩) f
    unfold remW
    rw [if_neg h]
  · rw [nI_eq (by omega) (by omega)] at h
    refine And.intro trivial ?_
    have l := lp_shift (G := G) (d := d + 1) (M := M) (fun r M2 => r = none ∧ M2 = remW M) ?_ 99 0 (by omega)
    · rw [shf_0] at l
      exact l
    · have e9 : wg (shf M 99) 39 8 = nI 10 := hK.1.trans (by rw [h])
      refine A_wp okc_X10_remembers [48] ?_
      conv => whnf
      rw [e9]
      refine And.intro trivial ?_
      rw [pk_sub (show 1 ≤ 10 by omega)]
      have f := fin (wset (shf M 99) 39 8 (nI 9)) 9 (some (.int (nI 99))) (wg_same _ _ _ _) (by omega)
      refine A_mono (fun r M2 q => ⟨q.1, q.2.trans ?_⟩) f
      unfold remW
      rw [if_pos h]
end CPY
