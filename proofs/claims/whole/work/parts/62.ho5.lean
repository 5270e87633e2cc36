-- house: the class's call
def fil30 (M : WM) : Nat → WM
  | 0 => M
  | k + 1 => wset (fil30 M k) 30 k (nI 0)
theorem fil30_o (M : WM) {i : Nat} (hi : i ≠ 30) : ∀ k, wg (fil30 M k) i = wg M i
  | 0 => rfl
  | k + 1 => (wg_row_ne hi).trans (fil30_o M hi k)
theorem fil30_L (M : WM) : ∀ k, (fil30 M k).2 = M.2
  | 0 => rfl
  | k + 1 => fil30_L M k
theorem fil30_v (M : WM) : ∀ n k, k < n → wg (fil30 M n) 30 k = nI 0
  | 0, k, h => absurd h (by omega)
  | n + 1, k, h => by
    show wg (wset (fil30 M n) 30 n (nI 0)) 30 k = nI 0
    by_cases q : k = n
    · rw [q, wg_same]
    · rw [wg_ne2 q]; exact fil30_v M n k (by omega)
def BtP (N : WM) (hs : Hs) : Option Value → WM → Prop := fun q N2 => q = none ∧ (∀ i, i ≠ 30 → wg N2 i = wg N i) ∧ N2.2 = N.2 ∧ ∀ k, k < 11 → wg N2 30 k = if k < 4 ∧ k < hs.2.2.1 then nI (hs.2.2.2 5 k) else nI 0
section HOC
variable {G : GG} {d : Nat} {M N : WM}
set_option maxHeartbeats 100000 in
theorem lp_fill30 : ∀ (n k : Nat), k + n = 11 →
    A G d 1 5 [some (.ref 30), some (.int (nI 0)), some (.int (nI k)), some (.int (nI 11))] [] (fil30 M k) (fun r M2 => r = none ∧ M2 = fil30 M 11)
  | 0, k, hk => by
    refine A_wp okc_J7_fill_53178 [5] ?_
    refine And.intro (fun _ => ?_) (fun h => absurd (nI_le (by omega) (by omega)) h)
    rw [show k = 11 by omega]
    exact And.intro rfl rfl
  | n + 1, k, hk => by
    refine A_wp okc_J7_fill_53178 [5] ?_
    refine And.intro (fun h => absurd h (nI_ge (by omega) (by omega))) (fun _ => ?_)
    refine And.intro (vp_in_nI (by omega) (by decide)) ?_
    rw [nI_clamp (n := k) (by omega)]
    have ih := lp_fill30 n (k + 1) (by omega)
    rw [← nI_add k 1] at ih
    exact And.intro trivial ih
theorem c_fill30 : Fn G d 1 [.ref 30, .int (nI 0)] M none (fil30 M 11) := by
  refine Fn_of okc_J7_fill_53178 [5] ?_
  exact And.intro trivial (lp_fill30 11 0 (by omega))
set_option maxHeartbeats 200000 in
theorem lp_bat {hs : Hs} (hh : HsC N 1 12 hs) (ho : HsOK hs) : ∀ (n k : Nat) (N2 : WM), k + n = hs.2.2.1 → (∀ i, i ≠ 30 → wg N2 i = wg N i) → N2.2 = N.2 → (∀ j, j < 11 → wg N2 30 j = if j < k then nI (hs.2.2.2 5 j) else nI 0) →
    A G (d + 2) 44 10 [some (.ref 4), some (.ref 1), some (.int (nI k))] [] N2 (BtP N hs)
  | 0, k, N2, hk, h1, h2, h3 => by
    have hb4 := ho.2.2.1
    have e12 : wg N2 1 2 = nI hs.2.2.1 := by rw [h1 1 (by omega)]; exact hh.1.2.2
    refine A_wp okc_X4_beginAsTold [10] ?_
    refine And.intro (fun _ => ?_) (fun h => ?_)
    · refine ⟨rfl, h1, h2, fun j hj => ?_⟩
      rw [h3 j hj]
      by_cases q : j < k
      · rw [if_pos q, if_pos ⟨by omega, by omega⟩]
      · rw [if_neg q, if_neg (by omega)]
    · rw [e12] at h
      exact absurd (nI_le (by omega) (by omega)) h
  | n + 1, k, N2, hk, h1, h2, h3 => by
    have hb4 := ho.2.2.1
    have e12 : wg N2 1 2 = nI hs.2.2.1 := by rw [h1 1 (by omega)]; exact hh.1.2.2
    have q : k < hs.2.2.1 := by omega
    have next : ∀ v, v = nI (hs.2.2.2 5 k) → A G (d + 2) 44 10 [some (.ref 4), some (.ref 1), some (.int (nI k + nI 1))] [] (wset N2 30 k v) (BtP N hs) := by
      intro v hv
      have ih := lp_bat hh ho n (k + 1) (wset N2 30 k v) (by omega) (fun i hi => (wg_row_ne hi).trans (h1 i hi)) h2 (fun j hj => by
        by_cases e : j = k
        · rw [e, wg_same, hv, if_pos (by omega)]
        · rw [wg_ne2 e, h3 j hj]
          by_cases z : j < k
          · rw [if_pos z, if_pos (by omega)]
          · rw [if_neg z, if_neg (by omega)])
      rw [← nI_add k 1] at ih
      exact ih
    refine A_wp okc_X4_beginAsTold [10] ?_
    refine And.intro (fun h => ?_) (fun _ => ?_)
    · rw [e12] at h
      exact absurd h (nI_ge (by omega) (by omega))
    · refine And.intro (fun h => absurd h (nI_ge (by omega) (by omega))) (fun _ => ?_)
      refine call_k (c_depth e12 hb4 q) ?_
      refine And.intro (vp_in_nI (by omega) (by decide)) ?_
      rw [nI_clamp (n := k) (by omega), h1 17 (by omega), show wg N 17 k = nI (hs.2.2.2 5 k) from (hh.2.2.2 k q).1]
      exact And.intro trivial (next _ rfl)
theorem c_beginAsTold {hs : Hs} (hh : HsC N 1 12 hs) (ho : HsOK hs) : Fr G (d + 2) 44 [.ref 4, .ref 1] N (BtP N hs) := by
  refine Fr_of okc_X4_beginAsTold [10] ?_
  refine call_k c_fill30 ?_
  refine And.intro trivial (lp_bat hh ho hs.2.2.1 0 _ (by omega) (fun i hi => fil30_o N hi 11) (fil30_L N 11) (fun j hj => ?_))
  rw [if_neg (by omega)]
  exact fil30_v N 11 j hj
def EndC (M N : WM) (hs : Hs) : Prop := HsC N 1 12 hs ∧ wg N 3 0 = nI 0 ∧ (∀ k, k < 11 → wg N 30 k = if k < 4 ∧ k < hs.2.2.1 then nI (hs.2.2.2 5 k) else nI 0) ∧ (wg N 5 0 = nI 0 ∧ wg N 5 1 = wg M 5 1) ∧ wg N 10 0 = nI 0 ∧ wg N 0 6 = nI 0 ∧ (∀ i, 39 ≤ i → wg N i = wg M i) ∧ N.2 = M.2
def HcP (M : WM) (F : Nat ⊕ Hs) (L : Nat) : Option Value → WM → Prop := fun q N => (∃ k, F = .inl k ∧ k ≤ L ∧ q = some (.int (mI 10 - nI k)) ∧ Ch 2 20 M N) ∨ (∃ hs, F = .inr hs ∧ HsOK hs ∧ q = some (.int (nI (hs.1 + hs.2.1 + hs.2.2.1))) ∧ EndC M N hs)
theorem c_items {hs : Hs} (hh : HsC N 1 12 hs) : Fn G d 22 [.ref 1] N (some (.int (nI (hs.1 + hs.2.1 + hs.2.2.1)))) N := by
  refine Fn_of okc_X2_items [] ?_
  refine ret_i ?_
  rw [hh.1.1, hh.1.2.1, hh.1.2.2, nI_add, nI_add]
set_option maxHeartbeats 400000 in
theorem c_house {L : Nat} {x : Nat → Nat} (hT : TxC M L x) : Fr G (d + 5) 86 [.ref 0] M (HcP M (RT_ L x 0 sg01) L) := by
  have hL := hT.2.1
  refine Fr_of okc_X9_house [] ?_
  refine call_r (t_tells2 hT) ?_
  rintro r N1 ⟨hc1, ⟨hs, hF, rfl, hh1, ho⟩ | ⟨k, hF, hk, rfl⟩⟩
  · refine And.intro (fun _ => ?_) (fun h => absurd rfl h)
    refine call_r (t_tells1 (hc1.tx hok2 hT)) ?_
    rintro r N2 ⟨hc2, ⟨hs', hF', rfl, hh2, ho'⟩ | ⟨k, hF', hk, rfl⟩⟩
    · have e : hs' = hs := by
        have q : (Sum.inr hs' : Nat ⊕ Hs) = .inr hs := hF'.symm.trans hF
        cases q
        rfl
      subst e
      have hh3 : HsC (wset N2 3 0 (nI 0)) 1 12 hs' := hh2
      refine call_r (c_beginAsTold hh3 ho) ?_
      rintro r N3 ⟨rfl, b1, b2, b3⟩
      refine call_k c_lose ?_
      have hh4 : HsC (wset (wset (wset N3 5 0 (nI 0)) 10 0 (nI 0)) 0 6 (nI 0)) 1 12 hs' := HsC.cg (M := N3) (HsC.cg hh3 (b1 1 (by omega)) (fun i hi => b1 _ (by omega))) rfl (fun i hi => by
        rw [wg_row_ne (by omega), wg_row_ne (by omega), wg_row_ne (by omega)])
      refine call_k (c_items hh4) ?_
      refine Or.inr ⟨hs', hF, ho, rfl, hh4, ?_, b3, ⟨rfl, ?_⟩, rfl, rfl, fun i hi => ?_, ?_⟩
      · show wg N3 3 0 = nI 0
        rw [b1 3 (by omega)]; rfl
      · show wg N3 5 1 = wg M 5 1
        rw [b1 5 (by omega)]
        show wg N2 5 1 = wg M 5 1
        rw [hc2.1 5 (by omega) (by omega) (by omega) (by omega), hc1.1 5 (by omega) (by omega) (by omega) (by omega)]
      · rw [wg_row_ne (by omega), wg_row_ne (by omega), wg_row_ne (by omega), b1 i (by omega), wg_row_ne (by omega), hc2.1 i (by omega) (by omega) (by omega) (by omega), hc1.1 i (by omega) (by omega) (by omega) (by omega)]
      · show N3.2 = M.2
        rw [b2]
        show N2.2 = M.2
        rw [hc2.2.2, hc1.2.2]
    · have q : (Sum.inl k : Nat ⊕ Hs) = .inr hs := hF'.symm.trans hF
      cases q
  · refine And.intro (fun h => absurd h (mI1_ne k (by omega))) (fun _ => ?_)
    exact Or.inl ⟨k, hF, hk, rfl, hc1⟩
end HOC
