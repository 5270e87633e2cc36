-- agenda: the class's call; the reference's leaves
noncomputable def agS (M : WM) (b : Nat) : BS := agN M b 5 0 (fun _ => 0) (wg M 43 (3 + b)) (nI 0) (nI 0, 0, fun _ => 0)
noncomputable def S_agenda (M : WM) (b : Nat) (y : Int32) : Int32 := iteI (y = mI 1) (agS M b).1 (iteI (y < nI (agS M b).2.1) (nI ((agS M b).2.2 y.toNatClampNeg)) (mI 5))
noncomputable def R_agenda (M : WM) (x y : Int32) : Int32 := iteI (ix x (nB M) ∧ mI 1 ≤ y) (S_agenda M x.toNatClampNeg y) (mI 1)
theorem ge_m1 {y : Int32} (h : mI 1 ≤ y) (h2 : ¬ y = mI 1) : ¬ y < nI 0 := by
  have e1 : (mI 1).toInt = -1 := rfl
  have e0 : (nI 0).toInt = 0 := rfl
  rw [Int32.le_iff_toInt_le] at h
  rw [Int32.lt_iff_toInt_lt]
  have h3 : y.toInt ≠ (mI 1).toInt := fun q => h2 (Int32.toInt_inj.mp q)
  omega
theorem tk_0 : ∀ m, m < 5 → (nI 0 >>> (nI m &&& 31)) &&& nI 1 = nI 0 := by decide
section AGC
variable {G : GG} {d : Nat} {M : WM}
theorem c_chosen {k : Nat} (hk : k < 5) : Fn G d 65 [.ref 9, .int (nI k)] M (some (.int (wg M 34 k))) M := by
  refine Fn_of okc_X7_chosen [] ?_
  refine And.intro (fun h => absurd h (nI_nlt (by omega) (by omega))) (fun _ => ?_)
  refine And.intro (fun h => absurd h (nI_ge (by omega) (by omega))) (fun _ => ?_)
  refine And.intro (vp_in_nI (by omega) (by decide)) ?_
  rw [nI_clamp (n := k) (by omega)]
  exact And.intro rfl rfl
theorem c_findAgenda (hG : Good M) {b : Nat} (hb : b < nB M) : Fr G (d + 13) 69 [.ref 9, .int (nI b)] M (fun q N => q = none ∧ Cs M N ∧ BsC N (agS M b)) := by
  have hB := hG.b
  refine Fr_of okc_X7_findAgenda [] ?_
  refine call_k (c_ndepth (by omega)) ?_
  have e30 : wg (wset (wset M 9 3 (mI 1)) 9 4 (nI 0)) 30 b = wg M 43 (3 + b) := hG.rdep (by omega)
  rw [e30]
  refine call_r (c_readFrom hG hb 5 0 (d + 12) 0 (fun _ => 0) (wg M 43 (3 + b)) (nI 0) (mI 1, 0, fun _ => 0) (wset (wset M 9 3 (mI 1)) 9 4 (nI 0)) (by omega) (by omega) ⟨by omega, fun m hm => ⟨fun _ q => by obtain ⟨k, hk, _⟩ := q; omega, fun _ => tk_0 m hm⟩⟩ (hG.dn hb) ((Cs.set rfl).tr (Cs.set rfl)) ⟨rfl, rfl, Nat.zero_le 5, fun k hk => absurd hk (Nat.not_lt_zero k)⟩ (fun k hk => by omega)) ?_
  rintro r N ⟨rfl, hcs, hbs, _⟩
  rw [lk_t (Or.inl (by decide))] at hbs
  exact ⟨rfl, hcs, hbs⟩
set_option maxHeartbeats 400000 in
theorem c_agenda (hG : Good M) (x y : Int32) : Fr G (d + 14) 103 [.ref 0, .int x, .int y] M (AnsC M (R_agenda M x y)) := by
  have hB := hG.b
  refine Fr_of okc_X9_agenda [] ?_
  refine call_k (c_hasBaby hB.1 hB.2 x) ?_
  refine And.intro (fun h => ?_) (fun h => ?_)
  · rw [bI_0] at h
    exact AnsC.eq (iteI_f (fun q => h q.1)).symm (Cs.rf M)
  rw [bI_0, Classical.not_not] at h
  refine And.intro (fun h1 => ?_) (fun h1 => ?_)
  · unfold R_agenda
    rw [iteI_t ⟨h, h1⟩]
    obtain ⟨b, hb, rfl⟩ := ix_of h (by omega)
    rw [nI_clamp (n := b) (by omega)]
    unfold S_agenda
    refine call_r (c_findAgenda hG hb) ?_
    rintro r N ⟨rfl, hcs, hbs⟩
    refine And.intro (fun h2 => ?_) (fun h2 => ?_)
    · rw [iteI_f h2]
      have h0 := ge_m1 h1 h2
      obtain ⟨k, hk, rfl⟩ := nI_of h0
      have h5 := hbs.2.2.1
      conv => whnf
      rw [hbs.2.1]
      refine And.intro (fun h3 => ?_) (fun h3 => ?_)
      · exact AnsC.eq (iteI_f (Int32.not_lt.mpr h3)).symm hcs
      · have h3 := Int32.not_le.mp h3
        rw [iteI_t h3, nI_clamp hk]
        rw [nI_ltI hk (by omega)] at h3
        refine call_k (c_chosen (by omega)) ?_
        exact AnsC.eq (hbs.2.2.2 k h3) hcs
    · rw [iteI_t h2]
      exact AnsC.eq hbs.1 hcs
  · exact AnsC.eq (iteI_f (fun q => h1 q.2)).symm (Cs.rf M)
end AGC
-- the reference
def sumW (M : WM) (p : Nat → Nat) : Nat → Int32
  | 0 => nI 0
  | k + 1 => sumW M p k + wg M 41 (8 * p k)
theorem sumW_cg {M : WM} {p p' : Nat → Nat} : ∀ n, (∀ k, k < n → p k = p' k) → sumW M p n = sumW M p' n
  | 0, _ => rfl
  | n + 1, h => by
    show sumW M p n + wg M 41 (8 * p n) = sumW M p' n + wg M 41 (8 * p' n)
    rw [sumW_cg n (fun k hk => h k (by omega)), h n (by omega)]
def BsM (N : WM) (s : BS) : Prop := wg N 39 36 = s.1 ∧ wg N 39 40 = nI s.2.1 ∧ s.2.1 ≤ 5 ∧ ∀ k, k < s.2.1 → wg N 60 k = nI (s.2.2 k)
def Fm (N N2 : WM) : Prop := (∀ i, i ≠ 39 → i ≠ 60 → wg N2 i = wg N i) ∧ (∀ k, k ≠ 36 → k ≠ 40 → wg N2 39 k = wg N 39 k) ∧ N2.2 = N.2
theorem Fm.sc {N N2 : WM} (h : Fm N N2) : Sc N N2 := ⟨fun i hi => h.1 i (by omega) (by omega), ⟨h.2.1 0 (by omega) (by omega), h.2.1 2 (by omega) (by omega), h.2.1 4 (by omega) (by omega), h.2.1 8 (by omega) (by omega), h.2.1 11 (by omega) (by omega), h.2.1 15 (by omega) (by omega)⟩, h.2.2⟩
def lbW (N : WM) : Nat → WM
  | 0 => N
  | k + 1 => wset (lbW N k) 60 k (wg N 58 k)
theorem lbW_o (N : WM) {i : Nat} (hi : i ≠ 60) : ∀ k, wg (lbW N k) i = wg N i
  | 0 => rfl
  | k + 1 => (wg_row_ne hi).trans (lbW_o N hi k)
theorem lbW_L (N : WM) : ∀ k, (lbW N k).2 = N.2
  | 0 => rfl
  | k + 1 => lbW_L N k
theorem lbW_v (N : WM) : ∀ n k, k < n → wg (lbW N n) 60 k = wg N 58 k
  | 0, k, h => absurd h (by omega)
  | n + 1, k, h => by
    show wg (wset (lbW N n) 60 n (wg N 58 n)) 60 k = wg N 58 k
    by_cases e : k = n
    · rw [e, wg_same]
    · rw [wg_ne2 e]; exact lbW_v N n k (by omega)
section AGM
variable {G : GG} {d : Nat} {M : WM}
set_option maxHeartbeats 200000 in
theorem lp_isIn {N : WM} {m n : Nat} (hn : n ≤ 6) : ∀ (u k : Nat), k + u = n →
    A G d 164 5 [some (.ref 39), some (.int (nI m)), some (.int (nI n)), some (.int (bI (∃ i, i < k ∧ wg N 58 i = nI m))), some (.int (nI k))] [] N (fun r M2 => r = some (.int (bI (∃ i, i < n ∧ wg N 58 i = nI m))) ∧ M2 = N)
  | 0, k, hk => by
    refine A_wp okc_X10_isIn [5] ?_
    refine And.intro (fun _ => ?_) (fun h => absurd (nI_le (by omega) (by omega)) h)
    rw [show k = n by omega]
    exact And.intro (isB_bI _) (And.intro rfl rfl)
  | u + 1, k, hk => by
    have ih := lp_isIn (N := N) (m := m) hn u (k + 1) (by omega)
    rw [← nI_add k 1] at ih
    refine A_wp okc_X10_isIn [5] ?_
    refine And.intro (fun h => absurd h (nI_ge (by omega) (by omega))) (fun _ => ?_)
    refine And.intro (fun h => ?_) (fun h => ?_)
    · rw [bI_0, Classical.not_not] at h
      obtain ⟨i, hi, e⟩ := h
      rw [bI_t ⟨i, by omega, e⟩] at ih
      exact And.intro trivial ih
    · rw [bI_0] at h
      refine And.intro (vp_in_nI (by omega) (by decide)) ?_
      rw [nI_clamp (n := k) (by omega)]
      refine And.intro (fun h1 => ?_) (fun h1 => ?_)
      · rw [bI_f (fun q => by
          obtain ⟨i, hi, e⟩ := q
          by_cases z : i = k
          · rw [z] at e; exact h1 e
          · exact h ⟨i, by omega, e⟩)] at ih
        exact And.intro trivial ih
      · rw [bI_t ⟨k, by omega, h1⟩] at ih
        exact And.intro trivial ih
theorem m_isIn {N : WM} {m n : Nat} (hn : n ≤ 6) : Fn G d 164 [.ref 39, .int (nI m), .int (nI n)] N (some (.int (bI (∃ i, i < n ∧ wg N 58 i = nI m)))) N := by
  refine Fn_of okc_X10_isIn [5] ?_
  have h := lp_isIn (G := G) (d := d) (N := N) (m := m) hn n 0 (by omega)
  rw [bI_f (show ¬ ∃ i, i < 0 ∧ wg N 58 i = nI m from fun q => by obtain ⟨i, hi, _⟩ := q; omega)] at h
  exact And.intro trivial h
def LaP (M N : WM) (p : Nat → Nat) (n : Nat) (s : BS) : Option Value → WM → Prop := fun q N2 => q = none ∧ Fm N N2 ∧ BsM N2 (lk (sumW M p n) n p s)
set_option maxHeartbeats 200000 in
theorem lp_la68 {N : WM} {p : Nat → Nat} {n : Nat} {s : BS} {x : Int32} (hn : n ≤ 5) (P : Option Value → WM → Prop) (hfin : P none (lbW N n)) : ∀ (u k : Nat), k + u = n →
    A G d 165 68 [some (.ref 39), some (.int (nI n)), some (.int x), some (.int (nI k))] [] (lbW N k) P
  | 0, k, hk => by
    refine A_wp okc_X10_looksAt [68] ?_
    refine And.intro (fun _ => ?_) (fun h => absurd (nI_le (by omega) (by omega)) h)
    rw [show k = n by omega]
    exact hfin
  | u + 1, k, hk => by
    have ih := lp_la68 (p := p) (s := s) (x := x) hn P hfin u (k + 1) (by omega)
    rw [← nI_add k 1] at ih
    refine A_wp okc_X10_looksAt [68] ?_
    refine And.intro (fun h => absurd h (nI_ge (by omega) (by omega))) (fun _ => ?_)
    refine And.intro (vp_in_nI (by omega) (by decide)) ?_
    rw [nI_clamp (n := k) (by omega), lbW_o N (show 58 ≠ 60 by omega) k]
    refine And.intro (vp_in_nI (by omega) (by decide)) ?_
    rw [nI_clamp (n := k) (by omega)]
    exact And.intro trivial ih
set_option maxHeartbeats 400000 in
theorem la_32 {N : WM} {p : Nat → Nat} {n : Nat} {s : BS} (hn : n ≤ 5) (hp : ∀ k, k < n → wg N 58 k = nI (p k)) (hbs : BsM N s) (z : Option Value) :
    A G d 165 32 [some (.ref 39), some (.int (nI n)), some (.int (sumW M p n)), z] [] N (LaP M N p n s) := by
  have hb5 := hbs.2.2.1
  have take : (s.1 < sumW M p n ∨ (sumW M p n = s.1 ∧ n < s.2.1)) → A G d 165 56 [some (.ref 39), some (.int (nI n)), some (.int (sumW M p n)), z] [] N (LaP M N p n s) := by
    intro h
    refine A_wp okc_X10_looksAt [68] ?_
    refine And.intro trivial ?_
    refine lp_la68 (p := p) (s := s) (N := wset (wset N 39 36 (sumW M p n)) 39 40 (nI n)) hn _ ?_ n 0 (by omega)
    refine ⟨rfl, ⟨fun i h1 h2 => ?_, fun k h1 h2 => ?_, lbW_L _ n⟩, ?_⟩
    · rw [lbW_o _ h2, wg_row_ne h1, wg_row_ne h1]
    · rw [lbW_o _ (by omega), wg_ne2 h2, wg_ne2 h1]
    · rw [lk_t h]
      refine ⟨?_, ?_, hn, fun k hk => ?_⟩
      · rw [lbW_o _ (by omega)]; rfl
      · rw [lbW_o _ (by omega)]; rfl
      · rw [lbW_v _ n k hk]; exact hp k hk
  have keep : ¬ (s.1 < sumW M p n ∨ (sumW M p n = s.1 ∧ n < s.2.1)) → LaP M N p n s none N := fun h => by
    refine ⟨rfl, ⟨fun _ _ _ => rfl, fun _ _ _ => rfl, rfl⟩, ?_⟩
    rw [lk_f h]
    exact hbs
  refine A_wp okc_X10_looksAt [56] ?_
  conv => whnf
  rw [hbs.1]
  refine And.intro (fun h => And.intro trivial (take (Or.inl h))) (fun h => ?_)
  conv => whnf
  rw [hbs.1]
  refine And.intro (fun h1 => keep (fun q => q.elim h (fun z => h1 z.1))) (fun h1 => ?_)
  conv => whnf
  rw [hbs.2.1]
  refine And.intro (fun h2 => ?_) (fun h2 => ?_)
  · rw [nI_leI (by omega) (by omega)] at h2
    exact keep (fun q => q.elim h (fun z => by have := z.2; omega))
  · rw [nI_leI (by omega) (by omega)] at h2
    exact And.intro trivial (take (Or.inr ⟨h1, by omega⟩))
set_option maxHeartbeats 200000 in
theorem lp_la4 {N : WM} {p : Nat → Nat} {n : Nat} {s : BS} (hn : n ≤ 5) (h41 : wg N 41 = wg M 41) (hp5 : ∀ k, k < n → p k < 5) (hp : ∀ k, k < n → wg N 58 k = nI (p k)) (hbs : BsM N s) : ∀ (u k : Nat), k + u = n →
    A G d 165 4 [some (.ref 39), some (.int (nI n)), some (.int (sumW M p k)), some (.int (nI k))] [] N (LaP M N p n s)
  | 0, k, hk => by
    refine A_wp okc_X10_looksAt [4, 32] ?_
    refine And.intro (fun _ => ?_) (fun h => absurd (nI_le (by omega) (by omega)) h)
    rw [show k = n by omega]
    exact And.intro trivial (la_32 hn hp hbs _)
  | u + 1, k, hk => by
    have ih := lp_la4 hn h41 hp5 hp hbs u (k + 1) (by omega)
    rw [← nI_add k 1] at ih
    have h5 := hp5 k (by omega)
    refine A_wp okc_X10_looksAt [4, 32] ?_
    refine And.intro (fun h => absurd h (nI_ge (by omega) (by omega))) (fun _ => ?_)
    refine And.intro (vp_in_nI (by omega) (by decide)) ?_
    rw [nI_clamp (n := k) (by omega), hp k (by omega)]
    refine And.intro (by rw [pk_mul]; exact vp_in_nI (by omega) (by decide)) ?_
    rw [pk_mul, nI_clamp (n := 8 * p k) (by omega), h41]
    exact And.intro trivial ih
theorem m_looksAt {N : WM} {p : Nat → Nat} {n : Nat} {s : BS} (hn : n ≤ 5) (h41 : wg N 41 = wg M 41) (hp5 : ∀ k, k < n → p k < 5) (hp : ∀ k, k < n → wg N 58 k = nI (p k)) (hbs : BsM N s) : Fr G d 165 [.ref 39, .int (nI n)] N (LaP M N p n s) := by
  refine Fr_of okc_X10_looksAt [4] ?_
  exact And.intro trivial (lp_la4 hn h41 hp5 hp hbs n 0 (by omega))
end AGM
