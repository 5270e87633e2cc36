/-- the first of n numbers from k on that is so; -9: none -/
noncomputable def fstI (p : Nat → Prop) : Nat → Nat → Int32
  | 0, _ => mI 9
  | n + 1, k => @ite Int32 (p k) (Classical.propDecidable _) (nI k) (fstI p n (k + 1))
theorem fstI_t {p : Nat → Prop} {n k : Nat} (h : p k) : fstI p (n + 1) k = nI k := by unfold fstI; exact if_pos h
theorem fstI_f {p : Nat → Prop} {n k : Nat} (h : ¬ p k) : fstI p (n + 1) k = fstI p n (k + 1) := by
  rw [fstI]; exact if_neg h
theorem fstI_iff {p q : Nat → Prop} : ∀ (n k : Nat), (∀ i, k ≤ i → i < k + n → (p i ↔ q i)) → fstI p n k = fstI q n k
  | 0, _, _ => rfl
  | n + 1, k, h => by
    have h0 := h k (Nat.le_refl k) (by omega)
    have ih := fstI_iff n (k + 1) (fun i h1 h2 => h i (by omega) (by omega))
    rcases Classical.em (p k) with c | c
    · rw [fstI_t c, fstI_t (h0.mp c)]
    · rw [fstI_f c, fstI_f (fun z => c (h0.mpr z)), ih]
/-- the DEPTH behind a MOTION read into the DEPTH a -/
def rn0 (M : WM) (m b : Nat) (lo : Nat → Int32) (a : Int32) : Int32 := if a = nI 0 then nI 0 else rn M (txt M m) lo (eN M b) (len M m) 0 a
def zlo : Nat → Int32 := fun _ => nI 0
def lo1 (k : Nat) (x : Int32) : Nat → Int32 := fun i => if i = k then x else nI 0
def rock (x : Int32) : Int32 := if x + nI 3 < nI 9 then x + nI 3 else nI 9
def rockN (x : Int32) : Nat → Int32
  | 0 => x
  | n + 1 => rock (rockN x n)
theorem rn0_n {M : WM} {m b : Nat} {lo : Nat → Int32} {a : Int32} (ha : ∃ j, j ≤ 9 ∧ a = nI j) : ∃ j, j ≤ 9 ∧ rn0 M m b lo a = nI j := by
  unfold rn0
  by_cases h : a = nI 0
  · rw [if_pos h]; exact ⟨0, by omega, rfl⟩
  · rw [if_neg h]; exact rn_n _ _ _ ha
theorem rn0_lo {M : WM} {m b : Nat} {l1 l2 : Nat → Int32} {a : Int32} (h : ∀ i, i < len M m → l1 i = l2 i) : rn0 M m b l1 a = rn0 M m b l2 a := by
  unfold rn0
  rw [rn_lo _ _ _ (fun i _ h2 => h i (by omega))]
theorem le0_n {x : Int32} (hx : ∃ j, j ≤ 9 ∧ x = nI j) : x ≤ nI 0 ↔ x = nI 0 := by
  obtain ⟨j, hj, rfl⟩ := hx
  rw [nI_leI (by omega) (by omega), nI_eq (by omega) (by omega)]
  omega
theorem rock_n {x : Int32} (hx : ∃ j, j ≤ 9 ∧ x = nI j) : ∃ j, j ≤ 9 ∧ rock x = nI j := by
  obtain ⟨j, hj, rfl⟩ := hx
  unfold rock
  rw [nI_add]
  by_cases h : nI (j + 3) < nI 9
  · rw [if_pos h]
    rw [nI_ltI (by omega) (by omega)] at h
    exact ⟨j + 3, by omega, rfl⟩
  · rw [if_neg h]; exact ⟨9, by omega, rfl⟩
theorem rockN_n {x : Int32} (hx : ∃ j, j ≤ 9 ∧ x = nI j) : ∀ n, ∃ j, j ≤ 9 ∧ rockN x n = nI j
  | 0 => hx
  | n + 1 => rock_n (rockN_n hx n)
theorem bits6 : ∀ i, i < 6 → ∀ k, k < 6 → ((nI 1 <<< (nI k &&& 31)) >>> (nI i &&& 31)) &&& nI 1 = if i = k then nI 1 else nI 0 := by decide
theorem lof_bit {i k : Nat} (hi : i < 6) (hk : k < 6) (x : Int32) : lof (nI 1 <<< (nI k &&& 31)) x i = lo1 k x i := by
  unfold lof lo1
  rw [bits6 i hi k hk]
  by_cases h : i = k
  · rw [if_pos h, if_pos h]; exact Int32.one_mul x
  · rw [if_neg h, if_neg h]; exact Int32.zero_mul
theorem lof_0 (i : Nat) : lof (nI 0) (nI 0) i = zlo i := Int32.mul_zero
noncomputable def fpw (M : WM) (m b : Nat) (x : Int32) : Int32 := fstI (fun k => rn0 M m b (lo1 k x) (wg M 43 (3 + b)) = nI 0) (len M m) 0
theorem mI9_ne (k : Nat) (h : k < 2 ^ 31) : ¬ nI k = mI 9 := by
  intro q
  have := congrArg Int32.toInt q
  rw [nI_toInt h, show (mI 9).toInt = -9 from rfl] at this
  omega
section CRADLES
variable {G : GG} {d : Nat} {M : WM}
theorem Good.dn (hG : Good M) {b : Nat} (hb : b < nB M) : ∃ j, j ≤ 9 ∧ wg M 43 (3 + b) = nI j := ⟨_, (hG.1.dep (by have := hG.b; omega)).2, (hG.1.dep (by have := hG.b; omega)).1⟩
theorem c_depthAfter (hG : Good M) {m b : Nat} (hm : m < nMo M) (hb : b < nB M) (a : Int32) (ha : ∃ j, j ≤ 9 ∧ a = nI j) : Fn G (d + 5) 8 [.ref 7, .int (nI m), .int (nI b), .int a] M (some (.int (rn0 M m b zlo a))) M := by
  refine Fn_of okc_X0_depthAfter [] ?_
  refine call_k (c_depthAfterLouder hG hm hb a (nI 0) (nI 0) ha) ?_
  exact ret_i (rn0_lo (fun i _ => lof_0 i))
theorem c_wouldCarry (hG : Good M) {m b : Nat} (hm : m < nMo M) (hb : b < nB M) : Fn G (d + 6) 10 [.ref 7, .int (nI m), .int (nI b)] M (some (.int (bI (¬ rn0 M m b zlo (wg M 43 (3 + b)) = nI 0)))) M := by
  have hB := hG.b
  have hd := hG.dn hb
  have hq := c_depthAfterLouder (G := G) (d := d + 1) hG hm hb (wg M 43 (3 + b)) (nI 0) (nI 0) hd
  have e : (if wg M 43 (3 + b) = nI 0 then nI 0 else rn M (txt M m) (lof (nI 0) (nI 0)) (eN M b) (len M m) 0 (wg M 43 (3 + b))) = rn0 M m b zlo (wg M 43 (3 + b)) := rn0_lo (l1 := lof (nI 0) (nI 0)) (fun i _ => lof_0 i)
  rw [e] at hq
  refine Fn_of okc_X0_wouldCarry [] ?_
  refine call_k (c_ndepth (by omega)) ?_
  rw [hG.rdep (by omega)]
  refine call_k hq ?_
  refine And.intro (fun h => ?_) (fun h => ?_)
  · rw [le0_n (rn0_n hd)] at h
    exact And.intro isB_0 (ret_i (bI_f (fun q => q h)).symm)
  · rw [le0_n (rn0_n hd)] at h
    exact And.intro isB_1 (ret_i (bI_t h).symm)
set_option maxHeartbeats 100000 in
theorem lp_wakesAt (hG : Good M) {m : Nat} (hm : m < nMo M) (xb e : Int32) : ∀ (n k : Nat) (a : Int32), k + n = len M m →
    A G (d + 3) 11 36 [some (.ref 7), some (.int (nI m)), some (.int xb), some (.int a), some (.int e), some (.int (nI (len M m))), some (.int (nI k))] [] M (fun r M2 => r = some (.int (pl M (txt M m) zlo e n k a)) ∧ M2 = M)
  | 0, k, a, hk => by
    have hl := hG.1.ln hm
    refine A_wp okc_X0_wakesAt [36] ?_
    refine And.intro (fun _ => ?_) (fun h => absurd (nI_le (by omega) (by omega)) h)
    exact ret_i rfl
  | n + 1, k, a, hk => by
    have hl := hG.1.ln hm
    have hM := hG.m
    have ht := hG.tx hm (show k < len M m by omega)
    refine A_wp okc_X0_wakesAt [36] ?_
    refine And.intro (fun h => absurd h (nI_ge (by omega) (by omega))) (fun _ => ?_)
    refine call_k (c_wordAt hM.1 hM.2 hm (by omega)) ?_
    rw [ht.1]
    refine call_k (c_depthAfterWord hG ht.2 _ _ _) ?_
    refine And.intro (fun h => ?_) (fun h => ?_)
    · have ih := lp_wakesAt hG hm xb e n (k + 1) (stp M (txt M m k) (nI 0) e a) (by omega)
      rw [← nI_add k 1] at ih
      have h : ¬ stp M (txt M m k) (zlo k) e a = nI 0 := h
      rw [pl, if_neg h]
      refine And.intro trivial ?_
      exact ih
    · refine ret_i ?_
      have h : stp M (txt M m k) (zlo k) e a = nI 0 := h
      rw [pl, if_pos h]
theorem c_wakesAt (hG : Good M) {m b : Nat} (hm : m < nMo M) (hb : b < nB M) : Fn G (d + 4) 11 [.ref 7, .int (nI m), .int (nI b)] M (some (.int (woul M m b))) M := by
  have hB := hG.b
  have hM := hG.m
  refine Fn_of okc_X0_wakesAt [36] ?_
  refine call_k (c_ndepth (by omega)) ?_
  rw [hG.rdep (by omega)]
  refine And.intro (fun h => ?_) (fun h => ?_)
  · refine call_k (c_earsNow hG hb) ?_
    refine call_k (c_length hM.1 hM.2 hm) ?_
    rw [(hG.mo hm).2]
    rw [woul, if_neg h]
    refine And.intro trivial ?_
    exact lp_wakesAt (d := d + 1) hG hm _ (eN M b) (len M m) 0 _ (by omega)
  · refine ret_i ?_
    rw [woul, if_pos h]
set_option maxHeartbeats 100000 in
theorem lp_leastDepth (hG : Good M) {m b : Nat} (hm : m < nMo M) (hb : b < nB M) : ∀ (n k : Nat), k + n = 10 → 
    A G (d + 6) 12 2 [some (.ref 7), some (.int (nI m)), some (.int (nI b)), some (.int (nI k))] [] M (fun r M2 => r = some (.int (fstI (fun k => ¬ rn0 M m b zlo (nI k) = nI 0) n k)) ∧ M2 = M)
  | 0, k, hk => by
    refine A_wp okc_X0_leastDepth [2] ?_
    refine And.intro (fun _ => ?_) (fun h => absurd (nI_lt (by omega) (by omega)) h)
    exact ret_i rfl
  | n + 1, k, hk => by
    have hn : ∃ j, j ≤ 9 ∧ nI k = nI j := ⟨k, by omega, rfl⟩
    refine A_wp okc_X0_leastDepth [2] ?_
    refine And.intro (fun h => absurd h (nI_nlt (by omega) (by omega))) (fun _ => ?_)
    refine call_k (c_depthAfter hG hm hb _ hn) ?_
    refine And.intro (fun h => ?_) (fun h => ?_)
    · rw [le0_n (rn0_n hn)] at h
      have ih := lp_leastDepth hG hm hb n (k + 1) (by omega)
      rw [← nI_add k 1] at ih
      rw [fstI_f (fun q => q h)]
      exact And.intro trivial ih
    · rw [le0_n (rn0_n hn)] at h
      exact ret_i (fstI_t h).symm
theorem c_leastDepth (hG : Good M) {m b : Nat} (hm : m < nMo M) (hb : b < nB M) : Fn G (d + 6) 12 [.ref 7, .int (nI m), .int (nI b)] M (some (.int (fstI (fun k => ¬ rn0 M m b zlo (nI k) = nI 0) 9 1))) M := by
  refine Fn_of okc_X0_leastDepth [2] ?_
  exact And.intro trivial (lp_leastDepth hG hm hb 9 1 (by omega))
set_option maxHeartbeats 100000 in
theorem lp_leastRockings (hG : Good M) {m b : Nat} (hm : m < nMo M) (hb : b < nB M) : ∀ (n k : Nat), k + n = 5 → 
    A G (d + 6) 13 12 [some (.ref 7), some (.int (nI m)), some (.int (nI b)), some (.int (rockN (wg M 43 (3 + b)) k)), some (.int (nI k))] [] M (fun r M2 => r = some (.int (fstI (fun k => ¬ rn0 M m b zlo (rockN (wg M 43 (3 + b)) k) = nI 0) n k)) ∧ M2 = M)
  | 0, k, hk => by
    refine A_wp okc_X0_leastRockings [12] ?_
    refine And.intro (fun _ => ?_) (fun h => absurd (nI_lt (by omega) (by omega)) h)
    exact ret_i rfl
  | n + 1, k, hk => by
    have hn := rockN_n (hG.dn hb) k
    refine A_wp okc_X0_leastRockings [12] ?_
    refine And.intro (fun h => absurd h (nI_nlt (by omega) (by omega))) (fun _ => ?_)
    refine call_k (c_depthAfter hG hm hb _ hn) ?_
    refine And.intro (fun h => ?_) (fun h => ?_)
    · rw [le0_n (rn0_n hn)] at h
      refine call_k (c_rockedOnce _) ?_
      have ih := lp_leastRockings hG hm hb n (k + 1) (by omega)
      rw [← nI_add k 1] at ih
      rw [fstI_f (fun q => q h)]
      exact And.intro trivial ih
    · rw [le0_n (rn0_n hn)] at h
      exact ret_i (fstI_t h).symm
theorem c_leastRockings (hG : Good M) {m b : Nat} (hm : m < nMo M) (hb : b < nB M) : Fn G (d + 6) 13 [.ref 7, .int (nI m), .int (nI b)] M (some (.int (fstI (fun k => ¬ rn0 M m b zlo (rockN (wg M 43 (3 + b)) k) = nI 0) 5 0))) M := by
  have hB := hG.b
  refine Fn_of okc_X0_leastRockings [12] ?_
  refine call_k (c_ndepth (by omega)) ?_
  rw [hG.rdep (by omega)]
  exact And.intro trivial (lp_leastRockings hG hm hb 5 0 (by omega))
set_option maxHeartbeats 100000 in
theorem lp_fpw (hG : Good M) {m b : Nat} (hm : m < nMo M) (hb : b < nB M) (x : Int32) : ∀ (n k : Nat), k + n = len M m → 
    A G (d + 5) 15 13 [some (.ref 7), some (.int (nI m)), some (.int (nI b)), some (.int x), some (.int (nI (len M m))), some (.int (nI k))] [] M (fun r M2 => r = some (.int (fstI (fun k => rn0 M m b (lo1 k x) (wg M 43 (3 + b)) = nI 0) n k)) ∧ M2 = M)
  | 0, k, hk => by
    have hl := hG.1.ln hm
    refine A_wp okc_X0_firstPlaceToWake [13] ?_
    refine And.intro (fun _ => ?_) (fun h => absurd (nI_le (by omega) (by omega)) h)
    exact ret_i rfl
  | n + 1, k, hk => by
    have hl := hG.1.ln hm
    have hB := hG.b
    have hd := hG.dn hb
    refine A_wp okc_X0_firstPlaceToWake [13] ?_
    refine And.intro (fun h => absurd h (nI_ge (by omega) (by omega))) (fun _ => ?_)
    refine call_k (c_ndepth (by omega)) ?_
    rw [hG.rdep (by omega)]
    refine call_k (c_depthAfterLouder hG hm hb _ _ _ hd) ?_
    have e : (if wg M 43 (3 + b) = nI 0 then nI 0 else rn M (txt M m) (lof (nI 1 <<< (nI k &&& 31)) x) (eN M b) (len M m) 0 (wg M 43 (3 + b))) = rn0 M m b (lo1 k x) (wg M 43 (3 + b)) := rn0_lo (l1 := lof (nI 1 <<< (nI k &&& 31)) x) (fun i hi => lof_bit (by omega) (by omega) x)
    rw [e]
    refine And.intro (fun h => ?_) (fun h => ?_)
    · have ih := lp_fpw hG hm hb x n (k + 1) (by omega)
      rw [← nI_add k 1] at ih
      rw [fstI_f h]
      exact And.intro trivial ih
    · exact ret_i (fstI_t h).symm
theorem c_fpw (hG : Good M) {m b : Nat} (hm : m < nMo M) (hb : b < nB M) (x : Int32) : Fn G (d + 5) 15 [.ref 7, .int (nI m), .int (nI b), .int x] M (some (.int (fpw M m b x))) M := by
  have hM := hG.m
  refine Fn_of okc_X0_firstPlaceToWake [13] ?_
  refine call_k (c_length hM.1 hM.2 hm) ?_
  rw [(hG.mo hm).2]
  exact And.intro trivial (lp_fpw hG hm hb x (len M m) 0 (by omega))
set_option maxHeartbeats 100000 in
theorem lp_leastLouder (hG : Good M) {m b : Nat} (hm : m < nMo M) (hb : b < nB M) : ∀ (n k : Nat), k + n = 10 → 
    A G (d + 7) 14 14 [some (.ref 7), some (.int (nI m)), some (.int (nI b)), some (.int (nI k))] [] M (fun r M2 => r = some (.int (fstI (fun k => ¬ fpw M m b (nI k) = mI 9) n k)) ∧ M2 = M)
  | 0, k, hk => by
    refine A_wp okc_X0_leastLouder [14] ?_
    refine And.intro (fun _ => ?_) (fun h => absurd (nI_lt (by omega) (by omega)) h)
    exact ret_i rfl
  | n + 1, k, hk => by
    refine A_wp okc_X0_leastLouder [14] ?_
    refine And.intro (fun h => absurd h (nI_nlt (by omega) (by omega))) (fun _ => ?_)
    refine call_k (c_fpw hG hm hb _) ?_
    refine And.intro (fun h => ?_) (fun h => ?_)
    · have ih := lp_leastLouder hG hm hb n (k + 1) (by omega)
      rw [← nI_add k 1] at ih
      rw [fstI_f (fun q => q h)]
      exact And.intro trivial ih
    · exact ret_i (fstI_t h).symm
noncomputable def lld (M : WM) (m b : Nat) : Int32 := if rn0 M m b zlo (wg M 43 (3 + b)) = nI 0 then mI 9 else fstI (fun k => ¬ fpw M m b (nI k) = mI 9) 9 1
theorem c_leastLouder (hG : Good M) {m b : Nat} (hm : m < nMo M) (hb : b < nB M) : Fn G (d + 7) 14 [.ref 7, .int (nI m), .int (nI b)] M (some (.int (lld M m b))) M := by
  refine Fn_of okc_X0_leastLouder [14] ?_
  refine call_k (c_wouldCarry hG hm hb) ?_
  refine And.intro (fun h => ?_) (fun h => ?_)
  · rw [bI_0, Classical.not_not] at h
    rw [lld, if_neg h]
    exact And.intro trivial (lp_leastLouder hG hm hb 9 1 (by omega))
  · rw [bI_0, Classical.not_not] at h
    exact ret_i (if_pos h).symm
end CRADLES
