-- Cradles: the loops
/-- how much louder a WORD is, if the bits of ps are lo louder -/
def lof (ps lo : Int32) (k : Nat) : Int32 := ((ps >>> (nI k &&& 31)) &&& nI 1) * lo
theorem rn_lo {M : WM} {r : Nat → Nat} {l1 l2 : Nat → Int32} {e : Int32} : ∀ (n k : Nat) (d : Int32), (∀ i, k ≤ i → i < k + n → l1 i = l2 i) → rn M r l1 e n k d = rn M r l2 e n k d
  | 0, _, _, _ => rfl
  | n + 1, k, d, h => by
    unfold rn
    rw [h k (Nat.le_refl k) (by omega), rn_lo n (k + 1) _ (fun i h1 h2 => h i (by omega) (by omega))]
section CRADLES
variable {G : GG} {d : Nat} {M : WM}
set_option maxHeartbeats 100000 in
theorem lp_dal (hG : Good M) {m : Nat} (hm : m < nMo M) (xb x3 ps lo e : Int32) : ∀ (n k : Nat) (a : Int32) (z : Option Value), k + n = len M m → (∃ j, j ≤ 9 ∧ a = nI j) →
    A G (d + 3) 9 23 [some (.ref 7), some (.int (nI m)), some (.int xb), some (.int x3), some (.int ps), some (.int lo), some (.int e), some (.int (nI (len M m))), some (.int a), some (.int (nI k)), z] [] M (fun r M2 => r = some (.int (if a = nI 0 then nI 0 else rn M (txt M m) (lof ps lo) e n k a)) ∧ M2 = M)
  | 0, k, a, z, hk, ha => by
    have hl := hG.1.ln hm
    refine A_wp okc_X0_depthAfterLouder [23] ?_
    refine And.intro (fun _ => ?_) (fun h => absurd (nI_le (by omega) (by omega)) h)
    refine ret_i ?_
    by_cases h : a = nI 0
    · rw [if_pos h, h]
    · rw [if_neg h]; rfl
  | n + 1, k, a, z, hk, ha => by
    have hl := hG.1.ln hm
    have hM := hG.m
    have ht := hG.tx hm (show k < len M m by omega)
    refine A_wp okc_X0_depthAfterLouder [23] ?_
    refine And.intro (fun h => absurd h (nI_ge (by omega) (by omega))) (fun _ => ?_)
    refine And.intro (fun h => ?_) (fun h => ?_)
    · refine ret_i ?_
      obtain ⟨j, hj, rfl⟩ := ha
      have : j = 0 := by have := (nI_leI (by omega) (by omega)).mp h; omega
      rw [this, if_pos rfl]
    · have ha0 : ¬ a = nI 0 := fun q => h (by rw [q]; exact nI_le (Nat.le_refl _) (by omega))
      refine call_k (c_wordAt hM.1 hM.2 hm (by omega)) ?_
      rw [ht.1]
      refine call_k (c_depthAfterWord hG ht.2 _ _ _) ?_
      have ih := lp_dal hG hm xb x3 ps lo e n (k + 1) (stp M (txt M m k) (lof ps lo k) e a) (some (.int (lof ps lo k))) (by omega) (clp_n _)
      rw [← nI_add k 1] at ih
      rw [if_neg ha0]
      refine And.intro trivial ?_
      exact ih
theorem c_depthAfterLouder (hG : Good M) {m b : Nat} (hm : m < nMo M) (hb : b < nB M) (a ps lo : Int32) (ha : ∃ j, j ≤ 9 ∧ a = nI j) : Fn G (d + 4) 9 [.ref 7, .int (nI m), .int (nI b), .int a, .int ps, .int lo] M (some (.int (if a = nI 0 then nI 0 else rn M (txt M m) (lof ps lo) (eN M b) (len M m) 0 a))) M := by
  have hM := hG.m
  refine Fn_of okc_X0_depthAfterLouder [23] ?_
  refine call_k (c_earsNow hG hb) ?_
  refine call_k (c_length hM.1 hM.2 hm) ?_
  rw [(hG.mo hm).2]
  refine And.intro trivial ?_
  exact lp_dal (d := d + 1) hG hm _ _ ps lo (eN M b) (len M m) 0 a none (by omega) ha
end CRADLES
