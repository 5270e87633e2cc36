-- odds: the reference
def prd (x p : Nat) : Nat → Nat
  | 0 => 1
  | k + 1 => prd x p k * (if p / 2 ^ k % 2 = 1 then x else 10 - x)
theorem prd_d : ∀ n, n < 7 → ∀ x, x < 11 → ∀ p, p < 2 ^ n → prd x p n = tm x n p := by decide +kernel
theorem bit_d : ∀ p, p < 64 → ∀ k, k < 6 → (nI p >>> (nI k &&& 31)) &&& nI 1 = nI (p / 2 ^ k % 2) := by decide +kernel
section ODDS
variable {G : GG} {d : Nat} {M : WM}
set_option maxHeartbeats 400000 in
theorem lp_mgcd {N : WM} (hs : Sc M N) {u t g : Nat} (hg1 : 1 ≤ g) (hg2 : g < 2 ^ 31) (x1 x2 x3 w : Int32) : ∀ (n i j : Nat) (z : Option Value), i < 2 ^ 31 → j < 2 ^ 31 → en n i j → Nat.gcd j i = g →
    A G d 159 194 [some (.ref 39), some (.int x1), some (.int x2), some (.int x3), some (.int w), some (.int (nI t)), some (.int (nI u)), some (.int (nI i)), some (.int (nI j)), z] [] N (AnsS M (iteI (w = nI 0) (nI u) (nI t) / nI g)) := by
  have hne : ¬ nI g = nI 0 := fun q => by
    have := (nI_eq (by omega) (by omega)).mp q
    omega
  have fin : ∀ (i j : Nat) (z : Option Value), j = 0 → Nat.gcd j i = g → A G d 159 194 [some (.ref 39), some (.int x1), some (.int x2), some (.int x3), some (.int w), some (.int (nI t)), some (.int (nI u)), some (.int (nI i)), some (.int (nI j)), z] [] N (AnsS M (iteI (w = nI 0) (nI u) (nI t) / nI g)) := by
    intro i j z h0 hg
    subst h0
    rw [Nat.gcd_zero_left] at hg
    subst hg
    refine A_wp okc_X10_odds [194] ?_
    refine And.intro (fun _ => ?_) (fun h => absurd (nI_le (by omega) (by omega)) h)
    refine And.intro (fun h5 => ?_) (fun h5 => ?_)
    · rw [iteI_f h5]
      exact And.intro hne (AnsS.eq rfl hs)
    · rw [iteI_t h5]
      exact And.intro hne (AnsS.eq rfl hs)
  intro n
  induction n with
  | zero => exact fun i j z _ _ he hg => fin i j z he hg
  | succ n ih =>
    intro i j z hi hj he hg
    rcases Nat.eq_zero_or_pos j with h0 | h0
    · exact fin i j z h0 hg
    · have hj0 : ¬ nI j = nI 0 := fun q => by have := (nI_eq hj (by omega)).mp q; omega
      have hr : i % j < j := Nat.mod_lt i h0
      have ih2 := ih j (i % j) (some (.int (nI (i % j)))) hj (by omega) (he.resolve_left (by omega)) (by rw [← Nat.gcd_rec]; exact hg)
      rw [← nIr hi hj] at ih2
      refine A_wp okc_X10_odds [194] ?_
      refine And.intro (fun h => absurd h (nI_ge (by omega) (by omega))) (fun _ => ?_)
      exact And.intro hj0 (And.intro trivial ih2)
end ODDS
