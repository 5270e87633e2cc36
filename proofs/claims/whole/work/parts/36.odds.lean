-- odds: power, bitCount, the greatest common divisor
theorem nIm (a b : Nat) : nI a * nI b = nI (a * b) := (Int32.ofNat_mul a b).symm
theorem nIs {a b : Nat} (h : b ≤ a) : nI a - nI b = nI (a - b) := by
  have e : nI a = nI (a - b) + nI b := by rw [nI_add, Nat.sub_add_cancel h]
  rw [e, Int32.add_sub_cancel]
theorem nId {a b : Nat} (ha : a < 2 ^ 31) (hb : b < 2 ^ 31) : nI a / nI b = nI (a / b) := by
  have hq : a / b < 2 ^ 31 := Nat.lt_of_le_of_lt (Nat.div_le_self a b) ha
  apply Int32.toInt_inj.mp
  rw [Int32.toInt_div, nI_toInt ha, nI_toInt hb, nI_toInt hq, ← Int.ofNat_tdiv]
  generalize a / b = q at hq ⊢
  exact Int.bmod_eq_of_le (by omega) (by omega)
theorem nIr {a b : Nat} (ha : a < 2 ^ 31) (hb : b < 2 ^ 31) : nI a - nI a / nI b * nI b = nI (a % b) := by
  have e : a = a / b * b + a % b := by rw [Nat.mul_comm]; exact (Nat.div_add_mod a b).symm
  rw [nId ha hb, nIm, nIs (by omega)]
  congr 1
  omega
/-- n steps of the division suffice -/
def en : Nat → Nat → Nat → Prop
  | 0, _, j => j = 0
  | n + 1, i, j => j = 0 ∨ en n j (i % j)
theorem en_0 : ∀ n i, en n i 0
  | 0, _ => rfl
  | _ + 1, _ => Or.inl rfl
theorem en_2 : ∀ k i j, j < 2 ^ k → en (2 * k) i j
  | 0, i, j, h => by show j = 0; omega
  | k + 1, i, j, h => by
    rcases Nat.eq_zero_or_pos j with h0 | h0
    · exact Or.inl h0
    · refine Or.inr ?_
      have hr : i % j < j := Nat.mod_lt i h0
      rcases Nat.eq_zero_or_pos (i % j) with h1 | h1
      · exact Or.inl h1
      · refine Or.inr (en_2 k _ _ ?_)
        have h2 : j % (i % j) < i % j := Nat.mod_lt j h1
        have h3 : i % j * (j / (i % j)) + j % (i % j) = j := Nat.div_add_mod j (i % j)
        have h4 : 1 ≤ j / (i % j) := (Nat.one_le_div_iff h1).mpr (Nat.le_of_lt hr)
        have h5 : i % j * 1 ≤ i % j * (j / (i % j)) := Nat.mul_le_mul_left _ h4
        have h6 : 2 ^ (k + 1) = 2 ^ k + 2 ^ k := by rw [Nat.pow_succ]; omega
        omega
section ODDS
variable {G : GG} {d : Nat} {M : WM}
set_option maxHeartbeats 100000 in
theorem lp_power (x t : Nat) (ht : t < 2 ^ 31) : ∀ (n k : Nat), k + n = t →
    A G d 17 4 [some (.int (nI x)), some (.int (nI t)), some (.int (nI (x ^ k))), some (.int (nI k))] [] M (fun r M2 => r = some (.int (nI (x ^ t))) ∧ M2 = M)
  | 0, k, hk => by
    refine A_wp okc_X0_power [4] ?_
    refine And.intro (fun _ => ?_) (fun h => absurd (nI_le (by omega) (by omega)) h)
    have : k = t := by omega
    rw [← this]
    exact And.intro rfl rfl
  | n + 1, k, hk => by
    refine A_wp okc_X0_power [4] ?_
    refine And.intro (fun h => absurd h (nI_ge (by omega) (by omega))) (fun _ => ?_)
    have ih := lp_power x t ht n (k + 1) (by omega)
    rw [← nI_add k 1, Nat.pow_succ, ← nIm] at ih
    exact And.intro trivial ih
theorem c_power (x t : Nat) (ht : t < 2 ^ 31) : Fn G d 17 [.int (nI x), .int (nI t)] M (some (.int (nI (x ^ t)))) M := by
  refine Fn_of okc_X0_power [4] ?_
  exact And.intro trivial (lp_power x t ht t 0 (by omega))
set_option maxHeartbeats 100000 in
theorem lp_gcd (x y : Int32) : ∀ (n c i j : Nat) (z : Option Value), c + n = 100 → i < 2 ^ 31 → j < 2 ^ 31 → en n i j →
    A G d 18 7 [some (.int x), some (.int y), some (.int (nI i)), some (.int (nI j)), some (.int (nI c)), z] [] M (fun r M2 => r = some (.int (nI (Nat.gcd j i))) ∧ M2 = M)
  | 0, c, i, j, z, hc, hi, hj, he => by
    refine A_wp okc_X0_commonDivisor [7] ?_
    refine And.intro (fun _ => ?_) (fun h => absurd (nI_le (by omega) (by omega)) h)
    have h0 : j = 0 := he
    rw [h0, Nat.gcd_zero_left]
    exact And.intro rfl rfl
  | n + 1, c, i, j, z, hc, hi, hj, he => by
    refine A_wp okc_X0_commonDivisor [7] ?_
    refine And.intro (fun h => absurd h (nI_ge (by omega) (by omega))) (fun _ => ?_)
    rcases Nat.eq_zero_or_pos j with h0 | h0
    · refine And.intro (fun _ => ?_) (fun h => absurd (by rw [h0]) h)
      rw [h0, Nat.gcd_zero_left]
      exact And.intro rfl rfl
    · have hne : ¬ nI j = nI 0 := fun q => by have := (nI_eq hj (by omega)).mp q; omega
      refine And.intro (fun h => absurd h hne) (fun _ => ?_)
      refine And.intro hne ?_
      have hr : i % j < j := Nat.mod_lt i h0
      have ih := lp_gcd x y n (c + 1) j (i % j) (some (.int (nI (i % j)))) (by omega) hj (by omega) (he.resolve_left (by omega))
      rw [← nI_add c 1, ← nIr hi hj] at ih
      rw [Nat.gcd_rec]
      exact And.intro trivial ih
theorem c_gcd {i j : Nat} (hi : i < 2 ^ 31) (hj : j < 2 ^ 31) : Fn G d 18 [.int (nI i), .int (nI j)] M (some (.int (nI (Nat.gcd j i)))) M := by
  refine Fn_of okc_X0_commonDivisor [7] ?_
  refine And.intro trivial (lp_gcd _ _ 100 0 i j none (by omega) hi hj ?_)
  exact en_2 50 i j (Nat.lt_of_lt_of_le hj (Nat.pow_le_pow_right (by omega) (by omega)))
def pop (p : Nat) : Nat := p % 2 + p / 2 % 2 + p / 4 % 2 + p / 8 % 2 + p / 16 % 2 + p / 32 % 2
theorem c_bitCount {p : Nat} (hp : p < 64) : Fn G d 0 [.int (nI p)] M (some (.int (nI (pop p)))) M := by
  refine Fn_of okc_J6_bitCount_0f7a4 [] ?_
  refine ret_i ?_
  revert hp
  revert p
  decide +kernel
end ODDS
