-- small calls of wording
section ORD
variable {G : GG} {d : Nat} {M : WM}
theorem c_oWordAt {k : Nat} (hk : k < 6) : Fn G d 60 [.ref 8, .int (nI k)] M (some (.int (wg M 33 k))) M := by
  refine Fn_of okc_X5_wordAt [] ?_
  refine And.intro (fun h => absurd h (nI_nlt (by omega) (by omega))) (fun _ => ?_)
  refine And.intro (fun h => absurd h (nI_ge (by omega) (by omega))) (fun _ => ?_)
  refine And.intro (vp_in_nI (by omega) (by decide)) ?_
  rw [nI_clamp (n := k) (by omega)]
  exact And.intro rfl rfl
theorem m_trades {i j : Nat} (hi : i < 6) (hj : j < 6) : Fn G d 154 [.ref 39, .int (nI i), .int (nI j)] M none (wset (wset M 53 i (wg M 53 j)) 53 j (wg M 53 i)) := by
  refine Fn_of okc_X10_trades [] ?_
  refine And.intro (vp_in_nI (by omega) (by decide)) ?_
  rw [nI_clamp (n := i) (by omega)]
  refine And.intro (vp_in_nI (by omega) (by decide)) ?_
  rw [nI_clamp (n := j) (by omega)]
  refine And.intro (vp_in_nI (by omega) (by decide)) ?_
  rw [nI_clamp (n := i) (by omega)]
  refine And.intro (vp_in_nI (by omega) (by decide)) ?_
  rw [nI_clamp (n := j) (by omega)]
  exact And.intro rfl rfl
/-- the row of the reference as a list -/
def rowO (M : WM) (n : Nat) : List Int32 := (List.range n).map (fun k => wg M 53 k)
end ORD
