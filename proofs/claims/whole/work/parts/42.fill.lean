-- Arrays.fill of the class's left[]
def filL (M : WM) (v : Int32) : Nat → WM
  | 0 => M
  | k + 1 => wset (filL M v k) 32 k v
section FILL
variable {G : GG} {d : Nat} {M : WM}
theorem filL_o (v : Int32) {i : Nat} (hi : i ≠ 32) : ∀ k, wg (filL M v k) i = wg M i
  | 0 => rfl
  | k + 1 => by
    have e : filL M v (k + 1) = wset (filL M v k) 32 k v := rfl
    rw [e, wg_row_ne hi, filL_o v hi k]
theorem filL_v (v : Int32) : ∀ n k, k < n → wg (filL M v n) 32 k = v
  | 0, k, h => absurd h (by omega)
  | n + 1, k, h => by
    have e : filL M v (n + 1) = wset (filL M v n) 32 n v := rfl
    rw [e]
    by_cases q : k = n
    · subst q; exact wg_same _ _ _ _
    · rw [wg_ne2 q]; exact filL_v v n k (by omega)
set_option maxHeartbeats 100000 in
theorem lp_fill (v : Int32) : ∀ (n k : Nat), k + n = 6 →
    A G d 1 5 [some (.ref 32), some (.int v), some (.int (nI k)), some (.int (nI 6))] [] (filL M v k) (fun r M2 => r = none ∧ M2 = filL M v 6)
  | 0, k, hk => by
    refine A_wp okc_J7_fill_53178 [5] ?_
    refine And.intro (fun _ => ?_) (fun h => absurd (nI_le (by omega) (by omega)) h)
    rw [show k = 6 by omega]
    exact And.intro rfl rfl
  | n + 1, k, hk => by
    refine A_wp okc_J7_fill_53178 [5] ?_
    refine And.intro (fun h => absurd h (nI_ge (by omega) (by omega))) (fun _ => ?_)
    refine And.intro (vp_in_nI (by omega) (by decide)) ?_
    rw [nI_clamp (n := k) (by omega)]
    have ih := lp_fill v n (k + 1) (by omega)
    rw [← nI_add k 1] at ih
    exact And.intro trivial ih
theorem c_fill (v : Int32) : Fn G d 1 [.ref 32, .int v] M none (filL M v 6) := by
  refine Fn_of okc_J7_fill_53178 [5] ?_
  exact And.intro trivial (lp_fill v 6 0 (by omega))
end FILL
