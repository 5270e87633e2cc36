-- Now (cell 4, its row 30)
/-- bit x of v, as the code asks it -/
def bt (v x : Int32) : Prop := (v >>> (x &&& 31)) &&& nI 1 = nI 1
section NOW
variable {G : GG} {d : Nat} {M : WM} {n : Nat}
theorem c_wordAt (_hw : wg M 1 1 = nI n) (hn : n ≤ 5) {m k : Nat} (hm : m < n) (hk : k < 6) : Fn G (d + 1) 33 [.ref 1, .int (nI m), .int (nI k)] M (some (.int (wg M 16 (m * 6 + k)))) M := by
  refine Fn_of okc_X2_wordAt [] ?_
  refine And.intro (fun h => absurd h (nI_nlt (Nat.zero_le _) (by omega))) (fun _ => ?_)
  refine And.intro (fun h => absurd h (nI_ge (by omega) (by omega))) (fun _ => ?_)
  refine And.intro (fun h => absurd h (nI_nlt (Nat.zero_le _) (by omega))) (fun _ => ?_)
  refine And.intro (fun h => absurd h (nI_ge (by omega) (by omega))) (fun _ => ?_)
  refine And.intro (by rw [pk_mul, nI_add]; exact vp_in_nI (by omega) (by decide)) ?_
  rw [pk_mul, nI_add, nI_clamp (by omega)]
  exact And.intro rfl rfl
theorem c_ndepth {b : Nat} (hb : b < 4) : Fn G (d + 1) 47 [.ref 4, .int (nI b)] M (some (.int (wg M 30 b))) M := by
  refine Fn_of okc_X4_depth [] ?_
  refine And.intro (fun h => absurd h (nI_nlt (Nat.zero_le _) (by omega))) (fun _ => ?_)
  refine And.intro (fun h => absurd h (nI_ge (by omega) (by omega))) (fun _ => ?_)
  refine And.intro (vp_in_nI (by omega) (by decide)) ?_
  rw [nI_clamp (by omega)]
  exact And.intro rfl rfl
theorem c_nfed {b : Nat} (hb : b < 4) : Fn G (d + 1) 48 [.ref 4, .int (nI b)] M (some (.int (wg M 30 (4 + b)))) M := by
  refine Fn_of okc_X4_fed [] ?_
  refine And.intro (fun h => absurd h (nI_nlt (Nat.zero_le _) (by omega))) (fun _ => ?_)
  refine And.intro (fun h => absurd h (nI_ge (by omega) (by omega))) (fun _ => ?_)
  refine And.intro (by rw [nI_add]; exact vp_in_nI (by omega) (by decide)) ?_
  rw [nI_add, nI_clamp (by omega)]
  exact And.intro rfl rfl
theorem c_minute : Fn G d 49 [.ref 4] M (some (.int (wg M 30 8))) M := by
  refine Fn_of okc_X4_minute [] ?_
  exact And.intro (vp_in_nI (by omega) (by decide)) (And.intro rfl rfl)
theorem c_carriedBits : Fn G d 50 [.ref 4] M (some (.int (wg M 30 9))) M := by
  refine Fn_of okc_X4_carriedBits [] ?_
  exact And.intro (vp_in_nI (by omega) (by decide)) (And.intro rfl rfl)
theorem c_lostBits : Fn G d 51 [.ref 4] M (some (.int (wg M 30 10))) M := by
  refine Fn_of okc_X4_lostBits [] ?_
  exact And.intro (vp_in_nI (by omega) (by decide)) (And.intro rfl rfl)
theorem c_isCarried (x : Int32) : Fn G d 52 [.ref 4, .int x] M (some (.int (bI (bt (wg M 30 9) x)))) M := by
  refine Fn_of okc_X4_isCarried [] ?_
  refine And.intro (vp_in_nI (by omega) (by decide)) ?_
  refine And.intro (fun h => ?_) (fun h => ?_)
  · exact And.intro isB_0 (ret_i (bI_f h).symm)
  · exact And.intro isB_1 (ret_i (bI_t h).symm)
theorem c_isLost (x : Int32) : Fn G d 53 [.ref 4, .int x] M (some (.int (bI (bt (wg M 30 10) x)))) M := by
  refine Fn_of okc_X4_isLost [] ?_
  refine And.intro (vp_in_nI (by omega) (by decide)) ?_
  refine And.intro (fun h => ?_) (fun h => ?_)
  · exact And.intro isB_0 (ret_i (bI_f h).symm)
  · exact And.intro isB_1 (ret_i (bI_t h).symm)
theorem c_isOpen (x : Int32) : Fn G (d + 1) 54 [.ref 4, .int x] M (some (.int (bI (¬ bt (wg M 30 9) x ∧ ¬ bt (wg M 30 10) x)))) M := by
  refine Fn_of okc_X4_isOpen [] ?_
  refine call_k (c_isCarried _) ?_
  refine And.intro (fun h => ?_) (fun h => ?_)
  · rw [bI_0] at h
    exact And.intro isB_0 (ret_i (bI_f (fun q => h (fun z => q.1 z) )).symm)
  · refine call_k (c_isLost _) ?_
    rw [bI_0] at h
    refine And.intro (fun h1 => ?_) (fun h1 => ?_)
    · rw [bI_0] at h1
      exact And.intro isB_0 (ret_i (bI_f (fun q => h1 (fun z => q.2 z))).symm)
    · rw [bI_0] at h1
      exact And.intro isB_1 (ret_i (bI_t ⟨h, h1⟩).symm)
theorem c_setDepth {b : Nat} (hb : b < 4) (v : Int32) : Fn G (d + 1) 55 [.ref 4, .int (nI b), .int v] M none (wset M 30 b v) := by
  refine Fn_of okc_X4_setDepth [] ?_
  refine And.intro (fun h => absurd h (nI_nlt (Nat.zero_le _) (by omega))) (fun _ => ?_)
  refine And.intro (fun h => absurd h (nI_ge (by omega) (by omega))) (fun _ => ?_)
  refine And.intro (vp_in_nI (by omega) (by decide)) ?_
  rw [nI_clamp (by omega)]
  exact And.intro rfl rfl
theorem c_setFedNow {b : Nat} (hb : b < 4) : Fn G (d + 1) 56 [.ref 4, .int (nI b)] M none (wset M 30 (4 + b) (wg M 30 8)) := by
  refine Fn_of okc_X4_setFedNow [] ?_
  refine And.intro (fun h => absurd h (nI_nlt (Nat.zero_le _) (by omega))) (fun _ => ?_)
  refine And.intro (fun h => absurd h (nI_ge (by omega) (by omega))) (fun _ => ?_)
  refine And.intro (vp_in_nI (by omega) (by decide)) ?_
  refine And.intro (by rw [nI_add]; exact vp_in_nI (by omega) (by decide)) ?_
  rw [nI_add, nI_clamp (by omega)]
  exact And.intro rfl rfl
theorem c_pass (v : Int32) : Fn G d 57 [.ref 4, .int v] M none (wset M 30 8 (wg M 30 8 + v)) := by
  refine Fn_of okc_X4_pass [] ?_
  refine And.intro (vp_in_nI (by omega) (by decide)) ?_
  exact And.intro (vp_in_nI (by omega) (by decide)) (And.intro rfl rfl)
theorem c_decide (x : Int32) (c : Prop) : Fn G d 58 [.ref 4, .int x, .int (bI c)] M none (@ite WM c (Classical.propDecidable c) (wset M 30 9 (wg M 30 9 ||| nI 1 <<< (x &&& 31))) (wset M 30 10 (wg M 30 10 ||| nI 1 <<< (x &&& 31)))) := by
  refine Fn_of okc_X4_decide [] ?_
  refine And.intro (fun h => ?_) (fun h => ?_)
  · rw [bI_0] at h
    refine And.intro (vp_in_nI (by omega) (by decide)) ?_
    refine And.intro (vp_in_nI (by omega) (by decide)) ?_
    exact And.intro rfl (if_neg h).symm
  · rw [bI_0, Classical.not_not] at h
    refine And.intro (vp_in_nI (by omega) (by decide)) ?_
    refine And.intro (vp_in_nI (by omega) (by decide)) ?_
    exact And.intro rfl (if_pos h).symm
theorem c_saveTo_6 {k : Nat} (hk : k < 2) : Fn G d 45 [.ref 4, .ref 6, .int (nI k)] M none (wcpy M 30 6 0 (k * 11) 11) := by
  refine Fn_of okc_X4_saveTo [] ?_
  refine And.intro (fun h => absurd h (nI_nlt (Nat.zero_le _) (by omega))) (fun _ => ?_)
  refine And.intro (by decide) ?_
  refine And.intro (fun h => ?_) (fun _ => ?_)
  · rw [pk_div (by decide) (by decide) (by decide)] at h
    exact absurd h (nI_ge (by omega) (by decide))
  · refine And.intro (And.intro ?_ (And.intro ?_ (And.intro ?_ (And.intro ?_ ?_)))) ?_
    all_goals (try rw [pk_mul])
    · exact nI_nlt (Nat.zero_le _) (by omega)
    · exact nI_nlt (Nat.zero_le _) (by omega)
    · exact nI_nlt (Nat.zero_le _) (by omega)
    · rw [nI_clamp (by omega), nI_clamp (by omega)]; omega
    · rw [nI_clamp (by omega), nI_clamp (by omega)]; omega
    · rw [nI_clamp (n := k * 11) (by omega)]
      exact And.intro rfl rfl
theorem c_loadFrom_6 {k : Nat} (hk : k < 2) : Fn G d 46 [.ref 4, .ref 6, .int (nI k)] M none (wcpy M 6 30 (k * 11) 0 11) := by
  refine Fn_of okc_X4_loadFrom [] ?_
  refine And.intro (fun h => absurd h (nI_nlt (Nat.zero_le _) (by omega))) (fun _ => ?_)
  refine And.intro (by decide) ?_
  refine And.intro (fun h => ?_) (fun _ => ?_)
  · rw [pk_div (by decide) (by decide) (by decide)] at h
    exact absurd h (nI_ge (by omega) (by decide))
  · refine And.intro (And.intro ?_ (And.intro ?_ (And.intro ?_ (And.intro ?_ ?_)))) ?_
    all_goals (try rw [pk_mul])
    · exact nI_nlt (Nat.zero_le _) (by omega)
    · exact nI_nlt (Nat.zero_le _) (by omega)
    · exact nI_nlt (Nat.zero_le _) (by omega)
    · rw [nI_clamp (by omega), nI_clamp (by omega)]; omega
    · rw [nI_clamp (by omega), nI_clamp (by omega)]; omega
    · rw [nI_clamp (n := k * 11) (by omega)]
      exact And.intro rfl rfl
theorem c_saveTo_31 {k : Nat} (hk : k < 10) : Fn G d 45 [.ref 4, .ref 31, .int (nI k)] M none (wcpy M 30 31 0 (k * 11) 11) := by
  refine Fn_of okc_X4_saveTo [] ?_
  refine And.intro (fun h => absurd h (nI_nlt (Nat.zero_le _) (by omega))) (fun _ => ?_)
  refine And.intro (by decide) ?_
  refine And.intro (fun h => ?_) (fun _ => ?_)
  · rw [pk_div (by decide) (by decide) (by decide)] at h
    exact absurd h (nI_ge (by omega) (by decide))
  · refine And.intro (And.intro ?_ (And.intro ?_ (And.intro ?_ (And.intro ?_ ?_)))) ?_
    all_goals (try rw [pk_mul])
    · exact nI_nlt (Nat.zero_le _) (by omega)
    · exact nI_nlt (Nat.zero_le _) (by omega)
    · exact nI_nlt (Nat.zero_le _) (by omega)
    · rw [nI_clamp (by omega), nI_clamp (by omega)]; omega
    · rw [nI_clamp (by omega), nI_clamp (by omega)]; omega
    · rw [nI_clamp (n := k * 11) (by omega)]
      exact And.intro rfl rfl
theorem c_loadFrom_31 {k : Nat} (hk : k < 10) : Fn G d 46 [.ref 4, .ref 31, .int (nI k)] M none (wcpy M 31 30 (k * 11) 0 11) := by
  refine Fn_of okc_X4_loadFrom [] ?_
  refine And.intro (fun h => absurd h (nI_nlt (Nat.zero_le _) (by omega))) (fun _ => ?_)
  refine And.intro (by decide) ?_
  refine And.intro (fun h => ?_) (fun _ => ?_)
  · rw [pk_div (by decide) (by decide) (by decide)] at h
    exact absurd h (nI_ge (by omega) (by decide))
  · refine And.intro (And.intro ?_ (And.intro ?_ (And.intro ?_ (And.intro ?_ ?_)))) ?_
    all_goals (try rw [pk_mul])
    · exact nI_nlt (Nat.zero_le _) (by omega)
    · exact nI_nlt (Nat.zero_le _) (by omega)
    · exact nI_nlt (Nat.zero_le _) (by omega)
    · rw [nI_clamp (by omega), nI_clamp (by omega)]; omega
    · rw [nI_clamp (by omega), nI_clamp (by omega)]; omega
    · rw [nI_clamp (n := k * 11) (by omega)]
      exact And.intro rfl rfl
end NOW
