-- what the words of the document are, over the reference's cells
abbrev hun (M : WM) (b : Nat) : Prop := wg M 42 (2 * b + 1) ≤ wg M 43 0 - wg M 43 (7 + b)
def eN (M : WM) (b : Nat) : Int32 := if hun M b then nI 2 * wg M 42 (2 * b) else wg M 42 (2 * b)
def clp (v : Int32) : Int32 := if v < nI 0 then nI 0 else if nI 9 < v then nI 9 else v
/-- a DEPTH behind a WORD that is x louder, with ears e -/
def stp (M : WM) (w : Nat) (x e d : Int32) : Int32 := clp (d + wg M 40 (2 * w + 1) - (wg M 40 (2 * w) + x) * e)
theorem nI0 : nI 0 = 0 := rfl
theorem clp_two (v : Int32) : (if nI 0 < (if v < nI 9 then v else nI 9) then (if v < nI 9 then v else nI 9) else nI 0) = clp v := by
  have e9 : (nI 9).toInt = 9 := rfl
  have e0 : (nI 0).toInt = 0 := rfl
  unfold clp
  by_cases h1 : v < nI 9
  · rw [if_pos h1]
    by_cases h2 : v < nI 0
    · rw [if_pos h2, if_neg]
      rw [Int32.lt_iff_toInt_lt] at h2 ⊢
      omega
    · rw [if_neg h2]
      have h3 : ¬ nI 9 < v := by
        rw [Int32.lt_iff_toInt_lt] at h1 ⊢
        omega
      rw [if_neg h3]
      by_cases h4 : nI 0 < v
      · rw [if_pos h4]
      · rw [if_neg h4]
        apply Int32.toInt_inj.mp
        rw [Int32.lt_iff_toInt_lt] at h2 h4
        omega
  · rw [if_neg h1]
    have h2 : ¬ v < nI 0 := by
      rw [Int32.lt_iff_toInt_lt] at h1 ⊢
      omega
    rw [if_neg h2, if_pos (show nI 0 < nI 9 by decide)]
    by_cases h3 : nI 9 < v
    · rw [if_pos h3]
    · rw [if_neg h3]
      apply Int32.toInt_inj.mp
      rw [Int32.lt_iff_toInt_lt] at h1 h3
      omega
theorem clp_n (v : Int32) : ∃ k, k ≤ 9 ∧ clp v = nI k := by
  unfold clp
  by_cases h1 : v < nI 0
  · exact ⟨0, by omega, if_pos h1⟩
  · rw [if_neg h1]
    by_cases h2 : nI 9 < v
    · exact ⟨9, by omega, if_pos h2⟩
    · rw [if_neg h2]
      obtain ⟨k, hk, rfl⟩ := nI_of h1
      refine ⟨k, ?_, rfl⟩
      rcases Nat.lt_or_ge 9 k with q | q
      · exact absurd (nI_lt q hk) h2
      · exact q
/-- n words from place k on, read into a DEPTH d: the DEPTH behind; 0 once awake -/
def rn (M : WM) (r : Nat → Nat) (lo : Nat → Int32) (e : Int32) : Nat → Nat → Int32 → Int32
  | 0, _, d => d
  | n + 1, k, d => if stp M (r k) (lo k) e d = nI 0 then nI 0 else rn M r lo e n (k + 1) (stp M (r k) (lo k) e d)
/-- where it wakes; -5: it is carried -/
def pl (M : WM) (r : Nat → Nat) (lo : Nat → Int32) (e : Int32) : Nat → Nat → Int32 → Int32
  | 0, _, _ => mI 5
  | n + 1, k, d => if stp M (r k) (lo k) e d = nI 0 then nI k else pl M r lo e n (k + 1) (stp M (r k) (lo k) e d)
theorem mI5_ne (k : Nat) (h : k < 2 ^ 31) : ¬ nI k = mI 5 := by
  intro q
  have := congrArg Int32.toInt q
  rw [nI_toInt h, show (mI 5).toInt = -5 from rfl] at this
  omega
theorem pl_rn {M : WM} {r : Nat → Nat} {lo : Nat → Int32} {e : Int32} : ∀ (n k : Nat) (d : Int32), n + k < 2 ^ 31 → ¬ d = nI 0 → (pl M r lo e n k d = mI 5 ↔ ¬ rn M r lo e n k d = nI 0)
  | 0, k, d, _, h => ⟨fun _ => h, fun _ => rfl⟩
  | n + 1, k, d, hk, h => by
    unfold pl rn
    by_cases hs : stp M (r k) (lo k) e d = nI 0
    · rw [if_pos hs, if_pos hs]
      exact ⟨fun q => absurd q (mI5_ne k (by omega)), fun q => absurd rfl q⟩
    · rw [if_neg hs, if_neg hs]
      exact pl_rn n (k + 1) _ (by omega) hs
theorem rn_n {M : WM} {r : Nat → Nat} {lo : Nat → Int32} {e : Int32} : ∀ (n k : Nat) (d : Int32), (∃ j, j ≤ 9 ∧ d = nI j) → ∃ j, j ≤ 9 ∧ rn M r lo e n k d = nI j
  | 0, k, d, h => h
  | n + 1, k, d, h => by
    unfold rn
    by_cases hs : stp M (r k) (lo k) e d = nI 0
    · rw [if_pos hs]; exact ⟨0, by omega, rfl⟩
    · rw [if_neg hs]
      exact rn_n n (k + 1) _ (clp_n _)
/-- WOULD -/
noncomputable def woul (M : WM) (m b : Nat) : Int32 := if wg M 43 (3 + b) = nI 0 then mI 9 else pl M (txt M m) (fun _ => nI 0) (eN M b) (len M m) 0 (wg M 43 (3 + b))
section GOODP
variable {M : WM}
theorem Good.row (h : Good M) {k : Nat} (hk : k < 11) : wg M 30 k = wg M 43 ((k + 3) % 11) := h.2.2.2.2.2.1 k hk
theorem Good.rdep (h : Good M) {b : Nat} (hb : b < 4) : wg M 30 b = wg M 43 (3 + b) := by rw [h.row (by omega), show (b + 3) % 11 = 3 + b by omega]
theorem Good.rfed (h : Good M) {b : Nat} (hb : b < 4) : wg M 30 (4 + b) = wg M 43 (7 + b) := by rw [h.row (by omega), show (4 + b + 3) % 11 = 7 + b by omega]
theorem Good.rmin (h : Good M) : wg M 30 8 = wg M 43 0 := h.row (by omega)
theorem Good.rcar (h : Good M) : wg M 30 9 = wg M 43 1 := h.row (by omega)
theorem Good.rlos (h : Good M) : wg M 30 10 = wg M 43 2 := h.row (by omega)
theorem Good.ear (h : Good M) {b : Nat} (hb : b < nB M) : wg M 18 b = wg M 42 (2 * b) ∧ wg M 19 b = wg M 42 (2 * b + 1) := h.2.2.2.2.1 b hb
theorem Good.wd (h : Good M) {w : Nat} (hw : w < nW M) : wg M 12 w = wg M 40 (2 * w) ∧ wg M 13 w = wg M 40 (2 * w + 1) := h.2.2.1 w hw
theorem Good.mo (h : Good M) {m : Nat} (hm : m < nMo M) : wg M 14 m = wg M 41 (8 * m) ∧ wg M 15 m = nI (len M m) := ⟨(h.2.2.2.1 m hm).1, (h.2.2.2.1 m hm).2.1.trans (h.1.ln hm).1⟩
theorem Good.tx (h : Good M) {m k : Nat} (hm : m < nMo M) (hk : k < len M m) : wg M 16 (m * 6 + k) = nI (txt M m k) ∧ txt M m k < nW M := by
  have h1 := (h.2.2.2.1 m hm).2.2 k hk
  rw [Nat.mul_comm m 6, h1]
  exact h.1.tx hm hk
end GOODP
section CRADLES
variable {G : GG} {d : Nat} {M : WM}
theorem c_isHungry (hG : Good M) {b : Nat} (hb : b < nB M) : Fn G (d + 2) 2 [.ref 7, .int (nI b)] M (some (.int (bI (hun M b)))) M := by
  have hB := hG.b
  refine Fn_of okc_X0_isHungry [] ?_
  refine call_k c_minute ?_
  refine call_k (c_nfed (by omega)) ?_
  refine call_k (c_hunger hB.1 hB.2 hb) ?_
  rw [hG.rmin, hG.rfed (by omega), (hG.ear hb).2]
  refine And.intro (fun h => ?_) (fun h => ?_)
  · exact And.intro isB_0 (ret_i (bI_f (Int32.not_le.mpr h)).symm)
  · exact And.intro isB_1 (ret_i (bI_t (Int32.not_lt.mp h)).symm)
theorem c_earsNow (hG : Good M) {b : Nat} (hb : b < nB M) : Fn G (d + 3) 3 [.ref 7, .int (nI b)] M (some (.int (eN M b))) M := by
  have hB := hG.b
  refine Fn_of okc_X0_earsNow [] ?_
  refine call_k (c_isHungry hG hb) ?_
  refine And.intro (fun h => ?_) (fun h => ?_)
  · rw [bI_0] at h
    refine call_k (c_ears hB.1 hB.2 hb) ?_
    rw [(hG.ear hb).1]
    exact ret_i (if_neg h).symm
  · rw [bI_0, Classical.not_not] at h
    refine call_k (c_ears hB.1 hB.2 hb) ?_
    rw [(hG.ear hb).1]
    exact ret_i (if_pos h).symm
theorem c_rockedOnce (x : Int32) : Fn G d 6 [.int x] M (some (.int (if x + nI 3 < nI 9 then x + nI 3 else nI 9))) M := by
  refine Fn_of okc_X0_rockedOnce [] ?_
  exact And.intro rfl rfl
theorem c_depthAfterWord (hG : Good M) {w : Nat} (hw : w < nW M) (dp x e : Int32) : Fn G (d + 2) 7 [.ref 7, .int dp, .int (nI w), .int x, .int e] M (some (.int (stp M w x e dp))) M := by
  have hW := hG.w
  refine Fn_of okc_X0_depthAfterWord [] ?_
  refine call_k (c_lull hW.1 hW.2 hw) ?_
  refine call_k (c_loud hW.1 hW.2 hw) ?_
  rw [(hG.wd hw).1, (hG.wd hw).2]
  exact ret_i (clp_two _)
end CRADLES
