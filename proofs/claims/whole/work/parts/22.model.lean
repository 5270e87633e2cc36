-- the reference: what its own scratch is, and its leaves
/-- nothing but the reference's scratch has changed -/
def Sc (M M' : WM) : Prop := (∀ i, i < 39 ∨ (39 < i ∧ i < 49) → wg M' i = wg M i) ∧ (wg M' 39 0 = wg M 39 0 ∧ wg M' 39 2 = wg M 39 2 ∧ wg M' 39 4 = wg M 39 4 ∧ wg M' 39 8 = wg M 39 8 ∧ wg M' 39 11 = wg M 39 11 ∧ wg M' 39 15 = wg M 39 15) ∧ M'.2 = M.2
theorem Sc.rf (M : WM) : Sc M M := ⟨fun _ _ => rfl, ⟨rfl, rfl, rfl, rfl, rfl, rfl⟩, rfl⟩
theorem Sc.tr {M1 M2 M3 : WM} (h : Sc M1 M2) (k : Sc M2 M3) : Sc M1 M3 := ⟨fun i hi => (k.1 i hi).trans (h.1 i hi), ⟨k.2.1.1.trans h.2.1.1, k.2.1.2.1.trans h.2.1.2.1, k.2.1.2.2.1.trans h.2.1.2.2.1, k.2.1.2.2.2.1.trans h.2.1.2.2.2.1, k.2.1.2.2.2.2.1.trans h.2.1.2.2.2.2.1, k.2.1.2.2.2.2.2.trans h.2.1.2.2.2.2.2⟩, k.2.2.trans h.2.2⟩
theorem Sc.set {M : WM} {i k : Nat} {v : Int32} (h : 49 ≤ i ∨ (i = 39 ∧ 16 ≤ k)) : Sc M (wset M i k v) := by
  refine ⟨fun a ha => wg_row_ne (by omega), ?_, rfl⟩
  have key : ∀ s, s < 16 → wg (wset M i k v) 39 s = wg M 39 s := fun s hs => by
    rw [wg_set, if_neg (by omega)]
  exact ⟨key 0 (by omega), key 2 (by omega), key 4 (by omega), key 8 (by omega), key 11 (by omega), key 15 (by omega)⟩
theorem Sc.c {M M' : WM} (h : Sc M M') {i : Nat} (hi : i < 39 ∨ (39 < i ∧ i < 49)) (k : Nat) : wg M' i k = wg M i k := by rw [h.1 i hi]
theorem Sc.cN_ {M M' : WM} (h : Sc M M') {i : Nat} (hi : i < 39 ∨ (39 < i ∧ i < 49)) (k : Nat) : cN M' i k = cN M i k := by unfold cN; rw [h.c hi]
section SCX
variable {M M' : WM}
theorem Sc.nW_ (h : Sc M M') : nW M' = nW M := by unfold nW cN; rw [h.2.1.1]
theorem Sc.nMo_ (h : Sc M M') : nMo M' = nMo M := by unfold nMo cN; rw [h.2.1.2.1]
theorem Sc.nB_ (h : Sc M M') : nB M' = nB M := by unfold nB cN; rw [h.2.1.2.2.1]
theorem Sc.nK_ (h : Sc M M') : nK M' = nK M := by unfold nK cN; rw [h.2.1.2.2.2.1]
theorem Sc.nH_ (h : Sc M M') : nH M' = nH M := by unfold nH cN; rw [h.2.1.2.2.2.2.1]
theorem Sc.nT_ (h : Sc M M') : nT M' = nT M := by unfold nT cN; rw [h.2.1.2.2.2.2.2]
theorem Sc.len_ (h : Sc M M') (m : Nat) : len M' m = len M m := h.cN_ (by omega) _
theorem Sc.txt_ (h : Sc M M') (m k : Nat) : txt M' m k = txt M m k := h.cN_ (by omega) _
theorem Sc.txtf (h : Sc M M') (m : Nat) : txt M' m = txt M m := by funext k; exact h.txt_ m k
theorem Sc.isN_ (h : Sc M M') {i : Nat} (hi : i < 39 ∨ (39 < i ∧ i < 49)) (k B : Nat) : isN M' i k B ↔ isN M i k B := by
  unfold isN; rw [h.cN_ hi, h.c hi]
theorem Sc.Snap_ (h : Sc M M') {i : Nat} (hi : i < 39 ∨ (39 < i ∧ i < 49)) (o : Nat) : Snap M' i o ↔ Snap M i o := by
  unfold Snap
  simp only [h.isN_ hi]
theorem Sc.GM_ (h : Sc M M') (g : GM M) : GM M' := by
  obtain ⟨⟨g1, g2, g3, g4, g5, g6⟩, h2, ⟨h3, h4, h5⟩, h6, h7⟩ := g
  have e : ∀ {k B}, wg M' 39 k = wg M 39 k → (wg M 39 k = nI (wg M 39 k).toNatClampNeg ∧ (wg M 39 k).toNatClampNeg ≤ B) → (wg M' 39 k = nI (wg M' 39 k).toNatClampNeg ∧ (wg M' 39 k).toNatClampNeg ≤ B) := by
    intro k B e1 q
    refine ⟨?_, ?_⟩
    · show wg M' 39 k = nI (wg M' 39 k).toNatClampNeg
      rw [e1]; exact q.1
    · show (wg M' 39 k).toNatClampNeg ≤ B
      rw [e1]; exact q.2
  refine ⟨⟨e h.2.1.1 g1, e h.2.1.2.1 g2, e h.2.1.2.2.1 g3, e h.2.1.2.2.2.1 g4, e h.2.1.2.2.2.2.1 g5, e h.2.1.2.2.2.2.2 g6⟩, fun m hm => ?_, ⟨(h.Snap_ (by omega) 0).mpr h3, fun t ht => (h.Snap_ (by omega) _).mpr (h4 t (by rw [h.nK_] at ht; exact ht)), fun i hi => ?_⟩, fun k hk => ?_, fun k hk => ?_⟩
  · rw [h.nMo_] at hm
    obtain ⟨a1, a2, a3, a4⟩ := h2 m hm
    refine ⟨(h.isN_ (by omega) _ _).mpr a1, (h.isN_ (by omega) _ _).mpr a2, by rw [h.len_]; exact a3, fun k hk => ?_⟩
    rw [h.len_] at hk
    exact ⟨(h.isN_ (by omega) _ _).mpr (a4 k hk).1, by rw [h.txt_, h.nW_]; exact (a4 k hk).2⟩
  · rw [h.cN_ (by omega)]
    exact ⟨(h.isN_ (by omega) _ _).mpr (h5 i hi).1, fun q => (h.Snap_ (by omega) _).mpr ((h5 i hi).2 q)⟩
  · rw [h.nH_] at hk
    rw [h.cN_ (by omega), h.nB_]
    exact ⟨(h.isN_ (by omega) _ _).mpr (h6 k hk).1, (h6 k hk).2.1, (h.isN_ (by omega) _ _).mpr (h6 k hk).2.2⟩
  · rw [h.nT_] at hk
    exact (h.isN_ (by omega) _ _).mpr (h7 k hk)
theorem Sc.RLc_ (h : Sc M M') (g : RLc M) : RLc M' := by
  obtain ⟨g1, g2, g3, g4, g5, g6, g7, g8, g9⟩ := g
  have c := fun {i : Nat} (hi : i < 39 ∨ (39 < i ∧ i < 49)) (k : Nat) => h.c hi k
  refine ⟨⟨by rw [c (by omega), h.2.1.1]; exact g1.1, by rw [c (by omega), h.2.1.2.1]; exact g1.2.1, by rw [c (by omega), h.2.1.2.2.1]; exact g1.2.2⟩, fun w hw => ?_, fun m hm => ?_, fun b hb => ?_, fun k hk => ?_, ⟨by rw [c (by omega), h.2.1.2.2.2.1]; exact g6.1, (h.isN_ (by omega) _ _).mpr g6.2.1, fun t ht k hk => ?_⟩, ⟨by rw [c (by omega), h.cN_ (by omega), h.cN_ (by omega)]; exact g7.1, fun i hi q k hk => ?_⟩, ⟨by rw [c (by omega), h.2.1.2.2.2.2.1]; exact g8.1, fun k hk => ?_⟩, ⟨by rw [c (by omega), h.2.1.2.2.2.2.2]; exact g9.1, fun k hk => ?_⟩⟩
  · rw [h.nW_] at hw
    rw [c (by omega), c (by omega), c (by omega), c (by omega)]; exact g2 w hw
  · rw [h.nMo_] at hm
    rw [c (by omega), c (by omega), c (by omega), c (by omega)]
    refine ⟨(g3 m hm).1, (g3 m hm).2.1, fun k hk => ?_⟩
    rw [h.len_] at hk
    rw [c (by omega), c (by omega)]; exact (g3 m hm).2.2 k hk
  · rw [h.nB_] at hb
    rw [c (by omega), c (by omega), c (by omega), c (by omega)]; exact g4 b hb
  · rw [c (by omega), c (by omega)]; exact g5 k hk
  · rw [h.nK_] at ht
    rw [h.cN_ (by omega), h.nK_, c (by omega), c (by omega)]; exact g6.2.2 t ht k hk
  · rw [h.cN_ (by omega)] at q
    rw [c (by omega), c (by omega)]; exact g7.2 i hi q k hk
  · rw [h.nH_] at hk
    rw [c (by omega), c (by omega), c (by omega), c (by omega)]; exact g8.2 k hk
  · rw [h.nT_] at hk
    rw [c (by omega), c (by omega)]; exact g9.2 k hk
theorem Sc.Good_ (h : Sc M M') (g : Good M) : Good M' := ⟨h.GM_ g.1, h.RLc_ g.2⟩
-- the words
theorem Sc.hun_ (h : Sc M M') (b : Nat) : hun M' b ↔ hun M b := by
  unfold hun
  rw [h.c (by omega), h.c (by omega), h.c (by omega)]
theorem Sc.eN_ (h : Sc M M') (b : Nat) : eN M' b = eN M b := by
  unfold eN hun
  rw [h.c (by omega), h.c (by omega), h.c (by omega), h.c (by omega)]
theorem Sc.stp_ (h : Sc M M') : stp M' = stp M := by
  funext w x e d
  unfold stp
  rw [h.c (by omega), h.c (by omega)]
theorem Sc.rn_ (h : Sc M M') (r : Nat → Nat) (lo : Nat → Int32) (e : Int32) : ∀ (n k : Nat) (d : Int32), rn M' r lo e n k d = rn M r lo e n k d
  | 0, _, _ => rfl
  | n + 1, k, d => by
    unfold rn
    rw [h.stp_, Sc.rn_ h r lo e n (k + 1) _]
theorem Sc.pl_ (h : Sc M M') (r : Nat → Nat) (lo : Nat → Int32) (e : Int32) : ∀ (n k : Nat) (d : Int32), pl M' r lo e n k d = pl M r lo e n k d
  | 0, _, _ => rfl
  | n + 1, k, d => by
    unfold pl
    rw [h.stp_, Sc.pl_ h r lo e n (k + 1) _]
theorem Sc.woul_ (h : Sc M M') (m b : Nat) : woul M' m b = woul M m b := by
  unfold woul
  rw [h.c (by omega), h.pl_, h.eN_, h.len_, h.txtf]
end SCX
section MODEL
variable {G : GG} {d : Nat} {M : WM}
theorem c_in (x lo hi : Int32) : Fn G d 115 [.int x, .int lo, .int hi] M (some (.int (bI (¬ x < lo ∧ x ≤ hi)))) M := by
  refine Fn_of okc_X10_in [] ?_
  refine And.intro (fun h => ?_) (fun h => ?_)
  · exact And.intro isB_0 (ret_i (bI_f (fun q => q.1 h)).symm)
  · refine And.intro (fun h1 => ?_) (fun h1 => ?_)
    · exact And.intro isB_0 (ret_i (bI_f (fun q => Int32.not_lt.mpr q.2 h1)).symm)
    · exact And.intro isB_1 (ret_i (bI_t ⟨h, Int32.not_lt.mp h1⟩).symm)
theorem in_ix {x : Int32} {n : Nat} (hn : n < 2 ^ 30) : (¬ x < nI 0 ∧ x ≤ nI n - nI 1) ↔ ix x n := by
  unfold ix
  have e := pk_sub_toInt (a := n) (b := 1) hn (by omega)
  rw [Int32.le_iff_toInt_le, Int32.lt_iff_toInt_lt (x := x) (y := nI n), e, nI_toInt (by omega)]
  constructor
  · rintro ⟨a, b⟩; exact ⟨a, by omega⟩
  · rintro ⟨a, b⟩; exact ⟨a, by omega⟩
theorem in_ix2 {x : Int32} {n : Nat} (hn : n < 2 ^ 30) : (¬ x < nI 0 ∧ x ≤ nI n) ↔ ix x (n + 1) := by
  unfold ix
  rw [Int32.le_iff_toInt_le, Int32.lt_iff_toInt_lt (x := x) (y := nI (n + 1)), nI_toInt (by omega), nI_toInt (by omega)]
  constructor
  · rintro ⟨a, b⟩; exact ⟨a, by omega⟩
  · rintro ⟨a, b⟩; exact ⟨a, by omega⟩
theorem c_has (x y : Int32) : Fn G d 116 [.int x, .int y] M (some (.int (bI (bt x y)))) M := by
  refine Fn_of okc_X10_has [] ?_
  refine And.intro (fun h => ?_) (fun h => ?_)
  · exact And.intro isB_0 (ret_i (bI_f h).symm)
  · exact And.intro isB_1 (ret_i (bI_t h).symm)
theorem c_isMotion (hG : GM M) (x : Int32) : Fn G (d + 1) 117 [.ref 39, .int x] M (some (.int (bI (ix x (nMo M))))) M := by
  have hW := hG.m
  refine Fn_of okc_X10_isMotion [] ?_
  conv => whnf
  rw [hW.1]
  refine call_k (c_in _ _ _) ?_
  rw [bI_iff (in_ix (by omega))]
  exact And.intro (isB_bI _) (ret_i rfl)
theorem c_isBaby (hG : GM M) (x : Int32) : Fn G (d + 1) 118 [.ref 39, .int x] M (some (.int (bI (ix x (nB M))))) M := by
  have hW := hG.b
  refine Fn_of okc_X10_isBaby [] ?_
  conv => whnf
  rw [hW.1]
  refine call_k (c_in _ _ _) ?_
  rw [bI_iff (in_ix (by omega))]
  exact And.intro (isB_bI _) (ret_i rfl)
theorem m_isHungry {b : Nat} (hb : b < 4) : Fn G d 132 [.ref 39, .int (nI b)] M (some (.int (bI (hun M b)))) M := by
  refine Fn_of okc_X10_isHungry [] ?_
  refine And.intro (vp_in_nI (by omega) (by decide)) ?_
  refine And.intro (by rw [nI_add]; exact vp_in_nI (by omega) (by decide)) ?_
  refine And.intro (by rw [pk_mul, nI_add]; exact vp_in_nI (by omega) (by decide)) ?_
  rw [pk_mul, nI_add, nI_add, nI_clamp (n := 2 * b + 1) (by omega), nI_clamp (n := 7 + b) (by omega), nI_clamp (n := 0) (by omega)]
  refine And.intro (fun h => ?_) (fun h => ?_)
  · exact And.intro isB_0 (ret_i (bI_f (Int32.not_le.mpr h)).symm)
  · exact And.intro isB_1 (ret_i (bI_t (Int32.not_lt.mp h)).symm)
theorem m_earsOf {b : Nat} (hb : b < 4) : Fn G (d + 1) 133 [.ref 39, .int (nI b)] M (some (.int (eN M b))) M := by
  refine Fn_of okc_X10_earsOf [] ?_
  refine call_k (m_isHungry hb) ?_
  refine And.intro (fun h => ?_) (fun h => ?_)
  · rw [bI_0] at h
    refine And.intro (by rw [pk_mul]; exact vp_in_nI (by omega) (by decide)) ?_
    rw [pk_mul, nI_clamp (by omega)]
    exact ret_i (if_neg h).symm
  · rw [bI_0, Classical.not_not] at h
    refine And.intro (by rw [pk_mul]; exact vp_in_nI (by omega) (by decide)) ?_
    rw [pk_mul, nI_clamp (by omega)]
    exact ret_i (if_pos h).symm
theorem m_isDone (x : Int32) : Fn G (d + 1) 134 [.ref 39, .int x] M (some (.int (bI (bt (wg M 43 1 ||| wg M 43 2) x)))) M := by
  refine Fn_of okc_X10_isDone [] ?_
  refine And.intro (vp_in_nI (by omega) (by decide)) ?_
  refine And.intro (vp_in_nI (by omega) (by decide)) ?_
  refine call_k (c_has _ _) ?_
  exact And.intro (isB_bI _) (ret_i rfl)
theorem m_rocked (x : Int32) : Fn G d 147 [.int x] M (some (.int (rock x))) M := by
  have key : ∀ v : Int32, (nI 9 < v → nI 9 = if v < nI 9 then v else nI 9) ∧ (¬ nI 9 < v → v = if v < nI 9 then v else nI 9) := by
    intro v
    refine ⟨fun h => ?_, fun h => ?_⟩
    · rw [if_neg]; rw [Int32.lt_iff_toInt_lt] at h ⊢; omega
    · by_cases h2 : v < nI 9
      · rw [if_pos h2]
      · rw [if_neg h2]
        apply Int32.toInt_inj.mp
        rw [Int32.lt_iff_toInt_lt] at h h2
        omega
  refine Fn_of okc_X10_rocked [] ?_
  refine And.intro (fun h => ?_) (fun h => ?_)
  · exact ret_i ((key _).2 (Int32.not_lt.mpr h))
  · exact ret_i ((key _).1 (Int32.not_le.mp h))
end MODEL
