-- match: the class
theorem gv_bit : ∀ c, c < 16 → ∀ t, t < 16 → ∀ b, b < 4 → (((nI c &&& (nI t ^^^ mI 1)) >>> (nI b &&& 31)) &&& nI 1 = nI 1 ↔ (c / 2 ^ b % 2 = 1 ∧ t / 2 ^ b % 2 = 0)) := by decide +kernel
theorem tt_or : ∀ t, t < 16 → ∀ b, b < 4 → nI t ||| nI 1 <<< (nI b &&& 31) = nI (t ||| 2 ^ b) ∧ (t ||| 2 ^ b) < 16 := by decide +kernel
theorem tt_bit : ∀ t, t < 16 → ∀ b, b < 4 → ∀ i, i < 4 → ((t ||| 2 ^ b) / 2 ^ i % 2 = 1 ↔ i = b ∨ t / 2 ^ i % 2 = 1) := by decide +kernel
theorem cc_or : ∀ b, b < 4 → ∀ c, c < 2 ^ b → nI c ||| nI 1 <<< (nI b &&& 31) = nI (c + 2 ^ b) ∧ c + 2 ^ b < 2 ^ (b + 1) ∧ c < 2 ^ (b + 1) ∧ (c + 2 ^ b) / 2 ^ b % 2 = 1 ∧ c / 2 ^ b % 2 = 0 ∧ ∀ i, i < b → (c + 2 ^ b) / 2 ^ i % 2 = c / 2 ^ i % 2 := by decide +kernel
theorem cc_16 : ∀ b, b < 5 → 2 ^ b ≤ 16 := by decide
def CarOK (M N : WM) (m : Nat) : Prop := ∃ c, c < 16 ∧ wg N 36 m = nI c ∧ ∀ b, b < nB M → (c / 2 ^ b % 2 = 1 ↔ opn M m ∧ carM M m b)
def TtOK (t : Nat) (p : Nat → Nat) (m : Nat) : Prop := t < 16 ∧ ∀ b, b < 4 → (t / 2 ^ b % 2 = 1 ↔ ∃ i, i < m ∧ p i = b + 1)
theorem TtOK.z {t m : Nat} {p : Nat → Nat} (h : TtOK t p m) {p' : Nat → Nat} (e : ∀ i, i < m → p' i = p i) (h0 : p' m = 0) : TtOK t p' (m + 1) := by
  refine ⟨h.1, fun b hb => ?_⟩
  rw [h.2 b hb]
  constructor
  · rintro ⟨i, hi, q⟩
    exact ⟨i, by omega, by rw [e i hi]; exact q⟩
  · rintro ⟨i, hi, q⟩
    by_cases z : i = m
    · rw [z, h0] at q; omega
    · exact ⟨i, by omega, by rw [← e i (by omega)]; exact q⟩
theorem TtOK.s {t m b : Nat} {p : Nat → Nat} (h : TtOK t p m) (hb4 : b < 4) {p' : Nat → Nat} (e : ∀ i, i < m → p' i = p i) (h0 : p' m = b + 1) : TtOK (t ||| 2 ^ b) p' (m + 1) := by
  refine ⟨(tt_or t h.1 b hb4).2, fun c hc => ?_⟩
  rw [tt_bit t h.1 b hb4 c hc, h.2 c hc]
  constructor
  · rintro (q | ⟨i, hi, q⟩)
    · exact ⟨m, by omega, by rw [h0, q]⟩
    · exact ⟨i, by omega, by rw [e i hi]; exact q⟩
  · rintro ⟨i, hi, q⟩
    by_cases z : i = m
    · rw [z, h0] at q; exact Or.inl (by omega)
    · exact Or.inr ⟨i, by omega, by rw [← e i (by omega)]; exact q⟩
def CB (M N : WM) (k T : Nat) : Prop := Bs1 (fun h => Rv M h (nMo M)) (fun g => wS M g (nMo M)) (fun g => hv (nB M + 1) g (nMo M)) (fun g => hv (nB M + 1) g k) T (wg N 9 3) (fun g => ∀ i, i < nMo M → wg N 34 i = enc (g i))
def GfP (M N : WM) (p : Nat → Nat) (m : Nat) : Option Value → WM → Prop := fun q N2 => q = none ∧ Cs M N2 ∧ wg N2 36 = wg N 36 ∧ (∀ i, i < m → wg N2 35 i = enc (p i)) ∧ CB M N2 m (hv (nB M + 1) p m + 1)
section MAC
variable {G : GG} {d : Nat} {M : WM}
theorem Rv.sn {g : Nat → Nat} {m : Nat} (r : Rv M g m) {p : Nat → Nat} (e : ∀ i, i < m → p i = g i) (hb : p m ≤ nB M) (h : p m ≠ 0 → opn M m ∧ carM M m (p m - 1) ∧ ∀ j, j < m → p j ≠ p m) : Rv M p (m + 1) := fun i hi => by
  by_cases z : i = m
  · rw [z]; exact ⟨hb, h⟩
  · have r2 := (r.cg (fun i hi => (e i hi).symm)) i (by omega)
    exact r2
theorem CB.up_ {N : WM} {m T : Nat} (hm : m < nMo M) : CB M N m T ↔ CB M N (m + 1) (T * (nB M + 1)) := by
  constructor
  · exact fun h => Bs1.cg h (fun g r => (hv_lt (r.lt m hm)).symm)
  · exact fun h => Bs1.cg h (fun g r => hv_lt (r.lt m hm))
set_option maxHeartbeats 400000 in
theorem lp_gf (hG : Good M) {m t D f : Nat} {p : Nat → Nat} {N0 : WM} (hmf : m + (f + 1) = nMo M) (hD : 2 ≤ D) (hr : Rv M p m) (ht : TtOK t p m)
    (hcar : ∀ i, i < nMo M → CarOK M N0 i)
    (hrec : ∀ (t' : Nat) (p' : Nat → Nat) (N' : WM), Rv M p' (m + 1) → TtOK t' p' (m + 1) → Cs M N' → wg N' 36 = wg N0 36 → (∀ i, i < m + 1 → wg N' 35 i = enc (p' i)) → CB M N' (m + 1) (hv (nB M + 1) p' (m + 1)) →
      Fr G D 68 [.ref 9, .int (nI (m + 1)), .int (nI t'), .int (nI (wS M p' (m + 1)))] N' (GfP M N' p' (m + 1))) :
    ∀ (u b : Nat) (N : WM), b + u = nB M → Cs M N → wg N 36 = wg N0 36 → (∀ i, i < m → wg N 35 i = enc (p i)) → CB M N (m + 1) (hv (nB M + 1) p m * (nB M + 1) + (b + 1)) →
    A G (D + 1) 68 51 [some (.ref 9), some (.int (nI m)), some (.int (nI t)), some (.int (nI (wS M p m))), some (.int (nI b))] [] N (GfP M N0 p m)
  | 0, b, N, hb, hcs, h36, hrow, hcb => by
    have hB := hG.b
    have e12 : wg N 1 2 = nI (nB M) := by rw [hcs.1 1 rfl]; exact hB.1
    refine A_wp okc_X7_giveFrom [51] ?_
    conv => whnf
    rw [e12]
    refine And.intro (fun _ => ?_) (fun h => absurd (nI_le (by omega) (by omega)) h)
    refine ⟨rfl, hcs, h36, hrow, (CB.up_ (by omega)).mpr ?_⟩
    rw [Nat.succ_mul]
    rw [show b = nB M by omega] at hcb
    exact hcb
  | u + 1, b, N, hb, hcs, h36, hrow, hcb => by
    have hB := hG.b
    have hM := hG.m
    have e12 : wg N 1 2 = nI (nB M) := by rw [hcs.1 1 rfl]; exact hB.1
    obtain ⟨c, hc, ec, hcb2⟩ := hcar m (by omega)
    rw [← h36] at ec
    have hbit := gv_bit c hc t ht.1 b (by omega)
    refine A_wp okc_X7_giveFrom [51] ?_
    conv => whnf
    rw [e12]
    refine And.intro (fun h => absurd h (nI_ge (by omega) (by omega))) (fun _ => ?_)
    refine And.intro (vp_in_nI (by omega) (by decide)) ?_
    rw [nI_clamp (n := m) (by omega), ec]
    refine And.intro (fun h => ?_) (fun h => ?_)
    · rw [hbit] at h
      have ih := lp_gf hG hmf hD hr ht hcar hrec u (b + 1) N (by omega) hcs h36 hrow (Bs1.no hcb (fun g r e => h ?_))
      · rw [← nI_add b 1] at ih
        exact And.intro trivial ih
      · have e : hv (nB M + 1) g m * (nB M + 1) + g m = hv (nB M + 1) p m * (nB M + 1) + (b + 1) := e
        obtain ⟨e1, e2⟩ := dm_ (r.lt m (by omega)) (by omega) e
        have e3 := hv_inj m (fun i hi => r.lt i (by omega)) hr.lt e1
        have r2 := (r m (by omega)).2 (by omega)
        rw [e2, Nat.add_sub_cancel] at r2
        refine ⟨(hcb2 b (by omega)).mpr ⟨r2.1, r2.2.1⟩, ?_⟩
        have h1 : ¬ t / 2 ^ b % 2 = 1 := fun q => by
          obtain ⟨i, hi, q2⟩ := (ht.2 b (by omega)).mp q
          exact r2.2.2 i hi (by rw [e3 i hi]; exact q2)
        omega
    · rw [hbit] at h
      have hoc := (hcb2 b (by omega)).mp h.1
      have hnt : ¬ ∃ i, i < m ∧ p i = b + 1 := fun q => by
        have := (ht.2 b (by omega)).mpr q
        omega
      refine And.intro (vp_in_nI (by omega) (by decide)) ?_
      rw [nI_clamp (n := m) (by omega)]
      have hcs2 : Cs M (wset N 35 m (nI b)) := hcs.tr (Cs.set rfl)
      have e14 : wg (wset N 35 m (nI b)) 14 m = nI (cN M 41 (8 * m)) := by rw [wg_ne1 (by omega), hcs.1 14 rfl, (hG.mo (show m < nMo M by omega)).1]; exact (hG.1.2.1 m (by omega)).1.1
      refine call_k (c_worth (d := D - 2 + 1) (hcs2.w11 hG) hM.2 (show m < nMo M by omega) |> fun q => by rw [show D - 2 + 1 + 1 = D by omega] at q; exact q) ?_
      rw [e14]
      have ep : ∀ i, i < m → up p m (b + 1) i = p i := fun i hi => up_f _ _ (by omega)
      have em : up p m (b + 1) m = b + 1 := up_t _ _ _
      have ews : wS M (up p m (b + 1)) (m + 1) = wS M p m + cN M 41 (8 * m) := by
        show wS M (up p m (b + 1)) m + _ = _
        rw [wS_cg m ep, em, if_neg (by omega)]
      have ehv : hv (nB M + 1) (up p m (b + 1)) (m + 1) = hv (nB M + 1) p m * (nB M + 1) + (b + 1) := by
        show hv (nB M + 1) (up p m (b + 1)) m * (nB M + 1) + up p m (b + 1) m = _
        rw [hv_cg m ep, em]
      have hrc := hrec (t ||| 2 ^ b) (up p m (b + 1)) (wset N 35 m (nI b)) (hr.sn ep (by rw [em]; omega) (fun _ => by
          rw [em, Nat.add_sub_cancel]
          exact ⟨hoc.1, hoc.2, fun j hj q => hnt ⟨j, hj, by rw [← ep j hj]; exact q⟩⟩)) (ht.s (by omega) ep em) hcs2 ((wg_row_ne (by omega)).trans h36) (fun i hi => by
          by_cases e : i = m
          · rw [e, wg_same, em]; exact (if_neg (by omega)).symm
          · rw [wg_ne2 e, ep i (by omega)]; exact hrow i (by omega)) (by rw [ehv]; exact hcb)
      rw [ews, ← nI_add m 1, ← (tt_or t ht.1 b (by omega)).1, ← nI_add (wS M p m) _] at hrc
      refine call_r hrc ?_
      rintro r N2 ⟨rfl, hcs3, h363, hrow3, hcb3⟩
      have ih := lp_gf hG hmf hD hr ht hcar hrec u (b + 1) N2 (by omega) hcs3 (h363.trans ((wg_row_ne (by omega)).trans h36)) (fun i hi => by rw [hrow3 i (by omega), ep i hi]) (by rw [ehv] at hcb3; exact hcb3)
      rw [← nI_add b 1] at ih
      exact And.intro trivial ih
set_option maxHeartbeats 400000 in
theorem c_giveFrom (hG : Good M) : ∀ (f m D t : Nat) (p : Nat → Nat) (N : WM), m + f = nMo M → f + 3 ≤ D → (∀ i, i < nMo M → CarOK M N i) → Rv M p m → TtOK t p m → Cs M N → (∀ i, i < m → wg N 35 i = enc (p i)) → CB M N m (hv (nB M + 1) p m) →
      Fr G D 68 [.ref 9, .int (nI m), .int (nI t), .int (nI (wS M p m))] N (GfP M N p m) := by
  intro f
  induction f with
  | zero =>
    intro m D t p N hmf hD hcar hr ht hcs hrow hcb
    have hM := hG.m
    have e11 := hcs.w11 hG
    obtain rfl : m = nMo M := by omega
    obtain ⟨D', rfl⟩ : ∃ D', D = D' + 1 := ⟨D - 1, by omega⟩
    have hbd : ∀ h, Rv M h (nMo M) → wS M h (nMo M) < 2 ^ 31 := fun h _ => by have := wS_le hG.1 h (nMo M) (Nat.le_refl _); omega
    have hu : ∀ h, Rv M h (nMo M) → hv (nB M + 1) h (nMo M) = hv (nB M + 1) p (nMo M) → wS M h (nMo M) = wS M p (nMo M) := fun h rh e => wS_cg _ (hv_inj _ rh.lt hr.lt e)
    refine Fr_of okc_X7_giveFrom [51] ?_
    conv => whnf
    rw [e11]
    refine And.intro (fun _ => ?_) (fun h => absurd (nI_le (by omega) (by omega)) h)
    refine And.intro (fun h => ?_) (fun h => ?_)
    · exact ⟨rfl, hcs, rfl, hrow, Bs1.old hcb hr rfl hu hbd (Int32.not_lt.mpr h)⟩
    · refine call_k (c_takeRow _ _) ?_
      refine ⟨rfl, ((hcs.tr (Cs.set rfl)).tr (Cs.set rfl)).cpy, rfl, hrow, Bs1.new (R' := fun g => ∀ i, i < nMo M → wg (wcpy (wset (wset N 9 3 (nI (wS M p (nMo M)))) 9 4 (nI (nMo M))) 35 34 0 0 5) 34 i = enc (g i)) hcb hr rfl hu hbd (Int32.not_le.mp h) (fun i hi => ?_)⟩
      rw [wg_cpy, if_pos rfl, if_pos ⟨Nat.zero_le i, by omega⟩, Nat.zero_add, Nat.sub_zero]
      exact hrow i hi
  | succ f IH =>
    intro m D t p N hmf hD hcar hr ht hcs hrow hcb
    have hM := hG.m
    have e11 := hcs.w11 hG
    obtain ⟨D', rfl⟩ : ∃ D', D = D' + 1 := ⟨D - 1, by omega⟩
    have ep : ∀ i, i < m → up p m 0 i = p i := fun i hi => up_f _ _ (by omega)
    have em : up p m 0 m = 0 := up_t _ _ _
    have ews : wS M (up p m 0) (m + 1) = wS M p m := by
      show wS M (up p m 0) m + _ = _
      rw [wS_cg m ep, em, if_pos rfl, Nat.add_zero]
    have ehv : hv (nB M + 1) (up p m 0) (m + 1) = hv (nB M + 1) p m * (nB M + 1) := by
      show hv (nB M + 1) (up p m 0) m * (nB M + 1) + up p m 0 m = _
      rw [hv_cg m ep, em, Nat.add_zero]
    refine Fr_of okc_X7_giveFrom [51] ?_
    conv => whnf
    rw [e11]
    refine And.intro (fun h => absurd h (nI_ge (by omega) (by omega))) (fun _ => ?_)
    refine And.intro (fun _ => ?_) (fun h => absurd (nI_lt (by omega) (by omega)) h)
    refine And.intro (vp_in_nI (by omega) (by decide)) ?_
    rw [nI_clamp (n := m) (by omega)]
    have hcar2 : ∀ N' : WM, wg N' 36 = wg N 36 → ∀ i, i < nMo M → CarOK M N' i := fun N' e i hi => by
      obtain ⟨c, a1, a2, a3⟩ := hcar i hi
      exact ⟨c, a1, by rw [e]; exact a2, a3⟩
    have hrc := IH (m + 1) D' t (up p m 0) (wset N 35 m (mI 9)) (by omega) (by omega) (hcar2 _ (wg_row_ne (by omega))) (hr.sn ep (by rw [em]; omega) (fun q => absurd em q)) (ht.z ep em) (hcs.tr (Cs.set rfl)) (fun i hi => by
          by_cases e : i = m
          · rw [e, wg_same, em]; rfl
          · rw [wg_ne2 e, ep i (by omega)]; exact hrow i (by omega)) (by rw [ehv]; exact (CB.up_ (by omega)).mp hcb)
    rw [ews, ← nI_add m 1] at hrc
    refine call_r hrc ?_
    rintro r N2 ⟨rfl, hcs3, h363, hrow3, hcb3⟩
    refine And.intro trivial ?_
    exact lp_gf hG hmf (by omega) hr ht hcar (fun t' p' N' a1 a2 a3 a4 a5 a6 => IH (m + 1) D' t' p' N' (by omega) (by omega) (hcar2 N' a4) a1 a2 a3 a5 a6) (nB M) 0 N2 (by omega) hcs3 (h363.trans (wg_row_ne (by omega))) (fun i hi => by rw [hrow3 i (by omega), ep i hi]) (by rw [ehv] at hcb3; exact hcb3)
end MAC
