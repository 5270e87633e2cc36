-- house: the reference's call; the two alike
def HmP (M : WM) (F : Nat ⊕ Hs) (L : Nat) : Option Value → WM → Prop := fun q N => (∃ k, k ≤ L ∧ F = .inl k ∧ q = some (.int (mI 10 - nI k)) ∧ Sc M N) ∨ (∃ hs, F = .inr hs ∧ HsOK hs ∧ q = some (.int (nI (hs.1 + hs.2.1 + hs.2.2.1))) ∧ EndM M N hs)
section HOM
variable {G : GG} {d : Nat} {M N : WM} {L : Nat} {x : Nat → Nat} {F : Nat ⊕ Hs}
theorem h65W {k : Nat} (hs : Sc M N) (hw : wg N 39 20 = nI 1) (hk : k ≤ L) (h17 : wg N 39 17 = nI k) (hF : F = .inl k) : A G (d + 6) 130 65 [some (.ref 39)] [] N (HmP M F L) := by
  refine A_wp okc_X10_house [] ?_
  conv => whnf
  rw [hw]
  refine And.intro (fun h => absurd h n10) (fun _ => ?_)
  exact Or.inl ⟨k, hk, hF, by rw [h17], hs⟩
theorem h34W {k : Nat} (hs : Sc M N) (hw : wg N 39 20 = nI 1) (hk : k ≤ L) (h17 : wg N 39 17 = nI k) (hF : F = .inl k) : A G (d + 6) 130 34 [some (.ref 39)] [] N (HmP M F L) := by
  have w := h65W (G := G) (d := d) hs hw hk h17 hF
  refine A_wp okc_X10_house [65] ?_
  refine And.intro (fun _ => And.intro trivial w) (fun _ => ?_)
  conv => whnf
  rw [hw]
  refine And.intro (fun _ => And.intro trivial w) (fun h => absurd h n10)
set_option maxHeartbeats 400000 in
theorem lp_h34 (hT : TxM M L x) : ∀ (n s : Nat) (g : Sg) (N : WM), L ≤ s + n → Sc M N → wg N 39 20 = nI 0 → Lk L x N s → F = RT_ L x s g → SgOK g → g.1 = 0 → HsM N g.2.2.2 → wg N 39 21 = nI (g.2.2.2.1 + g.2.2.2.2.1 + g.2.2.2.2.2.1) →
    A G (d + 6) 130 34 [some (.ref 39)] [] N (HmP M F L)
  | n, s, g, N, hn, hs, hw, hk, hF, ho, hg, hh, h21 => by
    have hk0 := hk
    obtain ⟨h17, hsL, hb, ⟨rfl, h18⟩ | ⟨hsl, c, h1, h2, h16, hcu, hnb, htok⟩⟩ := hk
    · rw [RT_end0 hg] at hF
      refine A_wp okc_X10_house [] ?_
      conv => whnf
      rw [h18]
      refine And.intro (fun _ => ?_) (fun h => absurd rfl h)
      conv => whnf
      rw [hw]
      refine And.intro (fun _ => ?_) (fun h => absurd rfl h)
      refine call_k (m_settles hh ho.1) ?_
      refine Or.inr ⟨_, hF, ho.1, ?_, S7_end hs hh ho.1⟩
      rw [S7_39 N _ (by omega) (by omega) (by omega), wg_ne2 (by omega), wg_ne2 (by omega), wg_ne2 (by omega), h21]
    · have ht0 : ¬ wg N 39 18 = nI 0 := fun q => by
        rcases htok with ⟨_, ⟨v, _, z, _⟩ | ⟨_, z⟩⟩ | ⟨_, _, z⟩
        · rw [z] at q; exact absurd q (by decide)
        · rw [z] at q; exact absurd q (by decide)
        · rw [z] at q
          unfold tkI at q
          by_cases a : chr L x s = 119 ∨ chr L x s = 109 ∨ chr L x s = 98
          · rw [if_pos a] at q; exact absurd q (by decide)
          · rw [if_neg a] at q
            by_cases b : chr L x s = 59
            · rw [if_pos b] at q; exact absurd q (by decide)
            · rw [if_neg b] at q; exact absurd q (by decide)
      obtain ⟨n', rfl⟩ : ∃ n', n = n' + 1 := ⟨n - 1, by omega⟩
      refine A_wp okc_X10_house [34] ?_
      refine And.intro (fun h => absurd h ht0) (fun _ => ?_)
      conv => whnf
      rw [hw]
      refine And.intro (fun h => absurd rfl h) (fun _ => ?_)
      refine call_r (m_readItem hT hs hw hk0 hsl hF ho hg hh) ?_
      rintro r N2 ⟨rfl, hs2, e21, ⟨s2, g2, w2, k2, l2, hF2, o2, z2, hh2, hsum⟩ | ⟨w2, k, l, h17', hF'⟩⟩
      · have f : Fx 21 N2 (wset N2 39 21 (nI (g2.2.2.2.1 + g2.2.2.2.2.1 + g2.2.2.2.2.2.1))) := (Fx.rf 21 N2).set_ (by omega) (by omega)
        rw [hh.cs ho.1] at hsum
        conv => whnf
        rw [e21, h21, nI_add, ← hsum]
        refine And.intro trivial ?_
        exact lp_h34 hT n' s2 g2 _ (by omega) (hs2.tr f.sc) w2 k2 hF2 o2 z2 hh2 rfl
      · conv => whnf
        exact And.intro trivial (h34W (hs2.tr (Sc.set (Or.inr ⟨rfl, by omega⟩))) w2 l h17' hF')
set_option maxHeartbeats 400000 in
theorem m_house (hT : TxM M L x) : Fr G (d + 6) 130 [.ref 39] M (HmP M (RT_ L x 0 sg01) L) := by
  refine Fr_of okc_X10_house [34] ?_
  have hs : Sc M (wset (wset (wset (wset (wset (wset M 39 16 (nI 0)) 39 20 (nI 0)) 39 21 (nI 0)) 39 22 (nI 0)) 39 24 (nI 0)) 39 26 (nI 0)) := (((((Sc.set (Or.inr ⟨rfl, by omega⟩)).tr (Sc.set (Or.inr ⟨rfl, by omega⟩))).tr (Sc.set (Or.inr ⟨rfl, by omega⟩))).tr (Sc.set (Or.inr ⟨rfl, by omega⟩))).tr (Sc.set (Or.inr ⟨rfl, by omega⟩))).tr (Sc.set (Or.inr ⟨rfl, by omega⟩))
  refine And.intro isB_0 ?_
  refine call_r (m_next (d := d + 3) (hT.sc hs) (e := 0) rfl (Nat.zero_le _) (Or.inl rfl)) ?_
  rintro r N ⟨rfl, f, s, hk, _, hnb⟩
  refine And.intro trivial ?_
  have e := RT_skips (L := L) (x := x) (s := sg01) s 0 (by have := hk.2.1; omega) (fun j a b => hnb j a (by omega))
  rw [Nat.zero_add] at e
  refine lp_h34 hT L s sg01 N (by omega) (hs.tr f.sc) ?_ hk e ?_ rfl (HsM.fx (N := wset (wset (wset (wset (wset (wset M 39 16 (nI 0)) 39 20 (nI 0)) 39 21 (nI 0)) 39 22 (nI 0)) 39 24 (nI 0)) 39 26 (nI 0)) ?_ f (by omega)) ?_
  · rw [f.2.1 20 (by omega)]; rfl
  · exact ⟨⟨Nat.zero_le _, Nat.zero_le _, Nat.zero_le _, fun i hi => absurd hi (Nat.not_lt_zero i), fun i hi => absurd hi (Nat.not_lt_zero i)⟩, Nat.zero_le _, Or.inl rfl, fun z => absurd z (by decide), fun z => absurd z (by decide), fun i hi => absurd hi (Nat.not_lt_zero i)⟩
  · exact ⟨⟨rfl, rfl, rfl⟩, fun i hi => absurd hi (Nat.not_lt_zero i), fun i hi => absurd hi (Nat.not_lt_zero i), fun i hi => absurd hi (Nat.not_lt_zero i)⟩
  · rw [f.2.1 21 (by omega)]; rfl
end HOM
def lay2 (M N : WM) : WM := (fun i k => bif Nat.beq i 2 || (Nat.ble 20 i && Nat.ble i 27) || Nat.beq i 29 || (Nat.beq i 3 && !Nat.beq k 0) then N.1 i k else M.1 i k, M.2)
section SHO
variable {G : GG} {M N : WM}
theorem Ch.eq2 (h : Ch 2 20 M N) : N = lay2 M N := by
  refine Prod.ext ?_ h.2.2
  funext i k
  show N.1 i k = bif Nat.beq i 2 || (Nat.ble 20 i && Nat.ble i 27) || Nat.beq i 29 || (Nat.beq i 3 && !Nat.beq k 0) then N.1 i k else M.1 i k
  cases q : (Nat.beq i 2 || (Nat.ble 20 i && Nat.ble i 27) || Nat.beq i 29 || (Nat.beq i 3 && !Nat.beq k 0)) with
  | true => rfl
  | false =>
    simp only [Bool.or_eq_false_iff, Bool.and_eq_false_iff, Bool.not_eq_false'] at q
    obtain ⟨⟨⟨q1, q2⟩, q3⟩, q4⟩ := q
    have n2 : i ≠ 2 := n_e q1
    have n29 : i ≠ 29 := n_e q3
    have nr : i < 20 ∨ 28 ≤ i := by
      rcases q2 with z | z
      · left
        rcases Nat.lt_or_ge i 20 with w | w
        · exact w
        · rw [Nat.ble_eq_true_of_le w] at z; cases z
      · right
        rcases Nat.lt_or_ge i 28 with w | w
        · rw [Nat.ble_eq_true_of_le (show i ≤ 27 by omega)] at z; cases z
        · exact w
    by_cases h3 : i = 3
    · rcases q4 with z | z
      · exact absurd h3 (n_e z)
      · have k0 : k = 0 := Nat.eq_of_beq_eq_true z
        rw [h3, k0]
        exact h.2.1
    · exact congrFun (h.1 i h3 n29 n2 nr) k
theorem Ch.GoodT2 (h : Ch 2 20 M N) (g : GoodT M) : GoodT N := by
  rw [h.eq2]
  exact g
theorem Good_house {N2 : WM} {h : Hs} (hg : GoodT M) (ho : HsOK h) (hc : EndC M N h) (hm : EndM N N2 h) : GoodT N2 := by
  obtain ⟨o1, o2, o3, o4, o5⟩ := ho
  obtain ⟨⟨⟨q0, q1, q2⟩, qw, qm, qb⟩, c3, c30, ⟨c50, c51⟩, c10, c06, cr, cL⟩ := hc
  obtain ⟨⟨⟨m0, m2, m4⟩, m8, m11, m15⟩, mw, mm, mb, m43, ⟨m460, m461⟩, mr, mL⟩ := hm
  have i0 := isN_of (B := 6) m0 o1 (by omega)
  have i2 := isN_of (B := 5) m2 o2 (by omega)
  have i4 := isN_of (B := 4) m4 o3 (by omega)
  have i8 := isN_of (B := 10) m8 (by omega) (by omega)
  have i11 := isN_of (B := 6) m11 (by omega) (by omega)
  have i15 := isN_of (B := 200) m15 (by omega) (by omega)
  have j0 := isN_of (B := 1) m460 (by omega) (by omega)
  have j1 := isN_of (B := 1) m461 (by omega) (by omega)
  have eW : nW N2 = h.1 := i0.2
  have eM : nMo N2 = h.2.1 := i2.2
  have eB : nB N2 = h.2.2.1 := i4.2
  have eK : nK N2 = 0 := i8.2
  have eH : nH N2 = 0 := i11.2
  have eT : nT N2 = 0 := i15.2
  have cl : ∀ i, i < 39 → ∀ k, wg N2 i k = wg N i k := fun i hi k => by rw [mr i hi]
  have eL : ∀ m, m < h.2.1 → len N2 m = h.2.2.2 3 m := fun m hm => (isN_of (B := 6) (mm m hm).2.1 (o4 m hm).2.2.1 (by omega)).2
  have h43 : ∀ k, k < 11 → ∃ v, v ≤ 9 ∧ wg N2 43 k = nI v ∧ (k < 3 → v = 0) := fun k hk => by
    rw [m43 k hk]
    by_cases q : 3 ≤ k ∧ k < 3 + h.2.2.1
    · rw [if_pos q]; exact ⟨_, o5 (k - 3) (by omega), rfl, fun z => by omega⟩
    · rw [if_neg q]; exact ⟨0, by omega, rfl, fun _ => rfl⟩
  have s43 : ∀ k, k < 11 → isN N2 43 k 9 := fun k hk => by
    obtain ⟨v, a, b, _⟩ := h43 k hk
    exact (isN_of b a (by omega)).1
  have z43 : ∀ k, k < 3 → isN N2 43 k 31 := fun k hk => by
    obtain ⟨v, a, b, _⟩ := h43 k (by omega)
    exact (isN_of b (by omega) (by omega)).1
  refine ⟨⟨⟨⟨i0.1, i2.1, i4.1, i8.1, i11.1, i15.1⟩, fun m hm => ?_, ⟨⟨z43 _ (by omega), z43 _ (by omega), fun b hb => s43 _ (by omega)⟩, fun t ht => ?_, fun i hi => ?_⟩, fun k hk => ?_, fun k hk => ?_⟩, ⟨⟨?_, ?_, ?_⟩, fun w hw => ?_, fun m hm => ?_, fun b hb => ?_, fun k hk => ?_, ⟨?_, ?_, fun t ht => ?_⟩, ⟨?_, fun i hi q => ?_⟩, ⟨?_, fun k hk => ?_⟩, ⟨?_, fun k hk => ?_⟩⟩⟩, ?_⟩
  · rw [eM] at hm
    obtain ⟨a1, a2, a3, a4⟩ := o4 m hm
    obtain ⟨b1, b2, b3⟩ := mm m hm
    rw [eL m hm]
    refine ⟨(isN_of b1 a1 (by omega)).1, (isN_of b2 a3 (by omega)).1, a2, fun k hk => ?_⟩
    have a4k := a4 k hk
    have z := isN_of (B := 5) (b3 k hk) (by omega) (by omega)
    refine ⟨z.1, ?_⟩
    rw [eW]
    show cN N2 41 (8 * m + 2 + k) < h.1
    rw [z.2]; exact a4k
  · rw [eK] at ht; omega
  · rcases (by omega : i = 0 ∨ i = 1) with rfl | rfl
    · exact ⟨j0.1, fun q => by rw [j0.2] at q; omega⟩
    · exact ⟨j1.1, fun q => by rw [j1.2] at q; omega⟩
  · rw [eH] at hk; omega
  · rw [eT] at hk; omega
  · rw [cl 1 (by omega), q0, m0]
  · rw [cl 1 (by omega), q1, m2]
  · rw [cl 1 (by omega), q2, m4]
  · rw [eW] at hw
    rw [cl 12 (by omega), cl 13 (by omega), (mw w hw).1, (mw w hw).2]
    exact qw w hw
  · rw [eM] at hm
    rw [cl 14 (by omega), cl 15 (by omega), (mm m hm).1, (mm m hm).2.1]
    refine ⟨(qm m hm).1, (qm m hm).2.1, fun k hk => ?_⟩
    rw [eL m hm] at hk
    rw [cl 16 (by omega), (mm m hm).2.2 k hk]
    exact (qm m hm).2.2 k hk
  · rw [eB] at hb
    rw [cl 18 (by omega), cl 19 (by omega), (mb b hb).1, (mb b hb).2]
    exact (qb b hb).2
  · rw [cl 30 (by omega), c30 k hk, m43 _ (by omega)]
    by_cases q : k < 4 ∧ k < h.2.2.1
    · rw [if_pos q, if_pos (by omega), show (k + 3) % 11 - 3 = k by omega]
    · rw [if_neg q, if_neg (by omega)]
  · rw [cl 5 (by omega), c50, m8]
  · have p := hg.1.2.2.2.2.2.2.1.2.1
    refine isN_cg (M := M) (i := 5) (k := 1) ?_ p
    rw [cl 5 (by omega), c51]
  · rw [eK] at ht; omega
  · rw [cl 0 (by omega), c06, j0.2, j1.2]
  · rcases (by omega : i = 0 ∨ i = 1) with rfl | rfl
    · rw [j0.2] at q; omega
    · rw [j1.2] at q; omega
  · rw [cl 10 (by omega), c10, m11]
  · rw [eH] at hk; omega
  · rw [cl 3 (by omega), c3, m15]
  · rw [eT] at hk; omega
  · show N2.2 11 = N2.2 39
    rw [mL, cL]
    exact hg.2
theorem s_house (hg : GoodT M) : Same G 86 130 [] M := by
  have hT := hg.1.1.t
  have hL : wg M 3 0 = nI (nT M) := hg.1.2.2.2.2.2.2.2.2.2.1.trans hT.1
  have f := hg.1.1.2.2.2.2
  have hC : TxC M (nT M) (cN M 48) := ⟨hL, hT.2, fun k hk => (hg.1.2.2.2.2.2.2.2.2.2.2 k hk).trans (f k hk).1, fun k hk => (f k hk).2⟩
  have hMm : TxM M (nT M) (cN M 48) := ⟨hT.1, hT.2, fun k hk => (f k hk).1, fun k hk => (f k hk).2⟩
  refine Fr_mono (fun q N hq => ?_) (c_house (G := G) (d := 35) hC)
  rcases hq with ⟨k, hF, hk, rfl, hch⟩ | ⟨hs, hF, ho, rfl, hend⟩
  · have hg1 := hch.GoodT2 hg
    have hM1 : TxM N (nT M) (cN M 48) := by
      refine ⟨?_, hT.2, fun k hk => ?_, fun k hk => (f k hk).2⟩
      · rw [hch.1 39 (by omega) (by omega) (by omega) (by omega)]; exact hT.1
      · rw [hch.1 48 (by omega) (by omega) (by omega) (by omega)]; exact (f k hk).1
    refine ⟨_, rfl, Fr_mono (fun q2 N2 hq2 => ?_) (m_house (G := G) (d := 34) hM1)⟩
    rcases hq2 with ⟨k', _, hF', rfl, hsc⟩ | ⟨hs', hF', _⟩
    · have e : (Sum.inl k' : Nat ⊕ Hs) = .inl k := hF'.symm.trans hF
      cases e
      exact ⟨rfl, hsc.GoodT_ hg1⟩
    · have e : (Sum.inr hs' : Nat ⊕ Hs) = .inl k := hF'.symm.trans hF
      cases e
  · have hM1 : TxM N (nT M) (cN M 48) := by
      refine ⟨?_, hT.2, fun k hk => ?_, fun k hk => (f k hk).2⟩
      · rw [hend.2.2.2.2.2.2.1 39 (by omega)]; exact hT.1
      · rw [hend.2.2.2.2.2.2.1 48 (by omega)]; exact (f k hk).1
    refine ⟨_, rfl, Fr_mono (fun q2 N2 hq2 => ?_) (m_house (G := G) (d := 34) hM1)⟩
    rcases hq2 with ⟨k', _, hF', rfl, hsc⟩ | ⟨hs', hF', ho', rfl, hend'⟩
    · have e : (Sum.inl k' : Nat ⊕ Hs) = .inr hs := hF'.symm.trans hF
      cases e
    · have e : (Sum.inr hs' : Nat ⊕ Hs) = .inr hs := hF'.symm.trans hF
      cases e
      exact ⟨rfl, Good_house hg ho hend hend'⟩
end SHO
