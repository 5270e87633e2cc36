-- house: the reference's readItem(), and its loop
/-- an item is read whole, or something was wrong -/
def RiP (M N : WM) (L : Nat) (x : Nat → Nat) (F : Nat ⊕ Hs) (s : Nat) : Option Value → WM → Prop := fun q N2 => q = none ∧ Sc M N2 ∧ wg N2 39 21 = wg N 39 21 ∧
  ((∃ s2 g, wg N2 39 20 = nI 0 ∧ Lk L x N2 s2 ∧ s < s2 ∧ F = RT_ L x s2 g ∧ SgOK g ∧ g.1 = 0 ∧ HsM N2 g.2.2.2 ∧ g.2.2.2.1 + g.2.2.2.2.1 + g.2.2.2.2.2.1 = csum N + 1) ∨
   (wg N2 39 20 = nI 1 ∧ ∃ k, k ≤ L ∧ wg N2 39 17 = nI k ∧ F = .inl k))
section RDI
variable {G : GG} {d : Nat} {M N : WM} {L : Nat} {x : Nat → Nat} {s : Nat} {F : Nat ⊕ Hs}
/-- a token that can't end the item -/
theorem no_end {K : WM} {g : Sg} (hk : Lk L x K s) (hi : ¬ g.1 = 0) (hm : (∀ v, ¬ may g v) ∨ wg K 39 18 = nI 3) (h3 : ¬ wg K 39 18 = nI 3) : RT_ L x s g = .inl s := by
  have hm := hm.resolve_right h3
  obtain ⟨h17, hsL, hb, ⟨rfl, h18⟩ | ⟨hs, c, h1, h2, h16, hcu, hnb, ⟨hd, ⟨v, hv, h18, h19⟩ | ⟨hv, h18⟩⟩ | ⟨hd, h19, h18⟩⟩⟩ := hk
  · exact RT_end1 hi
  · refine RT_none hs (hb hs) ?_
    unfold step
    rw [itc_t hd, hv]
    exact itc_f (hm v)
  · refine RT_none hs (hb hs) ?_
    unfold step
    rw [itc_t hd, hv]
    rfl
  · refine RT_none hs (hb hs) ?_
    unfold step
    rw [itc_f hd]
    rcases Classical.em (chr L x s = 59) with z | z
    · exact absurd (h18.trans ((tkI_3 _).mpr z)) h3
    · rw [itc_f z]
      exact itc_f (fun q => hi q.1)
theorem is_end {K : WM} {g g' : Sg} (hk : Lk L x K s) (e : stE g = some g') (h3 : wg K 39 18 = nI 3) : s < L ∧ step L x s g = some g' := by
  obtain ⟨h17, hsL, hb, ⟨rfl, h18⟩ | ⟨hs, c, h1, h2, h16, hcu, hnb, ⟨hd, ⟨v, hv, h18, h19⟩ | ⟨hv, h18⟩⟩ | ⟨hd, h19, h18⟩⟩⟩ := hk
  · rw [h18] at h3; exact absurd h3 (by decide)
  · rw [h18] at h3; exact absurd h3 (by decide)
  · rw [h18] at h3; exact absurd h3 (by decide)
  · rw [h18, tkI_3] at h3
    refine ⟨hs, ?_⟩
    unfold step
    rw [itc_f hd, itc_t h3]
    exact e
set_option maxHeartbeats 400000 in
theorem ri122 (hT : TxM M L x) {s0 : Nat} {N2 : WM} {z1 z2 : Option Value} (hs0 : s0 < s) (h : ItP M N L x F s none N2) : A G (d + 5) 129 122 [some (.ref 39), z1, z2] [] N2 (RiP M N L x F s0) := by
  obtain ⟨_, hs, h21, ⟨s2, g, hh, w, k, l, hF, ho, hi, e, hm, hM, hsum⟩ | ⟨w, k, l, h17, hF⟩⟩ := h
  · rcases Classical.em (wg N2 39 18 = nI 3) with h3 | h3
    · obtain ⟨hsL, est⟩ := is_end k e h3
      refine A_wp okc_X10_readItem [] ?_
      conv => whnf
      rw [w]
      refine And.intro (fun q => absurd rfl q) (fun _ => ?_)
      conv => whnf
      rw [h3]
      refine And.intro (fun _ => ?_) (fun q => absurd rfl q)
      refine And.intro isB_0 ?_
      conv => whnf
      rw [wg_same]
      refine And.intro (fun q => absurd rfl q) (fun _ => ?_)
      have f0 : Fx 20 N2 (wset N2 39 20 (nI 0)) := (Fx.rf 20 N2).set_ (by omega) (by omega)
      have k2 : Lk L x (wset N2 39 20 (nI 0)) s2 := k
      refine call_r (m_adv (hT.sc (hs.tr f0.sc)) k2 hsL est) ?_
      rintro r N3 ⟨rfl, f, s3, k3, l3, R3⟩
      refine ⟨rfl, (hs.tr f0.sc).tr f.sc, ?_, Or.inl ⟨s3, _, ?_, k3, by omega, hF.trans R3, (stE_ok ho e).1, rfl, (hM.fx f0 (by omega)).fx f (by omega), hsum⟩⟩
      · rw [f.2.1 21 (by omega), f0.2.1 21 (by omega)]; exact h21
      · rw [f.2.1 20 (by omega)]; rfl
    · have hR := no_end k hi hm h3
      refine A_wp okc_X10_readItem [] ?_
      conv => whnf
      rw [w]
      refine And.intro (fun q => absurd rfl q) (fun _ => ?_)
      refine And.intro (fun q => absurd q h3) (fun _ => ?_)
      refine And.intro isB_1 ?_
      conv => whnf
      rw [wg_same]
      refine And.intro (fun _ => ?_) (fun q => absurd q n10)
      refine ⟨rfl, hs.tr (Sc.set (Or.inr ⟨rfl, by omega⟩)), ?_, Or.inr ⟨rfl, s2, k.2.1, k.1, hF.trans hR⟩⟩
      rw [wg_ne2 (by omega)]; exact h21
  · refine A_wp okc_X10_readItem [] ?_
    conv => whnf
    rw [w]
    refine And.intro (fun _ => ?_) (fun q => absurd q n10)
    refine And.intro isB_1 ?_
    conv => whnf
    rw [wg_same]
    refine And.intro (fun _ => ?_) (fun q => absurd q n10)
    refine ⟨rfl, hs.tr (Sc.set (Or.inr ⟨rfl, by omega⟩)), ?_, Or.inr ⟨rfl, k, l, h17, hF⟩⟩
    rw [wg_ne2 (by omega)]; exact h21
theorem ri_bad {y : Int32} {o : Int32} (hs : Sc M N) (hk : Lk L x N s) (hF : F = .inl s) (hbad : ¬ wg N 39 18 = nI 1 ∨ ¬ o = nI 0) : A G (d + 5) 129 69 [some (.ref 39), some (.int y), none] [.int o] N (RiP M N L x F s) := by
  have fin : RiP M N L x F s none (wset N 39 20 (nI 1)) := ⟨rfl, hs.tr (Sc.set (Or.inr ⟨rfl, by omega⟩)), wg_ne2 (by omega), Or.inr ⟨rfl, s, hk.2.1, hk.1, hF⟩⟩
  refine A_wp okc_X10_readItem [] ?_
  refine And.intro (fun _ => ?_) (fun q => ?_)
  · exact And.intro isB_1 fin
  · refine And.intro (fun z => ?_) (fun _ => ?_)
    · exact absurd z (hbad.resolve_left (fun w => w q))
    · exact And.intro isB_1 fin
set_option maxHeartbeats 400000 in
theorem ri_all (hs : Sc M N) (hk : Lk L x N s) (hF : F = .inl s) (h1 : ¬ wg N 39 18 = nI 1) : Fr G (d + 5) 129 [.ref 39] N (RiP M N L x F s) := by
  have bad : ∀ y o, A G (d + 5) 129 69 [some (.ref 39), some (.int y), none] [.int o] N (RiP M N L x F s) := fun y o => ri_bad hs hk hF (Or.inl h1)
  refine Fr_of okc_X10_readItem [69] ?_
  refine And.intro (fun _ => ?_) (fun _ => ?_)
  · refine And.intro (fun _ => ?_) (fun _ => ?_)
    · refine And.intro (fun _ => ?_) (fun _ => ?_)
      · exact And.intro trivial (bad _ _)
      · refine And.intro (fun _ => ?_) (fun _ => ?_)
        · exact And.intro trivial (bad _ _)
        · exact And.intro trivial (bad _ _)
    · refine And.intro (fun _ => ?_) (fun _ => ?_)
      · exact And.intro trivial (bad _ _)
      · exact And.intro trivial (bad _ _)
  · refine And.intro (fun _ => ?_) (fun _ => ?_)
    · exact And.intro trivial (bad _ _)
    · exact And.intro trivial (bad _ _)
set_option maxHeartbeats 800000 in
theorem m_readItem (hT : TxM M L x) (hs : Sc M N) (hw : wg N 39 20 = nI 0) (hk : Lk L x N s) (hsL : s < L) {g : Sg} (hF : F = RT_ L x s g) (ho : SgOK g) (hg : g.1 = 0) (hh : HsM N g.2.2.2) : Fr G (d + 5) 129 [.ref 39] N (RiP M N L x F s) := by
  obtain ⟨it, got, nu, h⟩ := g
  have hg : it = 0 := hg
  subst hg
  have h6 : h.1 ≤ 6 := ho.1.1
  have h5 : h.2.1 ≤ 5 := ho.1.2.1
  have h4 : h.2.2.1 ≤ 4 := ho.1.2.2.1
  have nomay : ∀ v, ¬ may (0, got, nu, h) v := fun v q => by
    rcases q with ⟨q, _⟩ | ⟨q, _⟩ | ⟨q, _⟩
    · exact n_e (a := 0) (b := 119) rfl q
    · exact n_e (a := 0) (b := 109) rfl q
    · exact n_e (a := 0) (b := 98) rfl q
  have noE : stE (0, got, nu, h) = none := (itc_f (fun q => n_e (a := 0) (b := 119) rfl q.1)).trans ((itc_f (fun q => n_e (a := 0) (b := 109) rfl q.1)).trans (itc_f (fun q => n_e (a := 0) (b := 98) rfl q.1)))
  have hk0 := hk
  obtain ⟨h17, _, hb, ⟨rfl, h18⟩ | ⟨_, c, h1, h2, h16, hcu, hnb, ⟨hd, hd2⟩ | ⟨hd, h19, h18⟩⟩⟩ := hk
  · omega
  · have e : step L x s (0, got, nu, h) = none := by
      unfold step
      rw [itc_t hd]
      rcases hd2 with ⟨v, hv, _⟩ | ⟨hv, _⟩
      · rw [hv]; exact itc_f (nomay v)
      · rw [hv]; rfl
    refine ri_all hs hk0 (hF.trans (RT_none hsL (hb hsL) e)) (fun q => ?_)
    rcases hd2 with ⟨v, hv, z, _⟩ | ⟨hv, z⟩
    · rw [z] at q; exact absurd q (by decide)
    · rw [z] at q; exact absurd q (by decide)
  · have h255 : chr L x s ≤ 255 := chr_le hT.2.2.2 s
    have stp0 : step L x s (0, got, nu, h) = itc (chr L x s = 59) none (stB (chr L x s) (0, got, nu, h)) := by
      unfold step
      rw [itc_f hd, noE]
    have bad : ¬ roomC h (chr L x s) → F = .inl s := fun q => hF.trans (RT_none hsL (hb hsL) (by
      rw [stp0]
      rcases Classical.em (chr L x s = 59) with z | z
      · rw [itc_t z]
      · rw [itc_f z]; exact itc_f (fun w => q w.2)))
    have good : roomC h (chr L x s) → step L x s (0, got, nu, h) = some (chr L x s, 0, nu, h) := fun q => by
      rw [stp0, itc_f (by unfold roomC at q; omega)]
      exact itc_t ⟨rfl, q⟩
    have okN : roomC h (chr L x s) → SgOK (chr L x s, 0, nu, h) := fun q => (stB_ok ho (itc_t ⟨rfl, q⟩)).1
    have e22 : wg N 39 22 = nI h.1 := hh.1.1
    have e24 : wg N 39 24 = nI h.2.1 := hh.1.2.1
    have e26 : wg N 39 26 = nI h.2.2.1 := hh.1.2.2
    rcases Classical.em (chr L x s = 119 ∨ chr L x s = 109 ∨ chr L x s = 98) with hc | hc
    · have h18 : wg N 39 18 = nI 1 := h18.trans ((tkI_1 _).mpr hc)
      have go : ∀ y, y = nI (chr L x s) → roomC h (chr L x s) → A G (d + 5) 129 69 [some (.ref 39), some (.int y), none] [.int (nI 0)] N (RiP M N L x F s) := by
        intro y hy hr
        subst hy
        refine A_wp okc_X10_readItem [122] ?_
        conv => whnf
        rw [h18]
        refine And.intro (fun q => absurd rfl q) (fun _ => ?_)
        refine And.intro (fun _ => ?_) (fun q => absurd rfl q)
        refine call_r (m_adv (hT.sc hs) hk0 hsL (good hr)) ?_
        rintro r N1 ⟨rfl, f, s1, k1, l1, R1⟩
        have hs1 := hs.tr f.sc
        have w1 : wg N1 39 20 = nI 0 := (f.2.1 20 (by omega)).trans hw
        have e21 : wg N1 39 21 = wg N 39 21 := f.2.1 21 (by omega)
        have hh1 := hh.fx f (by omega)
        have oo := okN hr
        have hF1 := hF.trans R1
        have cont : ∀ N2, ItP M N1 L x F s1 none N2 → ItP M N L x F s1 none N2 := fun N2 q => ⟨q.1, q.2.1, q.2.2.1.trans e21, by rw [← f.cs (by omega)]; exact q.2.2.2⟩
        rcases hc with hc | hc | hc
        · rw [hc] at oo hF1 ⊢
          refine And.intro (fun q => absurd rfl q) (fun _ => ?_)
          refine call_r (m_readWord (d := d) hT hs1 w1 k1 hF1 oo hh1) ?_
          rintro r N2 q
          obtain ⟨rfl, _⟩ := id q
          exact And.intro trivial (ri122 hT l1 (cont N2 q))
        · rw [hc] at oo hF1 ⊢
          refine And.intro (fun _ => ?_) (fun q => absurd q (by decide))
          refine And.intro (fun q => absurd rfl q) (fun _ => ?_)
          refine call_r (m_readMotion (d := d) hT hs1 w1 k1 hF1 oo hh1) ?_
          rintro r N2 q
          obtain ⟨rfl, _⟩ := id q
          exact And.intro trivial (ri122 hT l1 (cont N2 q))
        · rw [hc] at oo hF1 ⊢
          refine And.intro (fun _ => ?_) (fun q => absurd q (by decide))
          refine And.intro (fun _ => ?_) (fun q => absurd q (by decide))
          refine call_r (m_readBaby (d := d) hT hs1 w1 k1 hF1 oo hh1) ?_
          rintro r N2 q
          obtain ⟨rfl, _⟩ := id q
          exact And.intro trivial (ri122 hT l1 (cont N2 q))
      refine Fr_of okc_X10_readItem [69] ?_
      conv => whnf
      rw [h19]
      unfold roomC at bad good okN go
      refine And.intro (fun q => ?_) (fun q => ?_)
      · rw [nI_eq (by omega) (by omega)] at q
        refine And.intro (fun q2 => ?_) (fun q2 => ?_)
        · rw [nI_eq (by omega) (by omega)] at q2
          refine And.intro (fun q3 => ?_) (fun q3 => ?_)
          · rw [nI_eq (by omega) (by omega)] at q3
            omega
          · rw [nI_eq (by omega) (by omega)] at q3
            conv => whnf
            rw [e26]
            refine And.intro (fun q4 => ?_) (fun q4 => ?_)
            · rw [nI_eq (by omega) (by omega)] at q4
              exact And.intro trivial (go _ rfl (by omega))
            · rw [nI_eq (by omega) (by omega)] at q4
              exact And.intro trivial (ri_bad hs hk0 (bad (by omega)) (Or.inr n10))
        · rw [nI_eq (by omega) (by omega)] at q2
          conv => whnf
          rw [e24]
          refine And.intro (fun q4 => ?_) (fun q4 => ?_)
          · rw [nI_eq (by omega) (by omega)] at q4
            exact And.intro trivial (go _ rfl (by omega))
          · rw [nI_eq (by omega) (by omega)] at q4
            exact And.intro trivial (ri_bad hs hk0 (bad (by omega)) (Or.inr n10))
      · rw [nI_eq (by omega) (by omega)] at q
        conv => whnf
        rw [e22]
        refine And.intro (fun q4 => ?_) (fun q4 => ?_)
        · rw [nI_eq (by omega) (by omega)] at q4
          exact And.intro trivial (go _ rfl (by omega))
        · rw [nI_eq (by omega) (by omega)] at q4
          exact And.intro trivial (ri_bad hs hk0 (bad (by omega)) (Or.inr n10))
    · exact ri_all hs hk0 (bad (by unfold roomC; omega)) (fun q => hc ((tkI_1 _).mp (h18.symm.trans q)))
end RDI
