-- house: the reference's takes(), readWord(), readBaby()
def HsT (N : WM) (h : Hs) : Prop := (∀ w, w < h.1 → wg N 49 (2 * w) = nI (h.2.2.2 0 w) ∧ wg N 49 (2 * w + 1) = nI (h.2.2.2 1 w)) ∧
  (∀ m, m < h.2.1 → wg N 50 (8 * m) = nI (h.2.2.2 2 m) ∧ wg N 50 (8 * m + 1) = nI (h.2.2.2 3 m) ∧ ∀ k, k < h.2.2.2 3 m → wg N 50 (8 * m + 2 + k) = nI (h.2.2.2 4 (6 * m + k))) ∧
  (∀ b, b < h.2.2.1 → wg N 52 b = nI (h.2.2.2 5 b) ∧ wg N 51 (2 * b) = nI (h.2.2.2 6 b) ∧ wg N 51 (2 * b + 1) = nI (h.2.2.2 7 b))
def HsM (N : WM) (h : Hs) : Prop := (wg N 39 22 = nI h.1 ∧ wg N 39 24 = nI h.2.1 ∧ wg N 39 26 = nI h.2.2.1) ∧ HsT N h
theorem HsM.fx {u : Nat} {N N2 : WM} {h : Hs} (q : HsM N h) (f : Fx u N N2) (hu : u ≤ 20) : HsM N2 h := by
  obtain ⟨⟨a, b, c⟩, t1, t2, t3⟩ := q
  refine ⟨⟨by rw [f.2.1 22 (by omega)]; exact a, by rw [f.2.1 24 (by omega)]; exact b, by rw [f.2.1 26 (by omega)]; exact c⟩, ?_, ?_, ?_⟩
  · rw [f.1 49 (by omega)]; exact t1
  · rw [f.1 50 (by omega)]; exact t2
  · rw [f.1 51 (by omega), f.1 52 (by omega)]; exact t3
def TkM (L : Nat) (x : Nat → Nat) (N : WM) (s : Nat) (g : Sg) : Option Value → WM → Prop := fun q N2 => Fx 20 N N2 ∧
  ((∃ v s2, v ≤ 99 ∧ may g v ∧ q = some (.int (nI v)) ∧ wg N2 39 20 = nI 0 ∧ Lk L x N2 s2 ∧ s < s2 ∧ RT_ L x s g = RT_ L x s2 (putN g v)) ∨
   (q = some (.int (nI 0)) ∧ wg N2 39 20 = nI 1 ∧ wg N2 39 17 = nI s ∧ RT_ L x s g = .inl s))
theorem tkI_n2 (c : Nat) : ¬ tkI c = nI 2 := by
  unfold tkI
  by_cases h : c = 119 ∨ c = 109 ∨ c = 98
  · rw [if_pos h]; decide
  · rw [if_neg h]
    by_cases h2 : c = 59
    · rw [if_pos h2]; decide
    · rw [if_neg h2]; decide
theorem tkI_3 (c : Nat) : tkI c = nI 3 ↔ c = 59 := by
  unfold tkI
  by_cases h : c = 119 ∨ c = 109 ∨ c = 98
  · rw [if_pos h]; exact ⟨fun q => absurd q (by decide), fun q => by omega⟩
  · rw [if_neg h]
    by_cases h2 : c = 59
    · rw [if_pos h2]; exact ⟨fun _ => h2, fun _ => rfl⟩
    · rw [if_neg h2]; exact ⟨fun q => absurd q (by decide), fun q => absurd q h2⟩
theorem tkI_1 (c : Nat) : tkI c = nI 1 ↔ (c = 119 ∨ c = 109 ∨ c = 98) := by
  unfold tkI
  by_cases h : c = 119 ∨ c = 109 ∨ c = 98
  · rw [if_pos h]; exact ⟨fun _ => h, fun _ => rfl⟩
  · rw [if_neg h]
    by_cases h2 : c = 59
    · rw [if_pos h2]; exact ⟨fun q => absurd q (by decide), fun q => absurd q h⟩
    · rw [if_neg h2]; exact ⟨fun q => absurd q (by decide), fun q => absurd q h⟩
section TAK
variable {G : GG} {d : Nat} {N : WM} {L : Nat} {x : Nat → Nat} {s : Nat} {g g' : Sg}
theorem m_adv (hT : TxM N L x) (hk : Lk L x N s) (hs : s < L) (e : step L x s g = some g') : Fr G (d + 2) 124 [.ref 39] N (fun q N2 => q = none ∧ Fx 19 N N2 ∧ ∃ s2, Lk L x N2 s2 ∧ s < s2 ∧ RT_ L x s g = RT_ L x s2 g') := by
  obtain ⟨h17, hsL, hb, ⟨q, _⟩ | ⟨_, c, h1, h2, h16, hcu, hnb, _⟩⟩ := hk
  · omega
  · refine Fr_mono (fun q N2 z => ?_) (m_next hT h16 h2 (Or.inr hcu))
    obtain ⟨z1, z2, s2, z3, z4, z5⟩ := z
    refine ⟨z1, z2, s2, z3, by omega, ?_⟩
    have hs2 := z3.2.1
    rw [RT_some hs (hb hs) e, RT_skips (s2 - (s + 1)) (s + 1) (by omega) (fun j a b => ?_), show s + 1 + (s2 - (s + 1)) = s2 by omega]
    rcases Nat.lt_or_ge j c with w | w
    · exact hnb j (by omega) w
    · exact z5 j w (by omega)
theorem m_takesW (hw : wg N 39 20 = nI 1) (lo hi : Int32) : Fn G (d + 3) 125 [.ref 39, .int lo, .int hi] N (some (.int (nI 0))) N := by
  refine Fn_of okc_X10_takes [] ?_
  conv => whnf
  rw [hw]
  refine And.intro (fun _ => ?_) (fun h => absurd h n10)
  refine And.intro (fun h => absurd rfl h) (fun _ => ?_)
  refine And.intro isB_1 ?_
  refine And.intro (fun _ => ?_) (fun h => absurd rfl h)
  refine And.intro (fun _ => ?_) (fun h => absurd rfl h)
  refine And.intro rfl ?_
  rw [← hw]
  exact wset_self N 39 20
theorem tk32 {lo hi : Int32} (h17 : wg N 39 17 = nI s) (e : RT_ L x s g = .inl s) : A G (d + 3) 125 32 [some (.ref 39), some (.int lo), some (.int hi), none, none] [.int (nI 0)] N (TkM L x N s g) := by
  refine A_wp okc_X10_takes [] ?_
  refine And.intro (fun h => absurd rfl h) (fun _ => ?_)
  refine And.intro isB_1 ?_
  refine And.intro (fun _ => ?_) (fun h => absurd rfl h)
  refine And.intro (fun _ => ?_) (fun h => absurd rfl h)
  exact ⟨(Fx.rf 20 N).set_ (by omega) (by omega), Or.inr ⟨rfl, rfl, h17, e⟩⟩
set_option maxHeartbeats 400000 in
theorem m_takes (hT : TxM N L x) (hw : wg N 39 20 = nI 0) (hk : Lk L x N s) (hi0 : ¬ g.1 = 0) (hE : stE g = none ∨ ¬ wg N 39 18 = nI 3) {lo hi : Int32} (hmay : ∀ v, v ≤ 99 → (may g v ↔ (¬ nI v < lo ∧ nI v ≤ hi))) : Fr G (d + 3) 125 [.ref 39, .int lo, .int hi] N (TkM L x N s g) := by
  have hk0 := hk
  obtain ⟨h17, hsL, hb, ⟨rfl, h18⟩ | ⟨hs, c, h1, h2, h16, hcu, hnb, ⟨hd, ⟨v, hv, h18, h19⟩ | ⟨hv, h18⟩⟩ | ⟨hd, h19, h18⟩⟩⟩ := hk
  · refine Fr_of okc_X10_takes [32] ?_
    conv => whnf
    rw [hw]
    refine And.intro (fun h => absurd rfl h) (fun _ => ?_)
    conv => whnf
    rw [h18]
    refine And.intro (fun _ => ?_) (fun h => absurd h (by decide))
    exact And.intro trivial (tk32 h17 (RT_end1 hi0))
  · have h99 := nmb_le hd hv
    refine Fr_of okc_X10_takes [32] ?_
    conv => whnf
    rw [hw]
    refine And.intro (fun h => absurd rfl h) (fun _ => ?_)
    conv => whnf
    rw [h18]
    refine And.intro (fun h => absurd rfl h) (fun _ => ?_)
    conv => whnf
    rw [h19]
    refine call_k (c_in _ _ _) ?_
    rw [← bI_iff (hmay v h99)]
    refine And.intro (fun h => ?_) (fun h => ?_)
    · rw [bI_0] at h
      refine And.intro trivial (tk32 h17 (RT_none hs (hb hs) ?_))
      unfold step
      rw [itc_t hd, hv]
      exact itc_f h
    · rw [bI_0, Classical.not_not] at h
      have e : step L x s g = some (putN g v) := by
        unfold step
        rw [itc_t hd, hv]
        exact itc_t h
      refine And.intro trivial ?_
      refine A_wp okc_X10_takes [] ?_
      refine And.intro (fun _ => ?_) (fun h => absurd h n10)
      refine And.intro isB_0 ?_
      have hk2 : Lk L x (wset N 39 20 (nI 0)) s := hk0
      have hT2 : TxM (wset N 39 20 (nI 0)) L x := hT
      conv => whnf
      rw [show wg (wset N 39 20 (nI 0)) 39 19 = nI v from h19]
      refine And.intro (fun h => absurd h n10) (fun _ => ?_)
      refine call_r (m_adv hT2 hk2 hs e) ?_
      rintro r N2 ⟨rfl, f, s2, hk3, hs2, hR⟩
      refine And.intro (fun h => absurd h n10) (fun _ => ?_)
      refine ⟨((Fx.rf 20 N).set_ (by omega) (by omega)).tr (f.up_ (by omega)), Or.inl ⟨v, s2, h99, h, rfl, ?_, hk3, hs2, hR⟩⟩
      rw [f.2.1 20 (by omega)]; rfl
  · refine Fr_of okc_X10_takes [32] ?_
    conv => whnf
    rw [hw]
    refine And.intro (fun h => absurd rfl h) (fun _ => ?_)
    conv => whnf
    rw [h18]
    refine And.intro (fun _ => ?_) (fun h => absurd h (by decide))
    refine And.intro trivial (tk32 h17 (RT_none hs (hb hs) ?_))
    unfold step
    rw [itc_t hd, hv]
    rfl
  · refine Fr_of okc_X10_takes [32] ?_
    conv => whnf
    rw [hw]
    refine And.intro (fun h => absurd rfl h) (fun _ => ?_)
    conv => whnf
    rw [h18]
    refine And.intro (fun _ => ?_) (fun h => absurd h (tkI_n2 _))
    refine And.intro trivial (tk32 h17 (RT_none hs (hb hs) ?_))
    unfold step
    rw [itc_f hd]
    rcases Classical.em (chr L x s = 59) with z | z
    · rw [itc_t z]
      exact hE.elim id (fun q => absurd (h18.trans ((tkI_3 _).mpr z)) q)
    · rw [itc_f z]
      exact itc_f (fun q => hi0 q.1)
end TAK
def csum (N : WM) : Nat := cN N 39 22 + cN N 39 24 + cN N 39 26
theorem HsM.cs {N : WM} {h : Hs} (q : HsM N h) (o : HsOK h) : csum N = h.1 + h.2.1 + h.2.2.1 := by
  obtain ⟨⟨a, b, c⟩, _⟩ := q
  obtain ⟨o1, o2, o3, _⟩ := o
  unfold csum cN
  rw [a, b, c, nI_clamp (by omega), nI_clamp (by omega), nI_clamp (by omega)]
theorem Fx.cs {u : Nat} {N N2 : WM} (f : Fx u N N2) (hu : u ≤ 20) : csum N2 = csum N := by
  unfold csum cN
  rw [f.2.1 22 (by omega), f.2.1 24 (by omega), f.2.1 26 (by omega)]
/-- an item is read to where its ; must stand; or something was wrong -/
def ItP (M N : WM) (L : Nat) (x : Nat → Nat) (F : Nat ⊕ Hs) (s : Nat) : Option Value → WM → Prop := fun q N2 => q = none ∧ Sc M N2 ∧ wg N2 39 21 = wg N 39 21 ∧
  ((∃ s2 g h, wg N2 39 20 = nI 0 ∧ Lk L x N2 s2 ∧ s ≤ s2 ∧ F = RT_ L x s2 g ∧ SgOK g ∧ ¬ g.1 = 0 ∧ stE g = some (0, g.2.1, g.2.2.1, h) ∧ ((∀ v, ¬ may g v) ∨ wg N2 39 18 = nI 3) ∧ HsM N2 h ∧ h.1 + h.2.1 + h.2.2.1 = csum N + 1) ∨
   (wg N2 39 20 = nI 1 ∧ ∃ k, k ≤ L ∧ wg N2 39 17 = nI k ∧ F = .inl k))
section RDW
variable {G : GG} {d : Nat} {M N : WM} {L : Nat} {x : Nat → Nat} {s : Nat} {F : Nat ⊕ Hs} {h : Hs} {nu : Nat → Nat}
theorem may_119 {got v : Nat} {nu : Nat → Nat} {h : Hs} : may (119, got, nu, h) v ↔ (got = 0 ∧ v ≤ 9) ∨ (got = 1 ∧ v ≤ 5) := by
  show ((119 = 119 ∧ ((got = 0 ∧ v ≤ 9) ∨ (got = 1 ∧ v ≤ 5))) ∨ (119 = 109 ∧ (got = 0 ∨ (got ≤ 6 ∧ v < h.1))) ∨ (119 = 98 ∧ ((got = 0 ∧ v ≤ 9) ∨ (got = 1 ∧ v ≤ 3) ∨ (got = 2 ∧ 1 ≤ v)))) ↔ _
  omega
theorem may_109 {got v : Nat} {nu : Nat → Nat} {h : Hs} : may (109, got, nu, h) v ↔ got = 0 ∨ (got ≤ 6 ∧ v < h.1) := by
  show ((109 = 119 ∧ ((got = 0 ∧ v ≤ 9) ∨ (got = 1 ∧ v ≤ 5))) ∨ (109 = 109 ∧ (got = 0 ∨ (got ≤ 6 ∧ v < h.1))) ∨ (109 = 98 ∧ ((got = 0 ∧ v ≤ 9) ∨ (got = 1 ∧ v ≤ 3) ∨ (got = 2 ∧ 1 ≤ v)))) ↔ _
  omega
theorem may_98 {got v : Nat} {nu : Nat → Nat} {h : Hs} : may (98, got, nu, h) v ↔ (got = 0 ∧ v ≤ 9) ∨ (got = 1 ∧ v ≤ 3) ∨ (got = 2 ∧ 1 ≤ v) := by
  show ((98 = 119 ∧ ((got = 0 ∧ v ≤ 9) ∨ (got = 1 ∧ v ≤ 5))) ∨ (98 = 109 ∧ (got = 0 ∨ (got ≤ 6 ∧ v < h.1))) ∨ (98 = 98 ∧ ((got = 0 ∧ v ≤ 9) ∨ (got = 1 ∧ v ≤ 3) ∨ (got = 2 ∧ 1 ≤ v)))) ↔ _
  omega
theorem n_e {a b : Nat} (h : Nat.beq a b = false) : ¬ a = b := fun q => by subst q; rw [Nat.beq_refl] at h; cases h
theorem stE_119 {got : Nat} (hg : ¬ got = 2) : stE (119, got, nu, h) = none := (itc_f (fun q => hg q.2)).trans ((itc_f (fun q => n_e (a := 119) (b := 109) rfl q.1)).trans (itc_f (fun q => n_e (a := 119) (b := 98) rfl q.1)))
theorem stE_109 {got : Nat} (hg : ¬ 2 ≤ got) : stE (109, got, nu, h) = none := (itc_f (fun q => n_e (a := 109) (b := 119) rfl q.1)).trans ((itc_f (fun q => hg q.2)).trans (itc_f (fun q => n_e (a := 109) (b := 98) rfl q.1)))
theorem stE_98 {got : Nat} (hg : ¬ got = 3) : stE (98, got, nu, h) = none := (itc_f (fun q => n_e (a := 98) (b := 119) rfl q.1)).trans ((itc_f (fun q => n_e (a := 98) (b := 109) rfl q.1)).trans (itc_f (fun q => hg q.2)))
theorem put_ok {g : Sg} {v : Nat} (hv : v ≤ 99) (ho : SgOK g) (hm : may g v) : SgOK (putN g v) := (stN_ok hv ho (itc_t hm)).1
theorem le_ix {v n : Nat} (hv : v ≤ 99) (hn : n ≤ 99) : v ≤ n ↔ (¬ nI v < nI 0 ∧ nI v ≤ nI n) := by
  rw [nI_leI (by omega) (by omega)]
  exact ⟨fun q => ⟨nI_nlt (Nat.zero_le _) (by omega), q⟩, fun q => q.2⟩
set_option maxHeartbeats 400000 in
theorem m_readWord (hT : TxM M L x) (hs : Sc M N) (hw : wg N 39 20 = nI 0) (hk : Lk L x N s) (hF : F = RT_ L x s (119, 0, nu, h)) (ho : SgOK (119, 0, nu, h)) (hh : HsM N h) : Fr G (d + 4) 126 [.ref 39] N (ItP M N L x F s) := by
  have hTs : ∀ K, Sc M K → TxM K L x := fun K q => ⟨q.2.1.2.2.2.2.2.trans hT.1, hT.2.1, fun k hk => by rw [q.c (by omega)]; exact hT.2.2.1 k hk, hT.2.2.2⟩
  have h6 : h.1 < 6 := room_w ho.2.2.1
  have e22 : wg N 39 22 = nI h.1 := hh.1.1
  refine Fr_of okc_X10_readWord [] ?_
  conv => whnf
  rw [e22, pk_mul]
  refine call_r (m_takes (g := (119, 0, nu, h)) (hTs N hs) hw hk (by show ¬ 119 = 0; omega) (Or.inl (stE_119 (by omega))) (lo := nI 0) (hi := nI 9) (fun v hv => may_119.trans (by rw [← le_ix hv (by omega)]; omega))) ?_
  rintro r N1 ⟨f1, ⟨v1, s1, b1, m1, rfl, w1, k1, l1, R1⟩ | ⟨rfl, w1, z1, R1⟩⟩
  · have o1 := put_ok b1 ho m1
    refine And.intro (vp_in_nI (by omega) (by decide)) ?_
    rw [nI_clamp (n := 2 * h.1) (by omega)]
    have hs1 : Sc M (wset N1 49 (2 * h.1) (nI v1)) := (hs.tr f1.sc).tr (Sc.set (Or.inl (by omega)))
    conv => whnf
    rw [show wg (wset N1 49 (2 * h.1) (nI v1)) 39 22 = nI h.1 from (f1.2.1 22 (by omega)).trans e22, pk_mul, nI_add]
    refine call_r (m_takes (g := (119, 1, up nu 0 v1, h)) (hTs _ hs1) w1 k1 (by show ¬ 119 = 0; omega) (Or.inl (stE_119 (by omega))) (lo := nI 0) (hi := nI 5) (fun v hv => may_119.trans (by rw [← le_ix hv (by omega)]; omega))) ?_
    rintro r N2 ⟨f2, ⟨v2, s2, b2, m2, rfl, w2, k2, l2, R2⟩ | ⟨rfl, w2, z2, R2⟩⟩
    · have o2 := put_ok b2 o1 m2
      refine And.intro (vp_in_nI (by omega) (by decide)) ?_
      rw [nI_clamp (n := 2 * h.1 + 1) (by omega)]
      have e : wg (wset N2 49 (2 * h.1 + 1) (nI v2)) 39 22 = nI h.1 := (f2.2.1 22 (by omega)).trans ((f1.2.1 22 (by omega)).trans e22)
      conv => whnf
      rw [e, nI_add]
      have hh2 : HsM (wset N1 49 (2 * h.1) (nI v1)) h := by
        obtain ⟨c, t1, t2, t3⟩ := hh.fx f1 (by omega)
        exact ⟨c, fun w hw => by rw [wg_ne2 (by omega), wg_ne2 (by omega)]; exact t1 w hw, t2, t3⟩
      obtain ⟨⟨c1, c2, c3⟩, t1, t2, t3⟩ := hh2.fx f2 (by omega)
      refine ⟨rfl, ((hs1.tr f2.sc).tr (Sc.set (Or.inl (by omega)))).tr (Sc.set (Or.inr ⟨rfl, by omega⟩)), ?_, Or.inl ⟨s2, putN (putN (119, 0, nu, h) v1) v2, addW h v1 v2, w2, k2, by omega, hF.trans (R1.trans R2), o2, by show ¬ 119 = 0; omega, itc_t ⟨rfl, rfl⟩, Or.inl (fun v q => ?_), ⟨⟨rfl, c2, c3⟩, fun w hw => ?_, fun m hm => ?_, fun b hb => ?_⟩, ?_⟩⟩
      · rw [wg_ne2 (by omega), wg_ne1 (by omega), f2.2.1 21 (by omega)]
        show wg N1 39 21 = _
        rw [f1.2.1 21 (by omega)]
      · have q := (may_119 (got := 2) (nu := up (up nu 0 v1) 1 v2) (h := h)).mp q
        omega
      · have hw : w < h.1 + 1 := hw
        rw [wg_ne1 (show 49 ≠ 39 by omega), wg_ne1 (show 49 ≠ 39 by omega)]
        show _ = nI (if 0 = 0 ∧ w = h.1 then v1 else if 0 = 1 ∧ w = h.1 then v2 else h.2.2.2 0 w) ∧ _ = nI (if 1 = 0 ∧ w = h.1 then v1 else if 1 = 1 ∧ w = h.1 then v2 else h.2.2.2 1 w)
        by_cases q : w = h.1
        · rw [q, if_pos ⟨rfl, rfl⟩, if_neg (by omega), if_pos ⟨rfl, rfl⟩, wg_same, wg_ne2 (show 2 * h.1 ≠ 2 * h.1 + 1 by omega), f2.1 49 (by omega), wg_same]
          exact ⟨rfl, rfl⟩
        · rw [if_neg (by omega), if_neg (by omega), if_neg (by omega), if_neg (by omega), wg_ne2 (by omega), wg_ne2 (by omega)]
          exact t1 w (by omega)
      · exact t2 m hm
      · exact t3 b hb
      · rw [hh.cs ho.1]
        show h.1 + 1 + h.2.1 + h.2.2.1 = h.1 + h.2.1 + h.2.2.1 + 1
        omega
    · refine And.intro (vp_in_nI (by omega) (by decide)) ?_
      rw [nI_clamp (n := 2 * h.1 + 1) (by omega)]
      conv => whnf
      refine ⟨rfl, ((hs1.tr f2.sc).tr (Sc.set (Or.inl (by omega)))).tr (Sc.set (Or.inr ⟨rfl, by omega⟩)), ?_, Or.inr ⟨w2, s1, k1.2.1, z2, hF.trans (R1.trans R2)⟩⟩
      rw [wg_ne2 (by omega), wg_ne1 (by omega), f2.2.1 21 (by omega)]
      show wg N1 39 21 = _
      rw [f1.2.1 21 (by omega)]
  · refine And.intro (vp_in_nI (by omega) (by decide)) ?_
    rw [nI_clamp (n := 2 * h.1) (by omega)]
    conv => whnf
    rw [show wg (wset N1 49 (2 * h.1) (nI 0)) 39 22 = nI h.1 from (f1.2.1 22 (by omega)).trans e22, pk_mul, nI_add]
    refine call_k (m_takesW (show wg (wset N1 49 (2 * h.1) (nI 0)) 39 20 = nI 1 from w1) _ _) ?_
    refine And.intro (vp_in_nI (by omega) (by decide)) ?_
    rw [nI_clamp (n := 2 * h.1 + 1) (by omega)]
    conv => whnf
    refine ⟨rfl, (((hs.tr f1.sc).tr (Sc.set (Or.inl (by omega)))).tr (Sc.set (Or.inl (by omega)))).tr (Sc.set (Or.inr ⟨rfl, by omega⟩)), ?_, Or.inr ⟨w1, s, hk.2.1, z1, hF.trans R1⟩⟩
    rw [wg_ne2 (by omega), wg_ne1 (by omega), wg_ne1 (by omega), f1.2.1 21 (by omega)]
end RDW
