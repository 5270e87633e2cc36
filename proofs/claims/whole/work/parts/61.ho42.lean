-- house: the class's Teller over the house of cell 2 (its tokens)
section TELL
variable {G : GG} {d : Nat} {N : WM} {L : Nat} {x : Nat → Nat} {s : Sg}
def TkP2 (N : WM) (o : Option Sg) : Option Value → WM → Prop := fun q N2 => Ch 2 20 N N2 ∧ ((q = some (.int (nI 1)) ∧ ∃ s', o = some s' ∧ TcS N2 2 20 s') ∨ (q = some (.int (nI 0)) ∧ o = none))
theorem it_le2 (ho : SgOK s) : s.1 ≤ 119 := by
  have h := ho.2.2.1
  unfold roomC at h
  omega
theorem t_num2 (ht : TcS N 2 20 s) (ho : SgOK s) {o : Option Nat} (hv : ∀ v, o = some v → v ≤ 99) : Fr G (d + 2) 81 [.ref 3, .ref 2, .int (nbI o)] N (TkP2 N (stN o s)) := by
  have hg := ho.2.1
  cases o with
  | none =>
    refine Fr_of okc_X8_takesNumber [] ?_
    refine And.intro (fun _ => ?_) (fun h => absurd rfl h)
    exact And.intro isB_0 ⟨Ch.rf _ _ _, Or.inr ⟨rfl, rfl⟩⟩
  | some v =>
    have hv := hv v rfl
    show Fr G (d + 2) 81 [.ref 3, .ref 2, .int (nI v)] N (TkP2 N (stN (some v) s))
    refine Fr_of okc_X8_takesNumber [] ?_
    refine And.intro (fun h => absurd h (mI1_ne v (by omega))) (fun _ => ?_)
    refine call_k (t_may2 (v := v) ht ho (it_le2 ho) hv) ?_
    refine And.intro (fun h => ?_) (fun h => ?_)
    · rw [bI_0] at h
      exact And.intro isB_0 ⟨Ch.rf _ _ _, Or.inr ⟨rfl, itc_f h⟩⟩
    · rw [bI_0, Classical.not_not] at h
      have e : stN (some v) s = some (putN s v) := itc_t h
      have g6 : s.2.1 ≤ 6 := (stN_ok hv ho e).1.2.1 |> fun q => by have q : s.2.1 + 1 ≤ 7 := q; omega
      conv => whnf
      rw [ht.2.1]
      refine And.intro (fun _ => ?_) (fun z => absurd (nI_lt (by omega) (by omega)) z)
      refine And.intro (by rw [ht.2.1]; exact vp_in_nI (by omega) (by decide)) ?_
      rw [ht.2.1, nI_clamp (n := s.2.1) (by omega)]
      conv => whnf
      rw [show wg (wset N 29 s.2.1 (nI v)) 3 4 = nI s.2.1 from ht.2.1, nI_add]
      refine And.intro isB_1 ⟨((Ch.rf _ _ _).set_ (by omega) (Or.inl rfl)).set3 (by omega), Or.inl ⟨rfl, _, e, ?_⟩⟩
      obtain ⟨t3, t4, tn, th⟩ := ht
      refine ⟨t3, rfl, fun i hi => ?_, th⟩
      have hi : i < s.2.1 + 1 := hi
      show wg (wset N 29 s.2.1 (nI v)) 29 i = nI (up s.2.2.1 s.2.1 v i)
      by_cases z : i = s.2.1
      · rw [z, wg_same, up_t]
      · rw [wg_ne2 z, up_f _ _ z]; exact tn i (by omega)
theorem t_beg2 (ht : TcS N 2 20 s) (ho : SgOK s) {c : Nat} (hc : c ≤ 255) : Fr G (d + 1) 79 [.ref 3, .ref 2, .int (nI c)] N (TkP2 N (stB c s)) := by
  have hi := it_le2 ho
  refine Fr_of okc_X8_takesBeginning [] ?_
  conv => whnf
  rw [ht.1]
  refine And.intro (fun h => ?_) (fun h => ?_)
  · rw [nI_eq (by omega) (by omega)] at h
    exact And.intro isB_0 ⟨Ch.rf _ _ _, Or.inr ⟨rfl, itc_f (fun q => h q.1)⟩⟩
  · rw [nI_eq (by omega) (by omega)] at h
    refine call_k (t_hasRoom2 ht.2.2.2 ho.1 hc) ?_
    refine And.intro (fun h1 => ?_) (fun h1 => ?_)
    · rw [bI_0, Classical.not_not] at h1
      refine And.intro isB_1 ⟨((Ch.rf _ _ _).set3 (by omega)).set3 (by omega), Or.inl ⟨rfl, _, itc_t ⟨h, h1⟩, ?_⟩⟩
      obtain ⟨t3, t4, tn, th⟩ := ht
      refine ⟨rfl, rfl, fun i hi => absurd hi (Nat.not_lt_zero i), th⟩
    · rw [bI_0] at h1
      exact And.intro isB_0 ⟨Ch.rf _ _ _, Or.inr ⟨rfl, itc_f (fun q => h1 q.2)⟩⟩
theorem te702 (ht : TcS N 2 20 s) (ho : SgOK s) (hb : ¬ (s.1 = 98 ∧ s.2.1 = 3)) : A G (d + 1) 83 70 [some (.ref 3), some (.ref 2)] [] N (fun r M2 => r = some (.int (nI 0)) ∧ M2 = N) := by
  have hi := it_le2 ho
  have hg := ho.2.1
  refine A_wp okc_X8_takesEnd [] ?_
  conv => whnf
  rw [ht.1]
  refine And.intro (fun h => And.intro isB_0 (And.intro rfl rfl)) (fun h => ?_)
  rw [nI_eq (by omega) (by omega)] at h
  conv => whnf
  rw [ht.2.1]
  refine And.intro (fun h1 => And.intro isB_0 (And.intro rfl rfl)) (fun h1 => ?_)
  rw [nI_eq (by omega) (by omega)] at h1
  exact absurd ⟨h, h1⟩ hb
theorem te362 (ht : TcS N 2 20 s) (ho : SgOK s) (hm : ¬ (s.1 = 109 ∧ 2 ≤ s.2.1)) (P : Option Value → WM → Prop) (K : A G (d + 1) 83 70 [some (.ref 3), some (.ref 2)] [] N P) : A G (d + 1) 83 36 [some (.ref 3), some (.ref 2)] [] N P := by
  have hi := it_le2 ho
  have hg := ho.2.1
  refine A_wp okc_X8_takesEnd [70] ?_
  conv => whnf
  rw [ht.1]
  refine And.intro (fun h => And.intro trivial K) (fun h => ?_)
  rw [nI_eq (by omega) (by omega)] at h
  conv => whnf
  rw [ht.2.1]
  refine And.intro (fun h1 => And.intro trivial K) (fun h1 => ?_)
  rw [nI_ltI (by omega) (by omega)] at h1
  exact absurd ⟨h, by omega⟩ hm
theorem te02 (ht : TcS N 2 20 s) (ho : SgOK s) (hw : ¬ (s.1 = 119 ∧ s.2.1 = 2)) (P : Option Value → WM → Prop) (K : A G (d + 1) 83 36 [some (.ref 3), some (.ref 2)] [] N P) : Fr G (d + 1) 83 [.ref 3, .ref 2] N P := by
  have hi := it_le2 ho
  have hg := ho.2.1
  refine Fr_of okc_X8_takesEnd [36] ?_
  conv => whnf
  rw [ht.1]
  refine And.intro (fun h => And.intro trivial K) (fun h => ?_)
  rw [nI_eq (by omega) (by omega)] at h
  conv => whnf
  rw [ht.2.1]
  refine And.intro (fun h1 => And.intro trivial K) (fun h1 => ?_)
  rw [nI_eq (by omega) (by omega)] at h1
  exact absurd ⟨h, h1⟩ hw
theorem te_fin2 {N2 : WM} {h' : Hs} (ht : TcS N 2 20 s) (hc : Ch 2 20 N N2) (h4 : wg N2 3 4 = wg N 3 4) (h29 : wg N2 29 = wg N 29) (hh : HsC N2 2 20 h') (e : stE s = some (0, s.2.1, s.2.2.1, h')) : TkP2 N (stE s) (some (.int (nI 1))) (wset N2 3 3 (nI 0)) := by
  refine ⟨hc.set3 (by omega), Or.inl ⟨rfl, _, e, rfl, ?_, fun i hi => ?_, HsC.cg hh (wg_row_ne (by omega)) (fun i hi => wg_row_ne (by omega))⟩⟩
  · rw [wg_ne2 (by omega), h4]; exact ht.2.1
  · rw [wg_ne1 (by omega), h29]; exact ht.2.2.1 i hi
set_option maxHeartbeats 400000 in
theorem t_end2 (ht : TcS N 2 20 s) (ho : SgOK s) : Fr G (d + 1) 83 [.ref 3, .ref 2] N (TkP2 N (stE s)) := by
  have hi := it_le2 ho
  have hg := ho.2.1
  obtain ⟨⟨q0, q1, q2⟩, _⟩ := ht.2.2.2
  rcases Classical.em (s.1 = 119 ∧ s.2.1 = 2) with hw | hw
  · have e : stE s = some (0, s.2.1, s.2.2.1, addW s.2.2.2 (s.2.2.1 0) (s.2.2.1 1)) := itc_t hw
    have hr : s.2.2.2.1 < 6 := room_w (by have := ho.2.2.1; rw [hw.1] at this; exact this)
    refine Fr_of okc_X8_takesEnd [] ?_
    conv => whnf
    rw [ht.1]
    refine And.intro (fun h => absurd (by rw [hw.1]) h) (fun h => ?_)
    conv => whnf
    rw [ht.2.1]
    refine And.intro (fun h => absurd (by rw [hw.2]) h) (fun h => ?_)
    refine And.intro (vp_in_nI (by omega) (by decide)) ?_
    refine And.intro (vp_in_nI (by omega) (by decide)) ?_
    rw [nI_clamp (n := 0) (by omega), nI_clamp (n := 1) (by omega), ht.2.2.1 0 (by omega), ht.2.2.1 1 (by omega)]
    refine call_k (t_addWord2 q0 hr _ _) ?_
    refine And.intro isB_1 (te_fin2 ht ?_ rfl rfl (HsC.w hok2 ht.2.2.2) e)
    exact (((Ch.rf _ _ _).set_ (by omega) (by omega)).set_ (by omega) (by omega)).set_ (by omega) (by omega)
  · refine te02 ht ho hw _ ?_
    rcases Classical.em (s.1 = 109 ∧ 2 ≤ s.2.1) with hm | hm
    · have e : stE s = some (0, s.2.1, s.2.2.1, addM s.2.2.2 s.2.2.1 (s.2.1 - 1)) := (itc_f hw).trans (itc_t hm)
      have hr : s.2.2.2.2.1 < 5 := room_m (by have := ho.2.2.1; rw [hm.1] at this; exact this)
      refine A_wp okc_X8_takesEnd [] ?_
      conv => whnf
      rw [ht.1]
      refine And.intro (fun h => absurd (by rw [hm.1]) h) (fun h => ?_)
      conv => whnf
      rw [ht.2.1]
      refine And.intro (fun h => absurd h (nI_nlt hm.2 (by omega))) (fun h => ?_)
      conv => whnf
      rw [ht.2.1, nIs (show 1 ≤ s.2.1 by omega)]
      refine call_k (t_addMotion2 q1 hr (by omega) (by omega)) ?_
      refine And.intro isB_1 (te_fin2 ht ?_ rfl rfl (HsC.m hok2 ht.2.2.2 ho.1 (by omega) (by omega) (fun i hi => ht.2.2.1 i (by omega))) e)
      exact ((((Ch.rf _ _ _).set_ (by omega) (by omega)).set_ (by omega) (by omega)).cpy hok2).set_ (by omega) (by omega)
    · refine te362 ht ho hm _ ?_
      rcases Classical.em (s.1 = 98 ∧ s.2.1 = 3) with hb | hb
      · have e : stE s = some (0, s.2.1, s.2.2.1, addB s.2.2.2 (s.2.2.1 0) (s.2.2.1 1) (s.2.2.1 2)) := (itc_f hw).trans ((itc_f hm).trans (itc_t hb))
        have hr : s.2.2.2.2.2.1 < 4 := room_b (by have := ho.2.2.1; rw [hb.1] at this; exact this)
        refine A_wp okc_X8_takesEnd [] ?_
        conv => whnf
        rw [ht.1]
        refine And.intro (fun h => absurd (by rw [hb.1]) h) (fun h => ?_)
        conv => whnf
        rw [ht.2.1]
        refine And.intro (fun h => absurd (by rw [hb.2]) h) (fun h => ?_)
        refine And.intro (vp_in_nI (by omega) (by decide)) ?_
        refine And.intro (vp_in_nI (by omega) (by decide)) ?_
        refine And.intro (vp_in_nI (by omega) (by decide)) ?_
        rw [nI_clamp (n := 0) (by omega), nI_clamp (n := 1) (by omega), nI_clamp (n := 2) (by omega), ht.2.2.1 0 (by omega), ht.2.2.1 1 (by omega), ht.2.2.1 2 (by omega)]
        refine call_k (t_addBaby2 q2 hr _ _ _) ?_
        refine And.intro isB_1 (te_fin2 ht ?_ rfl rfl (HsC.b hok2 ht.2.2.2) e)
        exact ((((Ch.rf _ _ _).set_ (by omega) (by omega)).set_ (by omega) (by omega)).set_ (by omega) (by omega)).set_ (by omega) (by omega)
      · have e : stE s = none := (itc_f hw).trans ((itc_f hm).trans (itc_f hb))
        exact A_mono (fun r M2 q => by obtain ⟨rfl, rfl⟩ := q; exact ⟨Ch.rf _ _ _, Or.inr ⟨rfl, e⟩⟩) (te702 ht ho hb)
theorem t_takes2 (hT : TxC N L x) (ht : TcS N 2 20 s) (ho : SgOK s) {k : Nat} (hk : k < 2 ^ 29) : Fr G (d + 3) 78 [.ref 3, .ref 2, .int (nI k)] N (TkP2 N (step L x k s)) := by
  have h255 := chr_le hT.2.2.2 k
  unfold step
  refine Fr_of okc_X8_takes [] ?_
  refine call_k (c_digitAt hT (by omega)) ?_
  refine And.intro (fun h => ?_) (fun h => ?_)
  · rw [dgI_m1] at h
    rw [itc_f h]
    refine call_k (c_letterAt hT (by omega)) ?_
    refine And.intro (fun h1 => ?_) (fun h1 => ?_)
    · rw [nI_eq (by omega) (by omega)] at h1
      rw [itc_f h1]
      refine call_r (t_beg2 ht ho h255) ?_
      rintro r N2 ⟨hc, ⟨rfl, q⟩ | ⟨rfl, q⟩⟩
      · exact And.intro isB_1 ⟨hc, Or.inl ⟨rfl, q⟩⟩
      · exact And.intro isB_0 ⟨hc, Or.inr ⟨rfl, q⟩⟩
    · rw [nI_eq (by omega) (by omega)] at h1
      rw [itc_t h1]
      refine call_r (t_end2 ht ho) ?_
      rintro r N2 ⟨hc, ⟨rfl, q⟩ | ⟨rfl, q⟩⟩
      · exact And.intro isB_1 ⟨hc, Or.inl ⟨rfl, q⟩⟩
      · exact And.intro isB_0 ⟨hc, Or.inr ⟨rfl, q⟩⟩
  · rw [dgI_m1, Classical.not_not] at h
    rw [itc_t h]
    refine call_k (c_numberAt hT hk h) ?_
    refine call_r (t_num2 ht ho (o := nmb L x k) (fun v hv => nmb_le h hv)) ?_
    rintro r N2 ⟨hc, ⟨rfl, q⟩ | ⟨rfl, q⟩⟩
    · exact And.intro isB_1 ⟨hc, Or.inl ⟨rfl, q⟩⟩
    · exact And.intro isB_0 ⟨hc, Or.inr ⟨rfl, q⟩⟩
def TlP2 (N0 : WM) (F : Nat ⊕ Hs) (L : Nat) : Option Value → WM → Prop := fun q N => Ch 2 20 N0 N ∧ ((∃ hs, F = .inr hs ∧ q = some (.int (mI 1)) ∧ HsC N 2 20 hs ∧ HsOK hs) ∨ (∃ k, F = .inl k ∧ k ≤ L ∧ q = some (.int (nI k))))
set_option maxHeartbeats 400000 in
theorem lp_tl2 {N0 : WM} {F : Nat ⊕ Hs} : ∀ (n k : Nat) (N : WM) (s : Sg), k + n = L → Ch 2 20 N0 N → TxC N L x → TcS N 2 20 s → SgOK s → F = RT_ L x k s →
    A G (d + 4) 73 16 [some (.ref 3), some (.ref 2), some (.int (nI k))] [] N (TlP2 N0 F L)
  | 0, k, N, s, hk, hc, hT, ht, ho, hF => by
    have hi := it_le2 ho
    have hL := hT.2.1
    refine A_wp okc_X8_tells [16] ?_
    conv => whnf
    rw [hT.1]
    refine And.intro (fun _ => ?_) (fun h => absurd (nI_le (by omega) (by omega)) h)
    conv => whnf
    rw [ht.1]
    rw [show k = L by omega] at hF
    refine And.intro (fun h => ?_) (fun h => ?_)
    · rw [nI_eq (by omega) (by omega)] at h
      rw [RT_end1 h] at hF
      exact ⟨hc, Or.inr ⟨L, hF, Nat.le_refl L, by rw [hT.1]⟩⟩
    · rw [nI_eq (by omega) (by omega)] at h
      rw [RT_end0 h] at hF
      exact ⟨hc, Or.inl ⟨_, hF, rfl, ht.2.2.2, ho.1⟩⟩
  | n + 1, k, N, s, hk, hc, hT, ht, ho, hF => by
    have hL := hT.2.1
    refine A_wp okc_X8_tells [16] ?_
    conv => whnf
    rw [hT.1]
    refine And.intro (fun h => absurd h (nI_ge (by omega) (by omega))) (fun _ => ?_)
    refine call_k (c_beginsToken hT (by omega)) ?_
    refine And.intro (fun h => ?_) (fun h => ?_)
    · rw [bI_0] at h
      have ih := lp_tl2 n (k + 1) N s (by omega) hc hT ht ho (hF.trans (RT_skip (by omega) h))
      rw [← nI_add k 1] at ih
      exact And.intro trivial ih
    · rw [bI_0, Classical.not_not] at h
      refine call_r (t_takes2 hT ht ho (by omega)) ?_
      rintro r N2 ⟨hc2, ⟨rfl, s', e, ht2⟩ | ⟨rfl, e⟩⟩
      · refine And.intro (fun _ => ?_) (fun z => absurd z n10)
        have ih := lp_tl2 n (k + 1) N2 s' (by omega) (hc.tr hc2) (hc2.tx hok2 hT) ht2 (step_ok ho e) (hF.trans (RT_some (by omega) h e))
        rw [← nI_add k 1] at ih
        exact And.intro trivial ih
      · refine And.intro (fun z => absurd rfl z) (fun _ => ?_)
        exact ⟨hc.tr hc2, Or.inr ⟨k, hF.trans (RT_none (by omega) h e), by omega, rfl⟩⟩
def sg02 : Sg := (0, 0, fun _ => 0, (0, 0, 0, fun _ _ => 0))
theorem t_tells2 (hT : TxC N L x) : Fr G (d + 4) 73 [.ref 3, .ref 2] N (TlP2 N (RT_ L x 0 sg02) L) := by
  have em : Fn G (d + 3) 21 [.ref 2] N none (wset (wset (wset N 2 0 (nI 0)) 2 1 (nI 0)) 2 2 (nI 0)) := by
    refine Fn_of okc_X2_empty [] ?_
    exact And.intro rfl rfl
  refine Fr_of okc_X8_tells [16] ?_
  refine call_k em ?_
  have hc : Ch 2 20 N (wset (wset (wset (wset (wset N 2 0 (nI 0)) 2 1 (nI 0)) 2 2 (nI 0)) 3 3 (nI 0)) 3 4 (nI 0)) := (((((Ch.rf _ _ _).set_ (by omega) (by omega)).set_ (by omega) (by omega)).set_ (by omega) (by omega)).set3 (by omega)).set3 (by omega)
  refine And.intro trivial ?_
  exact lp_tl2 L 0 _ sg02 (by omega) hc (hc.tx hok2 hT) ⟨rfl, rfl, fun i hi => absurd hi (Nat.not_lt_zero i), ⟨rfl, rfl, rfl⟩, fun i hi => absurd hi (Nat.not_lt_zero i), fun i hi => absurd hi (Nat.not_lt_zero i), fun i hi => absurd hi (Nat.not_lt_zero i)⟩
    ⟨⟨Nat.zero_le _, Nat.zero_le _, Nat.zero_le _, fun i hi => absurd hi (Nat.not_lt_zero i), fun i hi => absurd hi (Nat.not_lt_zero i)⟩, Nat.zero_le _, Or.inl rfl, fun z => absurd z (by decide), fun z => absurd z (by decide), fun i hi => absurd hi (Nat.not_lt_zero i)⟩ rfl
end TELL
