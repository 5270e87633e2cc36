-- wording: the class
theorem cnt_snoc {r : Nat → Nat} {w : Nat} : ∀ n k, cnt r w (n + 1) k = cnt r w n k + one (r (k + n)) w
  | 0, k => by
    show one (r k) w + 0 = 0 + one (r k) w
    omega
  | n + 1, k => by
    have ih := cnt_snoc (r := r) (w := w) n (k + 1)
    show one (r k) w + cnt r w (n + 1) (k + 1) = one (r k) w + cnt r w n (k + 1) + one (r (k + (n + 1))) w
    rw [ih, show k + 1 + n = k + (n + 1) by omega]
    omega
theorem lex_cg {r r' s : Nat → Nat} : ∀ n k, (∀ q, k ≤ q → q < k + n → r' q = r q) → lex r s n k → lex r' s n k
  | 0, _, _, _ => trivial
  | n + 1, k, h, hl => by
    have e := h k (Nat.le_refl k) (by omega)
    rcases hl with c | c
    · exact Or.inl (by rw [e]; exact c)
    · exact Or.inr ⟨by rw [e]; exact c.1, lex_cg n (k + 1) (fun q a b => h q (by omega) (by omega)) c.2⟩
/-- answers x, and only the class's scratch has changed -/
def AnsC (M : WM) (x : Int32) : Option Value → WM → Prop := fun r M2 => r = some (.int x) ∧ Cs M M2
theorem AnsC.eq {M M2 : WM} {x y : Int32} (h : x = y) (hs : Cs M M2) : AnsC M y (some (.int x)) M2 := ⟨by rw [h], hs⟩
theorem Same.cs {G : GG} {j j' : Nat} {As : List Value} {M : WM} {x : Int32} (hg : GoodT M) (h : Fr G 40 j (.ref 0 :: As) M (AnsC M x)) (k : ∀ M1, Cs M M1 → Fr G 40 j' (.ref 39 :: As) M1 (AnsS M1 x)) : Same G j j' As M :=
  Fr_mono (fun q M1 e => ⟨x, e.1, Fr_mono (fun q2 M2 e2 => ⟨e2.1, e2.2.GoodT_ (e.2.GoodT_ hg)⟩) (k M1 e.2)⟩) h
def CgP (M : WM) (c : Nat → Nat) (o : Nat → Int32) (e dp : Int32) (n k : Nat) : Option Value → WM → Prop := fun q N => Cs M N ∧ (∀ i, i < k → wg N 33 i = o i) ∧
  ((q = some (.int (nI 1)) ∧ ∃ t, (∀ i, k ≤ i → i < k + n → wg N 33 i = nI (t i)) ∧ LeastO M c e dp n k t) ∨
   (q = some (.int (nI 0)) ∧ (∀ w, w < 6 → wg N 32 w = nI (c w)) ∧ ∀ s, (∀ w, cnt s w n k = c w) → rn M s zlo e n k dp = nI 0))
/-- the orders begin with w, or the rest -/
theorem cgo_tl {c s : Nat → Nat} {n k w : Nat} (hw : s k = w) (hs : ∀ v, cnt s v (n + 1) k = c v) : ∀ v, cnt s v n (k + 1) = up c w (c w - 1) v := by
  intro v
  have a : one (s k) v + cnt s v n (k + 1) = c v := hs v
  rw [hw] at a
  by_cases e : v = w
  · subst e
    rw [up_t]
    rw [one_t] at a
    omega
  · rw [up_f _ _ e]
    have z : one w v = 0 := if_neg (fun q => e q.symm)
    omega
theorem rn_s {M : WM} {r : Nat → Nat} {e dp : Int32} {n k : Nat} (h : ¬ stp M (r k) (nI 0) e dp = nI 0) : rn M r zlo e (n + 1) k dp = rn M r zlo e n (k + 1) (stp M (r k) (nI 0) e dp) := if_neg h
theorem rn_z {M : WM} {r : Nat → Nat} {e dp : Int32} {n k : Nat} (h : stp M (r k) (nI 0) e dp = nI 0) : rn M r zlo e (n + 1) k dp = nI 0 := if_pos h
theorem cgo_least {M : WM} {c t : Nat → Nat} {e dp : Int32} {n k w : Nat} (hcw : 1 ≤ c w) (hst : ¬ stp M w (nI 0) e dp = nI 0) (hlow : ∀ s, (∀ v, cnt s v (n + 1) k = c v) → s k < w → rn M s zlo e (n + 1) k dp = nI 0)
    (hl : LeastO M (up c w (c w - 1)) e (stp M w (nI 0) e dp) n (k + 1) t) : LeastO M c e dp (n + 1) k (up t k w) := by
  have eu : ∀ q, k + 1 ≤ q → q < k + 1 + n → up t k w q = t q := fun q a _ => up_f t w (by omega)
  have hu : up t k w k = w := up_t t k w
  refine ⟨fun v => ?_, ?_, fun s hs hc => ?_⟩
  · show one (up t k w k) v + cnt (up t k w) v n (k + 1) = c v
    rw [hu, cnt_cg n (k + 1) eu, hl.1 v]
    by_cases e : v = w
    · subst e
      rw [up_t, one_t]
      omega
    · rw [up_f _ _ e]
      have z : one w v = 0 := if_neg (fun q => e q.symm)
      omega
  · rw [rn_s (by rw [hu]; exact hst), hu, rn_cg n (k + 1) _ eu]
    exact hl.2.1
  · rcases Nat.lt_trichotomy (s k) w with q | q | q
    · exact absurd (hlow s hs q) hc
    · rw [rn_s (by rw [q]; exact hst), q] at hc
      exact Or.inr ⟨by rw [hu]; exact q.symm, lex_cg n (k + 1) eu (hl.2.2 s (cgo_tl q hs) hc)⟩
    · exact Or.inl (by rw [hu]; exact q)
section WORDC
variable {G : GG} {M : WM}
theorem c_daw (hG : Good M) {N : WM} (hc : Cs M N) {w D : Nat} (hD : 2 ≤ D) (hw : w < nW M) (dp x e : Int32) : Fn G D 7 [.ref 7, .int dp, .int (nI w), .int x, .int e] N (some (.int (stp M w x e dp))) N := by
  obtain ⟨d, rfl⟩ := Nat.exists_eq_add_of_le' hD
  have h := c_depthAfterWord (G := G) (d := d) (hc.Good_ hG) (w := w) (by rw [hc.eq]; exact hw) dp x e
  have es : stp N w x e dp = stp M w x e dp := by rw [hc.eq]; rfl
  rw [es] at h
  exact h
set_option maxHeartbeats 400000 in
theorem lp_cgo (hG : Good M) {c : Nat → Nat} {o : Nat → Int32} {e dp : Int32} {n k L D : Nat} (hkL : k + (n + 1) = L) (hL : L ≤ 6) (hD : 2 ≤ D) (hc6 : sm6 c = n + 1) (hcW : ∀ w, 1 ≤ c w → w < nW M)
    (hrec : ∀ (c' : Nat → Nat) (o' : Nat → Int32) (dp' : Int32) (N' : WM), sm6 c' = n → (∀ w, 1 ≤ c' w → w < nW M) → (∃ j, j ≤ 9 ∧ dp' = nI j) → ¬ dp' = nI 0 → Cs M N' → (∀ w, w < 6 → wg N' 32 w = nI (c' w)) → (∀ i, i < k + 1 → wg N' 33 i = o' i) →
      Fr G D 61 [.ref 8, .int (nI (k + 1)), .int (nI L), .int dp', .int e] N' (CgP M c' o' e dp' n (k + 1))) :
    ∀ (u w : Nat) (N : WM) (z : Option Value), w + u = 6 → Cs M N → (∀ v, v < 6 → wg N 32 v = nI (c v)) → (∀ i, i < k → wg N 33 i = o i) → (∀ s, (∀ v, cnt s v (n + 1) k = c v) → s k < w → rn M s zlo e (n + 1) k dp = nI 0) →
    A G (D + 1) 61 16 [some (.ref 8), some (.int (nI k)), some (.int (nI L)), some (.int dp), some (.int e), some (.int (nI w)), z] [] N (CgP M c o e dp (n + 1) k)
  | 0, w, N, z, hw, hcs, hlf, hor, hlow => by
    have hW := hG.w
    refine A_wp okc_X5_canGoOn [16] ?_
    refine And.intro (fun _ => ?_) (fun h => absurd (nI_le (by omega) (by omega)) h)
    refine And.intro isB_0 ⟨hcs, hor, Or.inr ⟨rfl, hlf, fun s hs => hlow s hs ?_⟩⟩
    have h1 := mem_cnt (r := s) (n + 1) k k (Nat.le_refl k) (by omega)
    rw [hs] at h1
    have := hcW _ h1
    omega
  | u + 1, w, N, z, hw, hcs, hlf, hor, hlow => by
    have hW := hG.w
    have hcw6 : c w ≤ n + 1 := by
      have q := hc6
      unfold sm6 at q
      rcases lt6 (show w < 6 by omega) with e | e | e | e | e | e <;> subst e <;> omega
    have ew := hlf w (by omega)
    refine A_wp okc_X5_canGoOn [16] ?_
    refine And.intro (fun h => absurd h (nI_ge (by omega) (by omega))) (fun _ => ?_)
    refine And.intro (vp_in_nI (by omega) (by decide)) ?_
    rw [nI_clamp (n := w) (by omega), ew]
    refine And.intro (fun h => ?_) (fun h => ?_)
    · rw [nI_leI (by omega) (by omega)] at h
      refine And.intro (fun _ => ?_) (fun h => absurd (show nI 0 ≤ nI 0 by decide) h)
      have ih := lp_cgo hG hkL hL hD hc6 hcW hrec u (w + 1) N (some (.int (nI 0))) (by omega) hcs hlf hor (fun s hs hk => by
        rcases Nat.lt_or_ge (s k) w with q | q
        · exact hlow s hs q
        · have h1 := mem_cnt (r := s) (n + 1) k k (Nat.le_refl k) (by omega)
          rw [hs, show s k = w by omega] at h1
          omega)
      rw [← nI_add w 1] at ih
      exact And.intro trivial ih
    · rw [nI_leI (by omega) (by omega)] at h
      have hcw : 1 ≤ c w := by omega
      have hwW := hcW w hcw
      refine call_k (c_daw hG hcs hD hwW dp (nI 0) e) ?_
      have hsn : ∃ j, j ≤ 9 ∧ stp M w (nI 0) e dp = nI j := clp_n _
      refine And.intro (fun h2 => ?_) (fun h2 => ?_)
      · rw [le0_n hsn] at h2
        have ih := lp_cgo hG hkL hL hD hc6 hcW hrec u (w + 1) N (some (.int (stp M w (nI 0) e dp))) (by omega) hcs hlf hor (fun s hs hk => by
          rcases Nat.lt_or_ge (s k) w with q | q
          · exact hlow s hs q
          · exact rn_z (by rw [show s k = w by omega]; exact h2))
        rw [← nI_add w 1] at ih
        exact And.intro trivial ih
      · rw [le0_n hsn] at h2
        refine And.intro (vp_in_nI (by omega) (by decide)) ?_
        rw [nI_clamp (n := w) (by omega), ew]
        refine And.intro (vp_in_nI (by omega) (by decide)) ?_
        rw [nI_clamp (n := w) (by omega), nIs hcw]
        refine And.intro (vp_in_nI (by omega) (by decide)) ?_
        rw [nI_clamp (n := k) (by omega)]
        conv => whnf
        rw [nI_add k 1]
        have hcs2 : Cs M (wset (wset N 32 w (nI (c w - 1))) 33 k (nI w)) := (hcs.tr (Cs.set rfl)).tr (Cs.set rfl)
        have hlf2 : ∀ v, v < 6 → wg (wset (wset N 32 w (nI (c w - 1))) 33 k (nI w)) 32 v = nI (up c w (c w - 1) v) := fun v hv => by
          rw [wg_ne1 (show 32 ≠ 33 by omega)]
          by_cases e : v = w
          · subst e; rw [wg_same, up_t]
          · rw [wg_ne2 e, up_f _ _ e]; exact hlf v hv
        have hor2 : ∀ i, i < k + 1 → wg (wset (wset N 32 w (nI (c w - 1))) 33 k (nI w)) 33 i = (if i = k then nI w else o i) := fun i hi => by
          by_cases e : i = k
          · subst e; rw [wg_same, if_pos rfl]
          · rw [wg_ne2 e, wg_ne1 (show 33 ≠ 32 by omega), if_neg e]; exact hor i (by omega)
        have hcW2 : ∀ v, 1 ≤ up c w (c w - 1) v → v < nW M := fun v hv => by
          by_cases e : v = w
          · rw [e]; exact hwW
          · rw [up_f _ _ e] at hv; exact hcW v hv
        refine call_r (hrec (up c w (c w - 1)) (fun i => if i = k then nI w else o i) (stp M w (nI 0) e dp) _ (sm6_dn (by omega) hcw hc6) hcW2 hsn h2 hcs2 hlf2 hor2) ?_
        rintro r N2 ⟨hcs3, hor3, ⟨rfl, t, ht, hl⟩ | ⟨rfl, hlf3, hno⟩⟩
        · refine And.intro (fun h => absurd h n10) (fun _ => ?_)
          refine And.intro isB_1 ⟨hcs3, fun i hi => ?_, Or.inl ⟨rfl, up t k w, fun i h1 h3 => ?_, cgo_least hcw h2 hlow hl⟩⟩
          · rw [hor3 i (by omega)]
            show (if i = k then nI w else o i) = o i
            rw [if_neg (by omega)]
          · by_cases e : i = k
            · subst e
              rw [hor3 i (by omega), up_t]
              exact if_pos rfl
            · rw [up_f _ _ e]; exact ht i (by omega) (by omega)
        · refine And.intro (fun _ => ?_) (fun h => absurd rfl h)
          refine And.intro (vp_in_nI (by omega) (by decide)) ?_
          rw [nI_clamp (n := w) (by omega), hlf3 w (by omega), up_t]
          refine And.intro (vp_in_nI (by omega) (by decide)) ?_
          rw [nI_clamp (n := w) (by omega), nI_add, show c w - 1 + 1 = c w by omega]
          have ih := lp_cgo (o := o) hG hkL hL hD hc6 hcW hrec u (w + 1) (wset N2 32 w (nI (c w))) (some (.int (stp M w (nI 0) e dp))) (by omega) (hcs3.tr (Cs.set rfl)) (fun v hv => by
              by_cases e : v = w
              · subst e; rw [wg_same]
              · rw [wg_ne2 e, hlf3 v hv, up_f _ _ e]) (fun i hi => by
              rw [wg_ne1 (show 33 ≠ 32 by omega), hor3 i (by omega)]
              show (if i = k then nI w else o i) = o i
              rw [if_neg (by omega)]) (fun s hs hk => by
              rcases Nat.lt_or_ge (s k) w with q | q
              · exact hlow s hs q
              · have e : s k = w := by omega
                rw [rn_s (by rw [e]; exact h2), e]
                exact hno s (cgo_tl e hs))
          rw [← nI_add w 1] at ih
          exact And.intro trivial ih
set_option maxHeartbeats 400000 in
theorem c_canGoOn (hG : Good M) {e : Int32} {L : Nat} (hL : L ≤ 6) : ∀ (n k D : Nat) (c : Nat → Nat) (o : Nat → Int32) (dp : Int32) (N : WM), k + n = L → n + 3 ≤ D → sm6 c = n → (∀ w, 1 ≤ c w → w < nW M) → (∃ j, j ≤ 9 ∧ dp = nI j) → ¬ dp = nI 0 → Cs M N → (∀ w, w < 6 → wg N 32 w = nI (c w)) → (∀ i, i < k → wg N 33 i = o i) →
      Fr G D 61 [.ref 8, .int (nI k), .int (nI L), .int dp, .int e] N (CgP M c o e dp n k)
  | 0, k, D, c, o, dp, N, hk, hD, h6, hcW, hdp, hd0, hcs, hlf, hor => by
    have hW := hG.w
    have hc0 : ∀ w, c w = 0 := fun w => by
      rcases Nat.eq_zero_or_pos (c w) with q | q
      · exact q
      · have h1 := hcW w q
        unfold sm6 at h6
        rcases lt6 (show w < 6 by omega) with e | e | e | e | e | e <;> subst e <;> omega
    refine Fr_of okc_X5_canGoOn [16] ?_
    refine And.intro (fun _ => ?_) (fun h => absurd (nI_le (by omega) (by omega)) h)
    exact And.intro isB_1 ⟨hcs, hor, Or.inl ⟨rfl, fun _ => 0, fun i h1 h2 => by omega, ⟨fun w => (hc0 w).symm, hd0, fun s _ _ => trivial⟩⟩⟩
  | n + 1, k, D, c, o, dp, N, hk, hD, h6, hcW, hdp, hd0, hcs, hlf, hor => by
    obtain ⟨D', rfl⟩ : ∃ D', D = D' + 1 := ⟨D - 1, by omega⟩
    refine Fr_of okc_X5_canGoOn [16] ?_
    refine And.intro (fun h => absurd h (nI_ge (by omega) (by omega))) (fun _ => ?_)
    refine And.intro (fun _ => ?_) (fun h => absurd (nI_lt (by omega) (by omega)) h)
    refine And.intro trivial ?_
    exact lp_cgo hG hk hL (by omega) h6 hcW (fun c' o' dp' N' a1 a2 a3 a4 a5 a6 a7 => c_canGoOn hG hL n (k + 1) D' c' o' dp' N' (by omega) (by omega) a1 a2 a3 a4 a5 a6 a7) 6 0 N none (by omega) hcs hlf hor (fun s _ hk => by omega)
end WORDC
