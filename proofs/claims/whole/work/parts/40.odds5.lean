-- odds: the reference's loops
section ODDS
variable {G : GG} {d : Nat} {M : WM}
theorem lof_d {p k : Nat} (hp : p < 64) (hk : k < 6) : lof (nI p) (nI 1) k = nI (p / 2 ^ k % 2) := by
  unfold lof
  rw [bit_d p hp k hk, nIm, Nat.mul_one]
set_option maxHeartbeats 400000 in
theorem lp_mbits (hG : GM M) {m b x p : Nat} (hm : m < nMo M) (hb : b < 4) (hx : x < 11) (hp : p < 2 ^ len M m) (w x5 : Int32) (Q : Option Value → WM → Prop)
    (K : ∀ N z8 z9, Sc M N → RowIs N (txt M m) (len M m) (lof (nI p) (nI 1)) → A G (d + 2) 159 77 [some (.ref 39), some (.int (nI m)), some (.int (nI b)), some (.int (nI x)), some (.int w), some (.int x5), some (.int (nI (smm M m b x (p + 1)))), some (.int (nI (p + 1))), z8, z9] [] N Q) :
    ∀ (n k : Nat) (N : WM) (lo : Nat → Int32), k + n = len M m → Sc M N → RowIs N (txt M m) (len M m) lo → (∀ i, i < k → lo i = lof (nI p) (nI 1) i) →
    A G (d + 2) 159 94 [some (.ref 39), some (.int (nI m)), some (.int (nI b)), some (.int (nI x)), some (.int w), some (.int x5), some (.int (nI (smm M m b x p))), some (.int (nI p)), some (.int (nI (prd x p k))), some (.int (nI k))] [] N Q
  | 0, k, N, lo, hk, hs, hR, hlo => by
    have hl := hG.ln hm
    have hR' : RowIs N (txt M m) (len M m) (lof (nI p) (nI 1)) := hR.cg (fun i hi => hlo i (by omega))
    have es : smm M m b x (p + 1) = smm M m b x p + ftm M m b x p := rfl
    refine A_wp okc_X10_odds [77, 94] ?_
    conv => whnf
    rw [hR.1]
    refine And.intro (fun _ => ?_) (fun h => absurd (nI_le (by omega) (by omega)) h)
    refine And.intro (by rw [nI_add]; exact vp_in_nI (by omega) (by decide)) ?_
    rw [nI_add, nI_clamp (n := 3 + b) (by omega), hs.c (by omega)]
    refine call_k (m_eN hs hb) ?_
    refine call_k (m_wk hG hm hs hR' _) ?_
    have K2 := K (wset N 39 32 (rn0 M m b (lof (nI p) (nI 1)) (wg M 43 (3 + b)))) (some (.int (nI (prd x p k)))) (some (.int (nI k))) (sc32 hs) hR'.beh
    rw [es] at K2
    refine And.intro (fun h => ?_) (fun h => ?_)
    · rw [c5 (by omega)] at h
      rw [ftm_f h, ← nI_add p 1, ← nI_add (smm M m b x p) 0] at K2
      exact And.intro trivial K2
    · rw [c5 (by omega)] at h
      rw [ftm_t h, ← prd_d _ (by omega) x hx p hp, ← nI_add p 1, ← nI_add (smm M m b x p) _, show len M m = k by omega] at K2
      exact And.intro trivial K2
  | n + 1, k, N, lo, hk, hs, hR, hlo => by
    have hl := hG.ln hm
    have h64 := p2_d (len M m) (by omega)
    have ih := lp_mbits hG hm hb hx hp w x5 Q K n (k + 1) (wset N 54 k (nI (p / 2 ^ k % 2))) _ (by omega) (sc54 hs) hR.lo (fun i hi => by
      by_cases e : i = k
      · show (if i = k then _ else _) = _
        rw [if_pos e, e, lof_d (by omega) (by omega)]
      · show (if i = k then _ else _) = _
        rw [if_neg e]
        exact hlo i (by omega))
    have ep : prd x p (k + 1) = prd x p k * (if p / 2 ^ k % 2 = 1 then x else 10 - x) := rfl
    rw [ep, ← nI_add k 1, ← nIm] at ih
    refine A_wp okc_X10_odds [77, 94] ?_
    conv => whnf
    rw [hR.1]
    refine And.intro (fun h => absurd h (nI_ge (by omega) (by omega))) (fun _ => ?_)
    refine And.intro (vp_in_nI (by omega) (by decide)) ?_
    rw [nI_clamp (n := k) (by omega), bit_d p (by omega) k (by omega)]
    refine And.intro (vp_in_nI (by omega) (by decide)) ?_
    rw [nI_clamp (n := k) (by omega), wg_same]
    refine And.intro (fun h => ?_) (fun h => ?_)
    · rw [if_neg (fun q => h (by rw [q])), ← nIs (show x ≤ 10 by omega)] at ih
      exact And.intro trivial ih
    · rw [if_pos ((nI_eq (by omega) (by omega)).mp h)] at ih
      exact And.intro trivial ih
end ODDS
