-- the law's loop
theorem lgc (r : Int64) : lg_cmp r r = nI 0 := by
  unfold lg_cmp
  rw [if_neg (Int64.lt_irrefl), if_pos rfl]
  rfl
section LAW
variable {G : GG} {M : WM}
abbrev sL (G : GG) : Nat := G.2.2.2.2.2.1
def EndL : Option Value → WM → Prop := fun r _ => r = some (.int (nI 1))
set_option maxHeartbeats 2000000 in
theorem lp_law (hL : sL G ≤ 320) : ∀ (n i : Nat) (M : WM), sL G ≤ i + 5 * n + 4 → i ≤ sL G → GoodT M →
    A G 41 177 18 [some (.ref 61), some (.ref 0), some (.ref 39), some (.int (nI i))] [] M EndL
  | n, i, M, hn, hi, hg => by
    have et := pk_sub_toInt (a := sL G) (b := 5) (by omega) (by omega)
    rcases Nat.lt_or_ge (sL G) (i + 5) with hs | hs
    · have hgt : nI (sL G) - nI 5 < nI i := by
        rw [Int32.lt_iff_toInt_lt, et, nI_toInt (by omega)]
        omega
      refine A_wp okc_L_law [925] ?_
      refine And.intro (fun _ => ?_) (fun h => absurd hgt h)
      exact And.intro isB_1 rfl
    · obtain ⟨n', rfl⟩ : ∃ n', n = n' + 1 := ⟨n - 1, by omega⟩
      have hng : ¬ nI (sL G) - nI 5 < nI i := by
        rw [Int32.lt_iff_toInt_lt, et, nI_toInt (by omega)]
        omega
      have vp : ∀ k, k < 5 → vp_in (nI i + nI k) (sL G) := fun k hk => by
        rw [nI_add]
        exact vp_in_nI (by omega) (by omega)
      have next : ∀ M2, GoodT M2 → A G 41 177 925 [some (.ref 61), some (.ref 0), some (.ref 39), some (.int (nI i))] [] M2 EndL := by
        intro M2 hg2
        have ih := lp_law hL n' (i + 5) M2 (by omega) (by omega) hg2
        rw [← nI_add i 5] at ih
        refine A_wp okc_L_law [18] ?_
        exact And.intro trivial ih
      refine A_wp okc_L_law [925] ?_
      refine And.intro (fun h => absurd h hng) (fun _ => ?_)
      refine And.intro (show vp_in (nI i) (sL G) from vp_in_nI (by omega) (by omega)) ?_
      refine And.intro (And.intro (fun _ => ?_) (And.intro (fun _ => ?_) (And.intro (fun _ => ?_) (And.intro (fun _ => ?_) (And.intro (fun _ => ?_) (And.intro (fun _ => ?_) (And.intro (fun _ => ?_) (And.intro (fun _ => ?_) (And.intro (fun _ => ?_) (And.intro (fun _ => ?_) (And.intro (fun _ => ?_) (And.intro (fun _ => ?_) (And.intro (fun _ => ?_) (And.intro (fun _ => ?_) (And.intro (fun _ => ?_) (And.intro (fun _ => ?_) (And.intro (fun _ => ?_) (And.intro (fun _ => ?_) (And.intro (fun _ => ?_) (And.intro (fun _ => ?_) (And.intro (fun _ => ?_) (And.intro (fun _ => ?_) (And.intro (fun _ => ?_) (And.intro (fun _ => ?_) (And.intro (fun _ => ?_) (And.intro (fun _ => ?_) (And.intro (fun _ => ?_) (And.intro (fun _ => ?_) trivial)))))))))))))))))))))))))))) (fun _ => And.intro trivial (next M hg))
      · -- type
        refine And.intro (vp 1 (by omega)) ?_
        refine call_r (s_type hg _) ?_
        rintro q M1 ⟨r, rfl, hf⟩
        refine And.intro (vp 1 (by omega)) ?_
        refine call_r hf ?_
        rintro q2 M2 ⟨rfl, hg2⟩
        exact And.intro (fun _ => And.intro trivial (next M2 hg2)) (fun h => absurd rfl h)
      · -- clear
        refine call_r (s_clear hg) ?_
        rintro q M1 ⟨r, rfl, hf⟩
        refine call_r hf ?_
        rintro q2 M2 ⟨rfl, hg2⟩
        exact And.intro (fun _ => And.intro trivial (next M2 hg2)) (fun h => absurd rfl h)
      · -- house
        refine call_r (s_house hg) ?_
        rintro q M1 ⟨r, rfl, hf⟩
        refine call_r hf ?_
        rintro q2 M2 ⟨rfl, hg2⟩
        exact And.intro (fun _ => And.intro trivial (next M2 hg2)) (fun h => absurd rfl h)
      · -- word
        refine And.intro (vp 1 (by omega)) ?_
        refine And.intro (vp 2 (by omega)) ?_
        refine call_r (s_word hg _ _) ?_
        rintro q M1 ⟨r, rfl, hf⟩
        refine And.intro (vp 1 (by omega)) ?_
        refine And.intro (vp 2 (by omega)) ?_
        refine call_r hf ?_
        rintro q2 M2 ⟨rfl, hg2⟩
        exact And.intro (fun _ => And.intro trivial (next M2 hg2)) (fun h => absurd rfl h)
      · -- motion
        refine And.intro (vp 1 (by omega)) ?_
        refine And.intro (vp 2 (by omega)) ?_
        refine call_r (s_motion hg _ _) ?_
        rintro q M1 ⟨r, rfl, hf⟩
        refine And.intro (vp 1 (by omega)) ?_
        refine And.intro (vp 2 (by omega)) ?_
        refine call_r hf ?_
        rintro q2 M2 ⟨rfl, hg2⟩
        exact And.intro (fun _ => And.intro trivial (next M2 hg2)) (fun h => absurd rfl h)
      · -- said
        refine And.intro (vp 1 (by omega)) ?_
        refine And.intro (vp 2 (by omega)) ?_
        refine call_r (s_said hg _ _) ?_
        rintro q M1 ⟨r, rfl, hf⟩
        refine And.intro (vp 1 (by omega)) ?_
        refine And.intro (vp 2 (by omega)) ?_
        refine call_r hf ?_
        rintro q2 M2 ⟨rfl, hg2⟩
        exact And.intro (fun _ => And.intro trivial (next M2 hg2)) (fun h => absurd rfl h)
      · -- baby
        refine And.intro (vp 1 (by omega)) ?_
        refine And.intro (vp 2 (by omega)) ?_
        refine call_r (s_baby hg _ _) ?_
        rintro q M1 ⟨r, rfl, hf⟩
        refine And.intro (vp 1 (by omega)) ?_
        refine And.intro (vp 2 (by omega)) ?_
        refine call_r hf ?_
        rintro q2 M2 ⟨rfl, hg2⟩
        exact And.intro (fun _ => And.intro trivial (next M2 hg2)) (fun h => absurd rfl h)
      · -- now
        refine And.intro (vp 1 (by omega)) ?_
        refine call_r (s_now hg _) ?_
        rintro q M1 ⟨r, rfl, hf⟩
        refine And.intro (vp 1 (by omega)) ?_
        refine call_r hf ?_
        rintro q2 M2 ⟨rfl, hg2⟩
        exact And.intro (fun _ => And.intro trivial (next M2 hg2)) (fun h => absurd rfl h)
      · -- reads
        refine And.intro (vp 1 (by omega)) ?_
        refine And.intro (vp 2 (by omega)) ?_
        refine call_r (s_reads hg _ _) ?_
        rintro q M1 ⟨r, rfl, hf⟩
        refine And.intro (vp 1 (by omega)) ?_
        refine And.intro (vp 2 (by omega)) ?_
        refine call_r hf ?_
        rintro q2 M2 ⟨rfl, hg2⟩
        exact And.intro (fun _ => And.intro trivial (next M2 hg2)) (fun h => absurd rfl h)
      · -- rocks
        refine And.intro (vp 1 (by omega)) ?_
        refine call_r (s_rocks hg _) ?_
        rintro q M1 ⟨r, rfl, hf⟩
        refine And.intro (vp 1 (by omega)) ?_
        refine call_r hf ?_
        rintro q2 M2 ⟨rfl, hg2⟩
        exact And.intro (fun _ => And.intro trivial (next M2 hg2)) (fun h => absurd rfl h)
      · -- feeds
        refine And.intro (vp 1 (by omega)) ?_
        refine call_r (s_feeds hg _) ?_
        rintro q M1 ⟨r, rfl, hf⟩
        refine And.intro (vp 1 (by omega)) ?_
        refine call_r hf ?_
        rintro q2 M2 ⟨rfl, hg2⟩
        exact And.intro (fun _ => And.intro trivial (next M2 hg2)) (fun h => absurd rfl h)
      · -- undo
        refine call_r (s_undo hg) ?_
        rintro q M1 ⟨r, rfl, hf⟩
        refine call_r hf ?_
        rintro q2 M2 ⟨rfl, hg2⟩
        exact And.intro (fun _ => And.intro trivial (next M2 hg2)) (fun h => absurd rfl h)
      · -- would
        refine And.intro (vp 1 (by omega)) ?_
        refine And.intro (vp 2 (by omega)) ?_
        refine call_r (s_would hg _ _) ?_
        rintro q M1 ⟨r, rfl, hf⟩
        refine And.intro (vp 1 (by omega)) ?_
        refine And.intro (vp 2 (by omega)) ?_
        refine call_r hf ?_
        rintro q2 M2 ⟨rfl, hg2⟩
        exact And.intro (fun _ => And.intro trivial (next M2 hg2)) (fun h => absurd rfl h)
      · -- deep
        refine And.intro (vp 1 (by omega)) ?_
        refine And.intro (vp 2 (by omega)) ?_
        refine call_r (s_deep hg _ _) ?_
        rintro q M1 ⟨r, rfl, hf⟩
        refine And.intro (vp 1 (by omega)) ?_
        refine And.intro (vp 2 (by omega)) ?_
        refine call_r hf ?_
        rintro q2 M2 ⟨rfl, hg2⟩
        exact And.intro (fun _ => And.intro trivial (next M2 hg2)) (fun h => absurd rfl h)
      · -- rockings
        refine And.intro (vp 1 (by omega)) ?_
        refine And.intro (vp 2 (by omega)) ?_
        refine call_r (s_rockings hg _ _) ?_
        rintro q M1 ⟨r, rfl, hf⟩
        refine And.intro (vp 1 (by omega)) ?_
        refine And.intro (vp 2 (by omega)) ?_
        refine call_r hf ?_
        rintro q2 M2 ⟨rfl, hg2⟩
        exact And.intro (fun _ => And.intro trivial (next M2 hg2)) (fun h => absurd rfl h)
      · -- wording
        refine And.intro (vp 1 (by omega)) ?_
        refine And.intro (vp 2 (by omega)) ?_
        refine And.intro (vp 3 (by omega)) ?_
        refine call_r (s_wording hg _ _ _) ?_
        rintro q M1 ⟨r, rfl, hf⟩
        refine And.intro (vp 1 (by omega)) ?_
        refine And.intro (vp 2 (by omega)) ?_
        refine And.intro (vp 3 (by omega)) ?_
        refine call_r hf ?_
        rintro q2 M2 ⟨rfl, hg2⟩
        exact And.intro (fun _ => And.intro trivial (next M2 hg2)) (fun h => absurd rfl h)
      · -- noise
        refine And.intro (vp 1 (by omega)) ?_
        refine And.intro (vp 2 (by omega)) ?_
        refine And.intro (vp 3 (by omega)) ?_
        refine call_r (s_noise hg _ _ _) ?_
        rintro q M1 ⟨r, rfl, hf⟩
        refine And.intro (vp 1 (by omega)) ?_
        refine And.intro (vp 2 (by omega)) ?_
        refine And.intro (vp 3 (by omega)) ?_
        refine call_r hf ?_
        rintro q2 M2 ⟨rfl, hg2⟩
        exact And.intro (fun _ => And.intro trivial (next M2 hg2)) (fun h => absurd rfl h)
      · -- odds
        refine And.intro (vp 1 (by omega)) ?_
        refine And.intro (vp 2 (by omega)) ?_
        refine And.intro (vp 3 (by omega)) ?_
        refine And.intro (vp 4 (by omega)) ?_
        refine call_r (s_odds hg _ _ _ _) ?_
        rintro q M1 ⟨r, rfl, hf⟩
        refine And.intro (vp 1 (by omega)) ?_
        refine And.intro (vp 2 (by omega)) ?_
        refine And.intro (vp 3 (by omega)) ?_
        refine And.intro (vp 4 (by omega)) ?_
        refine call_r hf ?_
        rintro q2 M2 ⟨rfl, hg2⟩
        exact And.intro (fun _ => And.intro trivial (next M2 hg2)) (fun h => absurd rfl h)
      · -- match
        refine And.intro (vp 1 (by omega)) ?_
        refine call_r (s_match hg _) ?_
        rintro q M1 ⟨r, rfl, hf⟩
        refine And.intro (vp 1 (by omega)) ?_
        refine call_r hf ?_
        rintro q2 M2 ⟨rfl, hg2⟩
        exact And.intro (fun _ => And.intro trivial (next M2 hg2)) (fun h => absurd rfl h)
      · -- agenda
        refine And.intro (vp 1 (by omega)) ?_
        refine And.intro (vp 2 (by omega)) ?_
        refine call_r (s_agenda hg _ _) ?_
        rintro q M1 ⟨r, rfl, hf⟩
        refine And.intro (vp 1 (by omega)) ?_
        refine And.intro (vp 2 (by omega)) ?_
        refine call_r hf ?_
        rintro q2 M2 ⟨rfl, hg2⟩
        exact And.intro (fun _ => And.intro trivial (next M2 hg2)) (fun h => absurd rfl h)
      · -- hears
        refine And.intro (vp 1 (by omega)) ?_
        refine And.intro (vp 2 (by omega)) ?_
        refine call_r (s_hears hg _ _) ?_
        rintro q M1 ⟨r, rfl, hf⟩
        refine And.intro (vp 1 (by omega)) ?_
        refine And.intro (vp 2 (by omega)) ?_
        refine call_r hf ?_
        rintro q2 M2 ⟨rfl, hg2⟩
        exact And.intro (fun _ => And.intro trivial (next M2 hg2)) (fun h => absurd rfl h)
      · -- forget
        refine call_r (s_forget hg) ?_
        rintro q M1 ⟨r, rfl, hf⟩
        refine call_r hf ?_
        rintro q2 M2 ⟨rfl, hg2⟩
        exact And.intro (fun _ => And.intro trivial (next M2 hg2)) (fun h => absurd rfl h)
      · -- which
        refine call_r (s_which hg) ?_
        rintro q M1 ⟨r, rfl, hf⟩
        refine call_r hf ?_
        rintro q2 M2 ⟨rfl, hg2⟩
        exact And.intro (fun _ => And.intro trivial (next M2 hg2)) (fun h => absurd rfl h)
      · -- rate
        refine And.intro (vp 1 (by omega)) ?_
        refine And.intro (vp 2 (by omega)) ?_
        refine call_r (s_rate hg _ _) ?_
        rintro q M1 ⟨r, rfl, hf⟩
        refine And.intro (vp 1 (by omega)) ?_
        refine And.intro (vp 2 (by omega)) ?_
        refine call_r hf ?_
        rintro q2 M2 ⟨rfl, hg2⟩
        exact And.intro (fun _ => And.intro trivial (next M2 hg2)) (fun h => absurd rfl h)
      · -- keep
        refine And.intro (vp 1 (by omega)) ?_
        refine call_r (s_keep hg _) ?_
        rintro q M1 ⟨r, rfl, hf⟩
        refine And.intro (vp 1 (by omega)) ?_
        refine call_r hf ?_
        rintro q2 M2 ⟨rfl, hg2⟩
        exact And.intro (fun _ => And.intro trivial (next M2 hg2)) (fun h => absurd rfl h)
      · -- back
        refine And.intro (vp 1 (by omega)) ?_
        refine call_r (s_back hg _) ?_
        rintro q M1 ⟨r, rfl, hf⟩
        refine And.intro (vp 1 (by omega)) ?_
        refine call_r hf ?_
        rintro q2 M2 ⟨rfl, hg2⟩
        exact And.intro (fun _ => And.intro trivial (next M2 hg2)) (fun h => absurd rfl h)
      · -- count
        refine And.intro (vp 1 (by omega)) ?_
        refine call_r (s_count hg _) ?_
        rintro q M1 ⟨r, rfl, hf⟩
        refine And.intro (vp 1 (by omega)) ?_
        refine call_r hf ?_
        rintro q2 M2 ⟨rfl, hg2⟩
        exact And.intro (fun _ => And.intro trivial (next M2 hg2)) (fun h => absurd rfl h)
      · -- trace
        refine call_r (s_trace hg) ?_
        rintro q M1 ⟨r, rfl, hf⟩
        refine call_r hf ?_
        rintro q2 M2 ⟨rfl, hg2⟩
        conv => whnf
        rw [lgc]
        exact And.intro (fun _ => And.intro trivial (next M2 hg2)) (fun h => absurd rfl h)
end LAW
