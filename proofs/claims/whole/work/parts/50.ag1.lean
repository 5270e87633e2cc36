-- agenda: the words, and the class
abbrev BS : Type := Int32 × Nat × (Nat → Nat)
/-- a row of c motions that is worth w is looked at -/
def lk (w : Int32) (c : Nat) (p : Nat → Nat) (s : BS) : BS := if s.1 < w ∨ (w = s.1 ∧ c < s.2.1) then (w, c, p) else s
theorem lk_t {w : Int32} {c : Nat} {p : Nat → Nat} {s : BS} (h : s.1 < w ∨ (w = s.1 ∧ c < s.2.1)) : lk w c p s = (w, c, p) := if_pos h
theorem lk_f {w : Int32} {c : Nat} {p : Nat → Nat} {s : BS} (h : ¬ (s.1 < w ∨ (w = s.1 ∧ c < s.2.1))) : lk w c p s = s := if_neg h
def inP (p : Nat → Nat) (c m : Nat) : Prop := ∃ k, k < c ∧ p k = m
def frA (M : WM) (b : Nat) (p : Nat → Nat) (c m : Nat) (dp : Int32) : Prop := (¬ inP p c m ∧ ¬ bt (wg M 43 1 ||| wg M 43 2) (nI m)) ∧ ¬ rn0 M m b zlo dp = nI 0
def itr (g : Nat → BS → BS) : Nat → Nat → BS → BS
  | 0, _, s => s
  | u + 1, m, s => itr g u (m + 1) (g m s)
noncomputable def agN (M : WM) (b : Nat) : Nat → Nat → (Nat → Nat) → Int32 → Int32 → BS → BS
  | 0, _, _, _, _, s => s
  | f + 1, c, p, dp, w, s => itr (fun m s => @ite BS (frA M b p c m dp) (Classical.propDecidable _) (agN M b f (c + 1) (up p c m) (rn0 M m b zlo dp) (w + wg M 41 (8 * m)) (lk (w + wg M 41 (8 * m)) (c + 1) (up p c m) s)) s) (nMo M) 0 s
noncomputable def agG (M : WM) (b f c : Nat) (p : Nat → Nat) (dp w : Int32) (m : Nat) (s : BS) : BS := @ite BS (frA M b p c m dp) (Classical.propDecidable _) (agN M b f (c + 1) (up p c m) (rn0 M m b zlo dp) (w + wg M 41 (8 * m)) (lk (w + wg M 41 (8 * m)) (c + 1) (up p c m) s)) s
theorem agG_t {M : WM} {b f c m : Nat} {p : Nat → Nat} {dp w : Int32} {s : BS} (h : frA M b p c m dp) : agG M b f c p dp w m s = agN M b f (c + 1) (up p c m) (rn0 M m b zlo dp) (w + wg M 41 (8 * m)) (lk (w + wg M 41 (8 * m)) (c + 1) (up p c m) s) := by unfold agG; rw [if_pos h]
theorem agG_f {M : WM} {b f c m : Nat} {p : Nat → Nat} {dp w : Int32} {s : BS} (h : ¬ frA M b p c m dp) : agG M b f c p dp w m s = s := by unfold agG; rw [if_neg h]
theorem agN_s (M : WM) (b f c : Nat) (p : Nat → Nat) (dp w : Int32) (s : BS) : agN M b (f + 1) c p dp w s = itr (agG M b f c p dp w) (nMo M) 0 s := rfl
def BsC (N : WM) (s : BS) : Prop := wg N 9 3 = s.1 ∧ wg N 9 4 = nI s.2.1 ∧ s.2.1 ≤ 5 ∧ ∀ k, k < s.2.1 → wg N 34 k = nI (s.2.2 k)
theorem tk_or : ∀ t, t < 32 → ∀ m, m < 5 → nI t ||| nI 1 <<< (nI m &&& 31) = nI (t ||| 2 ^ m) ∧ (t ||| 2 ^ m) < 32 := by decide +kernel
theorem tk_bit : ∀ t, t < 32 → ∀ m, m < 5 → ∀ i, i < 5 → (nI (t ||| 2 ^ m) >>> (nI i &&& 31)) &&& nI 1 = if i = m then nI 1 else (nI t >>> (nI i &&& 31)) &&& nI 1 := by decide +kernel
def TkOK (t : Nat) (p : Nat → Nat) (c : Nat) : Prop := t < 32 ∧ ∀ m, m < 5 → ((nI t >>> (nI m &&& 31)) &&& nI 1 = nI 0 ↔ ¬ inP p c m)
theorem inP_up {p : Nat → Nat} {c m i : Nat} : inP (up p c m) (c + 1) i ↔ i = m ∨ inP p c i := by
  constructor
  · rintro ⟨k, hk, e⟩
    by_cases h : k = c
    · rw [h, up_t] at e; exact Or.inl e.symm
    · rw [up_f _ _ h] at e; exact Or.inr ⟨k, by omega, e⟩
  · rintro (h | ⟨k, hk, e⟩)
    · exact ⟨c, by omega, by rw [up_t]; exact h.symm⟩
    · exact ⟨k, by omega, by rw [up_f _ _ (by omega)]; exact e⟩
theorem TkOK.up_ {t c m : Nat} {p : Nat → Nat} (h : TkOK t p c) (hm : m < 5) : TkOK (t ||| 2 ^ m) (up p c m) (c + 1) := by
  refine ⟨(tk_or t h.1 m hm).2, fun i hi => ?_⟩
  rw [tk_bit t h.1 m hm i hi, inP_up]
  by_cases e : i = m
  · rw [if_pos e]
    exact ⟨fun q => absurd q n10, fun q => absurd (Or.inl e) q⟩
  · rw [if_neg e, h.2 i hi]
    exact ⟨fun q z => z.elim e q, fun q z => q (Or.inr z)⟩
section AGC
variable {G : GG} {d : Nat} {M : WM}
theorem c_takeRow (x : Int32) (y : Int32) : Fn G d 71 [.ref 9, .int x, .int y] M none (wcpy (wset (wset M 9 3 x) 9 4 y) 35 34 0 0 5) := by
  refine Fn_of okc_X7_takeRow [] ?_
  exact And.intro (by decide) (And.intro rfl rfl)
theorem Cs.cpy {N : WM} (hc : Cs M N) : Cs M (wcpy N 35 34 0 0 5) := by
  refine hc.tr ⟨fun i hi => ?_, rfl⟩
  funext k
  rw [wg_cpy, if_neg (fun q => by rw [q] at hi; cases hi)]
theorem BsC.tk {N : WM} {c : Nat} {p : Nat → Nat} (w : Int32) (hc5 : c ≤ 5) (hp : ∀ k, k < c → wg N 35 k = nI (p k)) : BsC (wcpy (wset (wset N 9 3 w) 9 4 (nI c)) 35 34 0 0 5) (w, c, p) := by
  refine ⟨rfl, rfl, hc5, fun k hk => ?_⟩
  have hk : k < c := hk
  rw [wg_cpy, if_pos rfl, if_pos ⟨Nat.zero_le k, by omega⟩, Nat.zero_add, Nat.sub_zero]
  exact hp k hk
def RfP (M : WM) (p : Nat → Nat) (c : Nat) (s : BS) : Option Value → WM → Prop := fun q N => q = none ∧ Cs M N ∧ BsC N s ∧ ∀ k, k < c → wg N 35 k = nI (p k)
set_option maxHeartbeats 400000 in
theorem lp_rf (hG : Good M) {b c f D t : Nat} {p : Nat → Nat} {dp w : Int32} (hb : b < nB M) (hcf : c + (f + 1) = 5) (hD : 6 ≤ D) (ht : TkOK t p c) (hdp : ∃ j, j ≤ 9 ∧ dp = nI j)
    (hrec : ∀ (t' : Nat) (p' : Nat → Nat) (dp' w' : Int32) (s : BS) (N' : WM), TkOK t' p' (c + 1) → (∃ j, j ≤ 9 ∧ dp' = nI j) → Cs M N' → BsC N' s → (∀ k, k < c + 1 → wg N' 35 k = nI (p' k)) →
      Fr G D 70 [.ref 9, .int (nI b), .int (nI (c + 1)), .int (nI t'), .int dp', .int w'] N' (RfP M p' (c + 1) (agN M b f (c + 1) p' dp' w' (lk w' (c + 1) p' s)))) :
    ∀ (u m : Nat) (N : WM) (s : BS) (z7 z8 : Option Value), m + u = nMo M → Cs M N → BsC N s → (∀ k, k < c → wg N 35 k = nI (p k)) →
    A G (D + 1) 70 42 [some (.ref 9), some (.int (nI b)), some (.int (nI c)), some (.int (nI t)), some (.int dp), some (.int w), some (.int (nI m)), z7, z8] [] N (RfP M p c (itr (agG M b f c p dp w) u m s))
  | 0, m, N, s, z7, z8, hm, hcs, hbs, hp => by
    have hM := hG.m
    have e11 := hcs.w11 hG
    refine A_wp okc_X7_readFrom [42] ?_
    conv => whnf
    rw [e11]
    refine And.intro (fun _ => ?_) (fun h => absurd (nI_le (by omega) (by omega)) h)
    exact ⟨rfl, hcs, hbs, hp⟩
  | u + 1, m, N, s, z7, z8, hm, hcs, hbs, hp => by
    have hM := hG.m
    have hm2 : m < nMo M := by omega
    have e11 := hcs.w11 hG
    have e9 : wg N 30 9 = wg M 43 1 := by rw [hcs.1 30 rfl]; exact hG.rcar
    have e10 : wg N 30 10 = wg M 43 2 := by rw [hcs.1 30 rfl]; exact hG.rlos
    have hop : (¬ bt (wg M 43 1) (nI m) ∧ ¬ bt (wg M 43 2) (nI m)) ↔ ¬ bt (wg M 43 1 ||| wg M 43 2) (nI m) := by
      rw [bt_or hG.1 (show m < 5 by omega)]
      exact ⟨fun h q => q.elim h.1 h.2, fun h => ⟨fun q => h (Or.inl q), fun q => h (Or.inr q)⟩⟩
    have skip : ¬ frA M b p c m dp → ∀ z7 z8, A G (D + 1) 70 42 [some (.ref 9), some (.int (nI b)), some (.int (nI c)), some (.int (nI t)), some (.int dp), some (.int w), some (.int (nI m + nI 1)), z7, z8] [] N (RfP M p c (itr (agG M b f c p dp w) (u + 1) m s)) := by
      intro hf z7 z8
      have ih := lp_rf (w := w) hG hb hcf hD ht hdp hrec u (m + 1) N s z7 z8 (by omega) hcs hbs hp
      rw [← nI_add m 1] at ih
      show A _ _ _ _ _ _ _ (RfP M p c (itr (agG M b f c p dp w) u (m + 1) (agG M b f c p dp w m s)))
      rw [agG_f hf]
      exact ih
    refine A_wp okc_X7_readFrom [42] ?_
    conv => whnf
    rw [e11]
    refine And.intro (fun h => absurd h (nI_ge (by omega) (by omega))) (fun _ => ?_)
    refine And.intro (fun h => ?_) (fun h => ?_)
    · rw [ht.2 m (by omega), Classical.not_not] at h
      refine And.intro (fun _ => ?_) (fun q => absurd rfl q)
      refine And.intro (fun _ => ?_) (fun q => absurd (show nI 0 ≤ nI 0 by decide) q)
      exact And.intro trivial (skip (fun q => q.1.1 h) _ _)
    · rw [ht.2 m (by omega)] at h
      obtain ⟨D', rfl⟩ : ∃ D', D = D' + 6 := ⟨D - 6, by omega⟩
      refine call_k (c_isOpen _) ?_
      rw [e9, e10, bI_iff hop]
      refine And.intro (fun h1 => ?_) (fun h1 => ?_)
      · rw [bI_0, Classical.not_not] at h1
        refine And.intro (fun _ => ?_) (fun q => absurd rfl q)
        refine And.intro (fun _ => ?_) (fun q => absurd (show nI 0 ≤ nI 0 by decide) q)
        exact And.intro trivial (skip (fun q => q.1.2 h1) _ _)
      · rw [bI_0, Classical.not_not] at h1
        refine And.intro (fun q => absurd q n10) (fun _ => ?_)
        have hda := c_depthAfter (G := G) (d := D' + 1) (hcs.Good_ hG) (m := m) (b := b) (by rw [hcs.nMo_]; exact hm2) (by rw [hcs.nB_]; exact hb) dp hdp
        rw [hcs.rn0_] at hda
        refine call_k hda ?_
        have hrn := rn0_n (M := M) (m := m) (b := b) (lo := zlo) hdp
        refine And.intro (fun h2 => ?_) (fun h2 => ?_)
        · rw [le0_n hrn] at h2
          exact And.intro trivial (skip (fun q => q.2 h2) _ _)
        · rw [le0_n hrn] at h2
          have hf : frA M b p c m dp := ⟨⟨h, h1⟩, h2⟩
          refine And.intro (vp_in_nI (by omega) (by decide)) ?_
          rw [nI_clamp (n := c) (by omega)]
          have hcs2 : Cs M (wset N 35 c (nI m)) := hcs.tr (Cs.set rfl)
          have e14 : wg (wset N 35 c (nI m)) 14 m = wg M 41 (8 * m) := by rw [wg_ne1 (by omega), hcs.1 14 rfl]; exact (hG.mo hm2).1
          refine call_k (c_worth (hcs2.w11 hG) hM.2 hm2) ?_
          rw [e14]
          conv => whnf
          rw [nI_add c 1, (tk_or t ht.1 m (by omega)).1]
          refine call_r (hrec (t ||| 2 ^ m) (up p c m) (rn0 M m b zlo dp) (w + wg M 41 (8 * m)) s (wset N 35 c (nI m)) (ht.up_ (by omega)) hrn hcs2 hbs (fun k hk => by
            by_cases e : k = c
            · rw [e, wg_same, up_t]
            · rw [wg_ne2 e, up_f _ _ e]; exact hp k (by omega))) ?_
          rintro r N2 ⟨rfl, hcs3, hbs3, hp3⟩
          have ih := lp_rf (w := w) hG hb hcf hD ht hdp hrec u (m + 1) N2 _ (some (.int (nI 1))) (some (.int (rn0 M m b zlo dp))) (by omega) hcs3 hbs3 (fun k hk => by
            rw [hp3 k (by omega), up_f _ _ (by omega)])
          rw [← nI_add m 1] at ih
          refine And.intro trivial ?_
          show A _ _ _ _ _ _ _ (RfP M p c (itr (agG M b f c p dp w) u (m + 1) (agG M b f c p dp w m s)))
          rw [agG_t hf]
          exact ih
set_option maxHeartbeats 400000 in
theorem c_readFrom (hG : Good M) {b : Nat} (hb : b < nB M) : ∀ (f c D t : Nat) (p : Nat → Nat) (dp w : Int32) (s : BS) (N : WM), c + f = 5 → f + 7 ≤ D → TkOK t p c → (∃ j, j ≤ 9 ∧ dp = nI j) → Cs M N → BsC N s → (∀ k, k < c → wg N 35 k = nI (p k)) →
      Fr G D 70 [.ref 9, .int (nI b), .int (nI c), .int (nI t), .int dp, .int w] N (RfP M p c (agN M b f c p dp w (lk w c p s))) := by
  intro f
  induction f with
  | zero =>
    intro c D t p dp w s N hcf hD ht hdp hcs hbs hp
    have fin : ∀ N2, Cs M N2 → BsC N2 (lk w c p s) → (∀ k, k < c → wg N2 35 k = nI (p k)) → A G D 70 33 [some (.ref 9), some (.int (nI b)), some (.int (nI c)), some (.int (nI t)), some (.int dp), some (.int w), none, none, none] [] N2 (RfP M p c (agN M b 0 c p dp w (lk w c p s))) := by
      intro N2 h1 h2 h3
      refine A_wp okc_X7_readFrom [] ?_
      refine And.intro (fun h => absurd h (nI_nlt (by omega) (by omega))) (fun _ => ?_)
      exact ⟨rfl, h1, h2, h3⟩
    obtain ⟨D', rfl⟩ : ∃ D', D = D' + 1 := ⟨D - 1, by omega⟩
    have tk := And.intro ((((hcs.tr (Cs.set (i := 9) (k := 3) (v := w) rfl)).tr (Cs.set (i := 9) (k := 4) (v := nI c) rfl))).cpy) (BsC.tk w (by omega) hp)
    have tp : ∀ k, k < c → wg (wcpy (wset (wset N 9 3 w) 9 4 (nI c)) 35 34 0 0 5) 35 k = nI (p k) := fun k hk => hp k hk
    refine Fr_of okc_X7_readFrom [33] ?_
    conv => whnf
    rw [hbs.1]
    refine And.intro (fun h => ?_) (fun h => ?_)
    · rw [lk_t (Or.inl h)] at fin ⊢
      refine call_k (c_takeRow _ _) ?_
      exact And.intro trivial (fin _ tk.1 tk.2 tp)
    · conv => whnf
      rw [hbs.1]
      refine And.intro (fun h1 => ?_) (fun h1 => ?_)
      · rw [lk_f (fun q => q.elim h (fun z => h1 z.1))] at fin ⊢
        exact And.intro trivial (fin N hcs hbs hp)
      · conv => whnf
        rw [hbs.2.1]
        have hb5 := hbs.2.2.1
        refine And.intro (fun h2 => ?_) (fun h2 => ?_)
        · rw [nI_leI (by omega) (by omega)] at h2
          rw [lk_f (fun q => q.elim h (fun z => by have := z.2; omega))] at fin ⊢
          exact And.intro trivial (fin N hcs hbs hp)
        · rw [nI_leI (by omega) (by omega)] at h2
          rw [lk_t (Or.inr ⟨h1, by omega⟩)] at fin ⊢
          refine call_k (c_takeRow _ _) ?_
          exact And.intro trivial (fin _ tk.1 tk.2 tp)
  | succ f IH =>
    intro c D t p dp w s N hcf hD ht hdp hcs hbs hp
    obtain ⟨D', rfl⟩ : ∃ D', D = D' + 1 := ⟨D - 1, by omega⟩
    have fin : ∀ N2, Cs M N2 → BsC N2 (lk w c p s) → (∀ k, k < c → wg N2 35 k = nI (p k)) → A G (D' + 1) 70 33 [some (.ref 9), some (.int (nI b)), some (.int (nI c)), some (.int (nI t)), some (.int dp), some (.int w), none, none, none] [] N2 (RfP M p c (agN M b (f + 1) c p dp w (lk w c p s))) := by
      intro N2 h1 h2 h3
      refine A_wp okc_X7_readFrom [42] ?_
      refine And.intro (fun _ => ?_) (fun h => absurd (nI_lt (by omega) (by omega)) h)
      refine And.intro trivial ?_
      rw [agN_s]
      exact lp_rf hG hb hcf (by omega) ht hdp (fun t' p' dp' w' s' N' a1 a2 a3 a4 a5 => IH (c + 1) D' t' p' dp' w' s' N' (by omega) (by omega) a1 a2 a3 a4 a5) (nMo M) 0 N2 _ none none (by omega) h1 h2 h3
    have tk := And.intro ((((hcs.tr (Cs.set (i := 9) (k := 3) (v := w) rfl)).tr (Cs.set (i := 9) (k := 4) (v := nI c) rfl))).cpy) (BsC.tk w (by omega) hp)
    have tp : ∀ k, k < c → wg (wcpy (wset (wset N 9 3 w) 9 4 (nI c)) 35 34 0 0 5) 35 k = nI (p k) := fun k hk => hp k hk
    refine Fr_of okc_X7_readFrom [33] ?_
    conv => whnf
    rw [hbs.1]
    refine And.intro (fun h => ?_) (fun h => ?_)
    · rw [lk_t (Or.inl h)] at fin ⊢
      refine call_k (c_takeRow _ _) ?_
      exact And.intro trivial (fin _ tk.1 tk.2 tp)
    · conv => whnf
      rw [hbs.1]
      refine And.intro (fun h1 => ?_) (fun h1 => ?_)
      · rw [lk_f (fun q => q.elim h (fun z => h1 z.1))] at fin ⊢
        exact And.intro trivial (fin N hcs hbs hp)
      · conv => whnf
        rw [hbs.2.1]
        have hb5 := hbs.2.2.1
        refine And.intro (fun h2 => ?_) (fun h2 => ?_)
        · rw [nI_leI (by omega) (by omega)] at h2
          rw [lk_f (fun q => q.elim h (fun z => by have := z.2; omega))] at fin ⊢
          exact And.intro trivial (fin N hcs hbs hp)
        · rw [nI_leI (by omega) (by omega)] at h2
          rw [lk_t (Or.inr ⟨h1, by omega⟩)] at fin ⊢
          refine call_k (c_takeRow _ _) ?_
          exact And.intro trivial (fin _ tk.1 tk.2 tp)
end AGC
