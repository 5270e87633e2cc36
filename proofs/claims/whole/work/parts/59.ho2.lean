-- house: the class's reading of letters; what a house holds
def TxC (N : WM) (L : Nat) (x : Nat → Nat) : Prop := wg N 3 0 = nI L ∧ L ≤ 200 ∧ (∀ k, k < L → wg N 28 k = nI (x k)) ∧ ∀ k, k < L → x k ≤ 255
noncomputable def dgI (L : Nat) (x : Nat → Nat) (k : Nat) : Int32 := itc (isD L x k) (nI (chr L x k - 48)) (mI 1)
theorem mI1_ne (k : Nat) (h : k < 2 ^ 31) : ¬ nI k = mI 1 := by
  intro q
  have := congrArg Int32.toInt q
  rw [nI_toInt h, show (mI 1).toInt = -1 from rfl] at this
  omega
theorem dgI_t {L : Nat} {x : Nat → Nat} {k : Nat} (h : isD L x k) : dgI L x k = nI (chr L x k - 48) := itc_t h
theorem dgI_f {L : Nat} {x : Nat → Nat} {k : Nat} (h : ¬ isD L x k) : dgI L x k = mI 1 := itc_f h
theorem dgI_m1 {L : Nat} {x : Nat → Nat} {k : Nat} : dgI L x k = mI 1 ↔ ¬ isD L x k := by
  rcases Classical.em (isD L x k) with h | h
  · rw [dgI_t h]
    exact ⟨fun q => absurd q (mI1_ne _ (by have := h.2; omega)), fun q => absurd h q⟩
  · rw [dgI_f h]
    exact ⟨fun _ => h, fun _ => rfl⟩
noncomputable def nbI (o : Option Nat) : Int32 := match o with
  | none => mI 1
  | some v => nI v
section TEL
variable {G : GG} {d : Nat} {N : WM} {L : Nat} {x : Nat → Nat}
theorem c_letterAt (hT : TxC N L x) {k : Nat} (hk : k < 2 ^ 30) : Fn G d 74 [.ref 3, .int (nI k)] N (some (.int (nI (chr L x k)))) N := by
  refine Fn_of okc_X8_letterAt [] ?_
  have h2 := hT.2.1
  refine And.intro (fun h => absurd h (nI_nlt (Nat.zero_le _) (by omega))) (fun _ => ?_)
  conv => whnf
  rw [hT.1]
  unfold chr
  refine And.intro (fun h => ?_) (fun h => ?_)
  · rw [nI_leI (by omega) (by omega)] at h
    rw [if_neg (by omega)]
    exact And.intro rfl rfl
  · rw [nI_leI (by omega) (by omega)] at h
    refine And.intro (fun h => absurd h (nI_ge (by omega) (by omega))) (fun _ => ?_)
    refine And.intro (vp_in_nI (by omega) (by decide)) ?_
    rw [nI_clamp (n := k) (by omega), hT.2.2.1 k (by omega), if_pos (by omega)]
    exact And.intro rfl rfl
theorem c_letterAtM : Fn G d 74 [.ref 3, .int (mI 1)] N (some (.int (nI 32))) N := by
  refine Fn_of okc_X8_letterAt [] ?_
  refine And.intro (fun _ => ?_) (fun h => absurd (by decide) h)
  exact And.intro rfl rfl
theorem c_digitAt (hT : TxC N L x) {k : Nat} (hk : k < 2 ^ 30) : Fn G (d + 1) 75 [.ref 3, .int (nI k)] N (some (.int (dgI L x k))) N := by
  have h255 := chr_le hT.2.2.2 k
  refine Fn_of okc_X8_digitAt [] ?_
  refine call_k (c_letterAt hT hk) ?_
  refine And.intro (fun h => ?_) (fun h => ?_)
  · rw [nI_ltI (by omega) (by omega)] at h
    exact ret_i (dgI_f (fun q => by have := q.1; omega)).symm
  · rw [nI_ltI (by omega) (by omega)] at h
    refine And.intro (fun h1 => ?_) (fun h1 => ?_)
    · rw [nI_ltI (by omega) (by omega)] at h1
      exact ret_i (dgI_f (fun q => by have := q.2; omega)).symm
    · rw [nI_ltI (by omega) (by omega)] at h1
      refine ret_i ?_
      rw [dgI_t ⟨by omega, by omega⟩]
      exact nIs (by omega)
theorem c_digitAtM : Fn G (d + 1) 75 [.ref 3, .int (mI 1)] N (some (.int (mI 1))) N := by
  refine Fn_of okc_X8_digitAt [] ?_
  refine call_k c_letterAtM ?_
  refine And.intro (fun _ => ?_) (fun h => absurd (by decide) h)
  exact And.intro rfl rfl
theorem bt_45 (hT : TxC N L x) {k : Nat} (hk : k < 2 ^ 29) {w : Prop} (hb : beg L x k ↔ ¬ chr L x k = 32 ∧ ¬ w) : A G (d + 2) 76 25 [some (.ref 3), some (.int (nI k)), none] [.int (bI w)] N (fun r M2 => r = some (.int (bI (beg L x k))) ∧ M2 = N) := by
  have h255 := chr_le hT.2.2.2 k
  refine A_wp okc_X8_beginsToken [] ?_
  refine call_k (c_letterAt hT (by omega)) ?_
  refine And.intro (fun h => ?_) (fun h => ?_)
  · rw [nI_eq (by omega) (by omega)] at h
    exact And.intro isB_0 (ret_i (bI_f (fun q => (hb.mp q).1 h)).symm)
  · rw [nI_eq (by omega) (by omega)] at h
    refine And.intro (fun h1 => ?_) (fun h1 => ?_)
    · rw [bI_0, Classical.not_not] at h1
      exact And.intro isB_0 (ret_i (bI_f (fun q => (hb.mp q).2 h1)).symm)
    · rw [bI_0] at h1
      exact And.intro isB_1 (ret_i (bI_t (hb.mpr ⟨h, h1⟩)).symm)
theorem c_beginsToken (hT : TxC N L x) {k : Nat} (hk : k < 2 ^ 29) : Fn G (d + 2) 76 [.ref 3, .int (nI k)] N (some (.int (bI (beg L x k)))) N := by
  have no : ∀ {w : Prop}, ¬ w → bI w = nI 0 := fun h => bI_f h
  refine Fn_of okc_X8_beginsToken [25] ?_
  refine call_k (c_digitAt hT (by omega)) ?_
  refine And.intro (fun h => ?_) (fun h => ?_)
  · rw [dgI_m1] at h
    have f := bt_45 (G := G) (d := d) hT hk (w := False) ⟨fun q => ⟨q.1, fun z => z⟩, fun q => ⟨q.1, fun z => h z.1⟩⟩
    rw [bI_f (fun z => z)] at f
    exact And.intro trivial f
  · rw [dgI_m1, Classical.not_not] at h
    rcases Nat.eq_zero_or_pos k with hk0 | hk0
    · subst hk0
      conv => whnf
      rw [show nI 0 - nI 1 = mI 1 from by decide]
      refine call_k c_digitAtM ?_
      refine And.intro (fun _ => ?_) (fun q => absurd rfl q)
      have f := bt_45 (G := G) (d := d) hT hk (w := False) ⟨fun q => ⟨q.1, fun z => z⟩, fun q => ⟨q.1, fun z => absurd z.2.1 (by omega)⟩⟩
      rw [bI_f (fun z => z)] at f
      exact And.intro trivial f
    · conv => whnf
      rw [nIs (show 1 ≤ k by omega)]
      refine call_k (c_digitAt hT (by omega)) ?_
      refine And.intro (fun h1 => ?_) (fun h1 => ?_)
      · rw [dgI_m1] at h1
        have f := bt_45 (G := G) (d := d) hT hk (w := False) ⟨fun q => ⟨q.1, fun z => z⟩, fun q => ⟨q.1, fun z => h1 z.2.2⟩⟩
        rw [bI_f (fun z => z)] at f
        exact And.intro trivial f
      · rw [dgI_m1, Classical.not_not] at h1
        have f := bt_45 (G := G) (d := d) hT hk (w := True) ⟨fun q => absurd ⟨h, hk0, h1⟩ q.2, fun q => absurd trivial q.2⟩
        rw [bI_t trivial] at f
        exact And.intro trivial f
theorem c_numberAt (hT : TxC N L x) {k : Nat} (hk : k < 2 ^ 29) (hd : isD L x k) : Fn G (d + 2) 77 [.ref 3, .int (nI k)] N (some (.int (nbI (nmb L x k)))) N := by
  have h2 := hd.2
  unfold nmb
  refine Fn_of okc_X8_numberAt [] ?_
  refine call_k (c_digitAt hT (by omega)) ?_
  rw [dgI_t hd]
  conv => whnf
  rw [nI_add k 1]
  refine call_k (c_digitAt hT (by omega)) ?_
  refine And.intro (fun h => ?_) (fun h => ?_)
  · rw [dgI_m1, Classical.not_not] at h
    rw [itc_f (fun q => q h)]
    refine And.intro (fun h1 => ?_) (fun h1 => ?_)
    · rw [nI_eq (by omega) (by omega)] at h1
      rw [itc_t (Or.inl (by have := hd.1; omega))]
      exact And.intro rfl rfl
    · rw [nI_eq (by omega) (by omega)] at h1
      conv => whnf
      rw [nI_add k 2]
      refine call_k (c_digitAt hT (by omega)) ?_
      refine And.intro (fun h3 => ?_) (fun h3 => ?_)
      · rw [dgI_m1] at h3
        rw [itc_f (fun q => q.elim (fun z => h1 (by omega)) h3)]
        refine ret_i ?_
        rw [dgI_t h, pk_mul, nI_add]
        rfl
      · rw [dgI_m1, Classical.not_not] at h3
        rw [itc_t (Or.inr h3)]
        exact And.intro rfl rfl
  · rw [dgI_m1] at h
    rw [itc_t h]
    exact And.intro rfl rfl
end TEL
def HsC (N : WM) (h a : Nat) (s : Hs) : Prop := (wg N h 0 = nI s.1 ∧ wg N h 1 = nI s.2.1 ∧ wg N h 2 = nI s.2.2.1) ∧
  (∀ w, w < s.1 → wg N a w = nI (s.2.2.2 0 w) ∧ wg N (a + 1) w = nI (s.2.2.2 1 w)) ∧
  (∀ m, m < s.2.1 → wg N (a + 2) m = nI (s.2.2.2 2 m) ∧ wg N (a + 3) m = nI (s.2.2.2 3 m) ∧ ∀ k, k < s.2.2.2 3 m → wg N (a + 4) (6 * m + k) = nI (s.2.2.2 4 (6 * m + k))) ∧
  (∀ b, b < s.2.2.1 → wg N (a + 5) b = nI (s.2.2.2 5 b) ∧ wg N (a + 6) b = nI (s.2.2.2 6 b) ∧ wg N (a + 7) b = nI (s.2.2.2 7 b))
def TcS (N : WM) (h a : Nat) (s : Sg) : Prop := wg N 3 3 = nI s.1 ∧ wg N 3 4 = nI s.2.1 ∧ (∀ i, i < s.2.1 → wg N 29 i = nI (s.2.2.1 i)) ∧ HsC N h a s.2.2.2
def Ch (h a : Nat) (M N : WM) : Prop := (∀ i, i ≠ 3 → i ≠ 29 → i ≠ h → (i < a ∨ a + 8 ≤ i) → wg N i = wg M i) ∧ wg N 3 0 = wg M 3 0 ∧ N.2 = M.2
def Hok (h a : Nat) : Prop := (h = 1 ∧ a = 12) ∨ (h = 2 ∧ a = 20)
section CHX
variable {h a : Nat} {M N N2 : WM}
theorem Ch.rf (h a : Nat) (M : WM) : Ch h a M M := ⟨fun _ _ _ _ _ => rfl, rfl, rfl⟩
theorem Ch.tr (c : Ch h a M N) (c2 : Ch h a N N2) : Ch h a M N2 := ⟨fun i a1 a2 a3 a4 => (c2.1 i a1 a2 a3 a4).trans (c.1 i a1 a2 a3 a4), c2.2.1.trans c.2.1, c2.2.2.trans c.2.2⟩
theorem Ch.set_ (c : Ch h a M N) {j k : Nat} {v : Int32} (hj : j ≠ 3) (hj2 : j = 29 ∨ j = h ∨ (a ≤ j ∧ j < a + 8)) : Ch h a M (wset N j k v) :=
  ⟨fun i a1 a2 a3 a4 => (wg_row_ne (by omega)).trans (c.1 i a1 a2 a3 a4), (wg_ne1 (by omega)).trans c.2.1, c.2.2⟩
theorem Ch.set3 (c : Ch h a M N) {k : Nat} {v : Int32} (hk : 0 ≠ k) : Ch h a M (wset N 3 k v) :=
  ⟨fun i a1 a2 a3 a4 => (wg_row_ne a1).trans (c.1 i a1 a2 a3 a4), (wg_ne2 hk).trans c.2.1, c.2.2⟩
theorem Ch.cpy (c : Ch h a M N) (ho : Hok h a) {s q n : Nat} : Ch h a M (wcpy N 29 (a + 4) s q n) := by
  have e : ∀ i, i ≠ a + 4 → wg (wcpy N 29 (a + 4) s q n) i = wg N i := fun i hi => by
    funext k
    rw [wg_cpy, if_neg hi]
  exact ⟨fun i a1 a2 a3 a4 => (e i (by omega)).trans (c.1 i a1 a2 a3 a4), by rw [e 3 (by rcases ho with z | z <;> omega)]; exact c.2.1, c.2.2⟩
theorem Ch.tx (c : Ch h a M N) (ho : Hok h a) {L : Nat} {x : Nat → Nat} (t : TxC M L x) : TxC N L x := by
  refine ⟨c.2.1.trans t.1, t.2.1, fun k hk => ?_, t.2.2.2⟩
  rw [c.1 28 (by omega) (by omega) (by rcases ho with z | z <;> omega) (by rcases ho with z | z <;> omega)]
  exact t.2.2.1 k hk
theorem HsC.cg {s : Hs} (q : HsC M h a s) (e0 : wg N h = wg M h) (e : ∀ i, i < 8 → wg N (a + i) = wg M (a + i)) : HsC N h a s := by
  obtain ⟨q1, q2, q3, q4⟩ := q
  refine ⟨by rw [e0]; exact q1, fun w hw => ?_, fun m hm => ?_, fun b hb => ?_⟩
  · have e00 := e 0 (by omega)
    rw [Nat.add_zero] at e00
    rw [e00, e 1 (by omega)]; exact q2 w hw
  · rw [e 2 (by omega), e 3 (by omega), e 4 (by omega)]; exact q3 m hm
  · rw [e 5 (by omega), e 6 (by omega), e 7 (by omega)]; exact q4 b hb
theorem HsC.w (ho : Hok h a) {s : Hs} (q : HsC N h a s) {l u : Nat} : HsC (wset (wset (wset N a s.1 (nI l)) (a + 1) s.1 (nI u)) h 0 (nI (s.1 + 1))) h a (addW s l u) := by
  have hh : h ≠ a ∧ ∀ i, i < 8 → a + i ≠ h := ⟨by rcases ho with z | z <;> omega, fun i hi => by rcases ho with z | z <;> omega⟩
  obtain ⟨⟨q0, q1, q2⟩, qw, qm, qb⟩ := q
  have o : ∀ i, 2 ≤ i → i < 8 → wg (wset (wset (wset N a s.1 (nI l)) (a + 1) s.1 (nI u)) h 0 (nI (s.1 + 1))) (a + i) = wg N (a + i) := fun i h2 h8 => by
    rw [wg_row_ne (hh.2 i h8), wg_row_ne (by omega), wg_row_ne (by omega)]
  have f : ∀ k i, 2 ≤ k → (addW s l u).2.2.2 k i = s.2.2.2 k i := fun k i hk => by
    show (if k = 0 ∧ i = s.1 then l else if k = 1 ∧ i = s.1 then u else s.2.2.2 k i) = _
    rw [if_neg (by omega), if_neg (by omega)]
  refine ⟨⟨wg_same _ _ _ _, ?_, ?_⟩, fun w hw => ⟨?_, ?_⟩, fun m hm => ?_, fun b hb => ?_⟩
  · rw [wg_ne2 (by omega), wg_ne1 (by have := hh.2 1 (by omega); omega), wg_ne1 hh.1]; exact q1
  · rw [wg_ne2 (by omega), wg_ne1 (by have := hh.2 1 (by omega); omega), wg_ne1 hh.1]; exact q2
  · have hw : w < s.1 + 1 := hw
    rw [wg_ne1 (fun z => hh.1 z.symm), wg_ne1 (by omega)]
    show _ = nI (if 0 = 0 ∧ w = s.1 then l else if 0 = 1 ∧ w = s.1 then u else s.2.2.2 0 w)
    by_cases e : w = s.1
    · rw [e, wg_same, if_pos ⟨rfl, rfl⟩]
    · rw [wg_ne2 e, if_neg (by omega), if_neg (by omega)]; exact (qw w (by omega)).1
  · have hw : w < s.1 + 1 := hw
    rw [wg_ne1 (hh.2 1 (by omega))]
    show _ = nI (if 1 = 0 ∧ w = s.1 then l else if 1 = 1 ∧ w = s.1 then u else s.2.2.2 1 w)
    by_cases e : w = s.1
    · rw [e, wg_same, if_neg (by omega), if_pos ⟨rfl, rfl⟩]
    · rw [wg_ne2 e, wg_ne1 (by omega), if_neg (by omega), if_neg (by omega)]; exact (qw w (by omega)).2
  · rw [o 2 (by omega) (by omega), o 3 (by omega) (by omega), o 4 (by omega) (by omega), f 2 m (by omega), f 3 m (by omega)]
    refine ⟨(qm m hm).1, (qm m hm).2.1, fun k hk => ?_⟩
    rw [f 4 _ (by omega)]; exact (qm m hm).2.2 k hk
  · rw [o 5 (by omega) (by omega), o 6 (by omega) (by omega), o 7 (by omega) (by omega), f 5 b (by omega), f 6 b (by omega), f 7 b (by omega)]
    exact qb b hb
theorem HsC.b (ho : Hok h a) {s : Hs} (q : HsC N h a s) {l u v : Nat} : HsC (wset (wset (wset (wset N (a + 5) s.2.2.1 (nI l)) (a + 6) s.2.2.1 (nI u)) (a + 7) s.2.2.1 (nI v)) h 2 (nI (s.2.2.1 + 1))) h a (addB s l u v) := by
  have hh : h ≠ a ∧ ∀ i, i < 8 → a + i ≠ h := ⟨by rcases ho with z | z <;> omega, fun i hi => by rcases ho with z | z <;> omega⟩
  have h5 := hh.2 5 (by omega)
  have h6 := hh.2 6 (by omega)
  have h7 := hh.2 7 (by omega)
  obtain ⟨⟨q0, q1, q2⟩, qw, qm, qb⟩ := q
  have o : ∀ i, i < 5 → wg (wset (wset (wset (wset N (a + 5) s.2.2.1 (nI l)) (a + 6) s.2.2.1 (nI u)) (a + 7) s.2.2.1 (nI v)) h 2 (nI (s.2.2.1 + 1))) (a + i) = wg N (a + i) := fun i h8 => by
    rw [wg_row_ne (hh.2 i (by omega)), wg_row_ne (by omega), wg_row_ne (by omega), wg_row_ne (by omega)]
  have f : ∀ k i, k < 5 → (addB s l u v).2.2.2 k i = s.2.2.2 k i := fun k i hk => by
    show (if k = 5 ∧ i = s.2.2.1 then l else if k = 6 ∧ i = s.2.2.1 then u else if k = 7 ∧ i = s.2.2.1 then v else s.2.2.2 k i) = _
    rw [if_neg (by omega), if_neg (by omega), if_neg (by omega)]
  refine ⟨⟨?_, ?_, wg_same _ _ _ _⟩, fun w hw => ?_, fun m hm => ?_, fun b hb => ?_⟩
  · rw [wg_ne2 (by omega), wg_ne1 (by omega), wg_ne1 (by omega), wg_ne1 (by omega)]; exact q0
  · rw [wg_ne2 (by omega), wg_ne1 (by omega), wg_ne1 (by omega), wg_ne1 (by omega)]; exact q1
  · rw [o 1 (by omega), f 0 w (by omega), f 1 w (by omega)]
    exact ⟨(congrFun (o 0 (by omega)) w).trans (qw w hw).1, (qw w hw).2⟩
  · rw [o 2 (by omega), o 3 (by omega), o 4 (by omega), f 2 m (by omega), f 3 m (by omega)]
    refine ⟨(qm m hm).1, (qm m hm).2.1, fun k hk => ?_⟩
    rw [f 4 _ (by omega)]; exact (qm m hm).2.2 k hk
  · have hb : b < s.2.2.1 + 1 := hb
    rw [wg_ne1 h5, wg_ne1 h6, wg_ne1 h7, wg_ne1 (show a + 5 ≠ a + 7 by omega), wg_ne1 (show a + 5 ≠ a + 6 by omega), wg_ne1 (show a + 6 ≠ a + 7 by omega)]
    show _ = nI (if 5 = 5 ∧ b = s.2.2.1 then l else if 5 = 6 ∧ b = s.2.2.1 then u else if 5 = 7 ∧ b = s.2.2.1 then v else s.2.2.2 5 b) ∧ _ = nI (if 6 = 5 ∧ b = s.2.2.1 then l else if 6 = 6 ∧ b = s.2.2.1 then u else if 6 = 7 ∧ b = s.2.2.1 then v else s.2.2.2 6 b) ∧ _ = nI (if 7 = 5 ∧ b = s.2.2.1 then l else if 7 = 6 ∧ b = s.2.2.1 then u else if 7 = 7 ∧ b = s.2.2.1 then v else s.2.2.2 7 b)
    by_cases e : b = s.2.2.1
    · rw [e, wg_same, wg_same, wg_same, if_pos ⟨rfl, rfl⟩, if_neg (by omega), if_pos ⟨rfl, rfl⟩, if_neg (by omega), if_neg (by omega), if_pos ⟨rfl, rfl⟩]
      exact ⟨rfl, rfl, rfl⟩
    · rw [wg_ne2 e, wg_ne2 e, wg_ne2 e, wg_ne2 e, wg_ne2 e, wg_ne2 e]
      rw [if_neg (by omega), if_neg (by omega), if_neg (by omega), if_neg (by omega), if_neg (by omega), if_neg (by omega), if_neg (by omega), if_neg (by omega), if_neg (by omega)]
      exact qb b (by omega)
theorem HsC.m (ho : Hok h a) {s : Hs} (q : HsC N h a s) {r : Nat → Nat} {n : Nat} (hok : HsOK s) (hn : 1 ≤ n) (hn6 : n ≤ 6) (hr : ∀ i, i < n + 1 → wg N 29 i = nI (r i)) : HsC (wset (wcpy (wset (wset N (a + 2) s.2.1 (wg N 29 0)) (a + 3) s.2.1 (nI n)) 29 (a + 4) 1 (s.2.1 * 6) n) h 1 (nI (s.2.1 + 1))) h a (addM s r n) := by
  have hh : h ≠ a ∧ ∀ i, i < 8 → a + i ≠ h := ⟨by rcases ho with z | z <;> omega, fun i hi => by rcases ho with z | z <;> omega⟩
  have h29 : ∀ i, i < 8 → 29 ≠ a + i := fun i hi => by rcases ho with z | z <;> omega
  have h2 := hh.2 2 (by omega)
  have h3 := hh.2 3 (by omega)
  have h4 := hh.2 4 (by omega)
  obtain ⟨⟨q0, q1, q2⟩, qw, qm, qb⟩ := q
  obtain ⟨_, _, _, okm, _⟩ := hok
  have cp : ∀ (K : WM) (i : Nat), i ≠ a + 4 → wg (wcpy K 29 (a + 4) 1 (s.2.1 * 6) n) i = wg K i := fun K i hi => by
    funext k
    rw [wg_cpy, if_neg hi]
  have o : ∀ i, (i < 2 ∨ 4 < i) → i < 8 → wg (wset (wcpy (wset (wset N (a + 2) s.2.1 (wg N 29 0)) (a + 3) s.2.1 (nI n)) 29 (a + 4) 1 (s.2.1 * 6) n) h 1 (nI (s.2.1 + 1))) (a + i) = wg N (a + i) := fun i h1 h8 => by
    rw [wg_row_ne (hh.2 i h8), cp _ _ (by omega), wg_row_ne (by omega), wg_row_ne (by omega)]
  refine ⟨⟨?_, wg_same _ _ _ _, ?_⟩, fun w hw => ?_, fun m hm => ?_, fun b hb => ?_⟩
  · rw [wg_ne2 (by omega), cp _ _ (by omega), wg_ne1 (by omega), wg_ne1 (by omega)]; exact q0
  · rw [wg_ne2 (by omega), cp _ _ (by omega), wg_ne1 (by omega), wg_ne1 (by omega)]; exact q2
  · rw [o 1 (by omega) (by omega), addM_o (by omega), addM_o (by omega)]
    exact ⟨(congrFun (o 0 (by omega) (by omega)) w).trans (qw w hw).1, (qw w hw).2⟩
  · have hm : m < s.2.1 + 1 := hm
    rw [wg_ne1 h2, wg_ne1 h3, cp _ _ (by omega), cp _ _ (by omega), wg_ne1 (show a + 2 ≠ a + 3 by omega), addM_2, addM_3]
    by_cases e : m = s.2.1
    · rw [e, wg_same, wg_same, if_pos rfl, if_pos rfl]
      refine ⟨hr 0 (by omega), rfl, fun k hk => ?_⟩
      rw [wg_ne1 h4, wg_cpy, if_pos rfl, if_pos (by omega), addM_4, if_pos (by omega), wg_ne1 (h29 3 (by omega)), wg_ne1 (h29 2 (by omega)), hr _ (by omega)]
      congr 2
      omega
    · rw [wg_ne2 e, wg_ne2 e, wg_ne1 (show a + 3 ≠ a + 2 by omega), if_neg e, if_neg e]
      have qq := qm m (by omega)
      have h6 := (okm m (by omega)).2.2.1
      refine ⟨qq.1, qq.2.1, fun k hk => ?_⟩
      rw [wg_ne1 h4, wg_cpy, if_pos rfl, if_neg (by omega), addM_4, if_neg (by omega), wg_ne1 (show a + 4 ≠ a + 3 by omega), wg_ne1 (show a + 4 ≠ a + 2 by omega)]
      exact qq.2.2 k hk
  · rw [o 5 (by omega) (by omega), o 6 (by omega) (by omega), o 7 (by omega) (by omega), addM_o (by omega), addM_o (by omega), addM_o (by omega)]
    exact qb b hb
end CHX
