-- house: the words (a text is told, token by token)
noncomputable def itc {α : Type} (c : Prop) (a b : α) : α := @ite α c (Classical.propDecidable c) a b
theorem itc_t {α : Type} {c : Prop} {a b : α} (h : c) : itc c a b = a := by unfold itc; exact if_pos h
theorem itc_f {α : Type} {c : Prop} {a b : α} (h : ¬ c) : itc c a b = b := by unfold itc; exact if_neg h
/-- words, motions, babies; 0 loud 1 lull 2 worth 3 length 4 text 5 depth 6 ears 7 hunger -/
abbrev Hs : Type := Nat × Nat × Nat × (Nat → Nat → Nat)
/-- the item that is told (0: none), how many of its numbers, its numbers; what is told -/
abbrev Sg : Type := Nat × Nat × (Nat → Nat) × Hs
def chr (L : Nat) (x : Nat → Nat) (k : Nat) : Nat := if k < L then x k else 32
def isD (L : Nat) (x : Nat → Nat) (k : Nat) : Prop := 48 ≤ chr L x k ∧ chr L x k ≤ 57
def beg (L : Nat) (x : Nat → Nat) (k : Nat) : Prop := ¬ chr L x k = 32 ∧ ¬ (isD L x k ∧ 1 ≤ k ∧ isD L x (k - 1))
noncomputable def nmb (L : Nat) (x : Nat → Nat) (k : Nat) : Option Nat := itc (¬ isD L x (k + 1)) (some (chr L x k - 48)) (itc (chr L x k = 48 ∨ isD L x (k + 2)) none (some ((chr L x k - 48) * 10 + (chr L x (k + 1) - 48))))
def may (s : Sg) (v : Nat) : Prop := (s.1 = 119 ∧ ((s.2.1 = 0 ∧ v ≤ 9) ∨ (s.2.1 = 1 ∧ v ≤ 5))) ∨ (s.1 = 109 ∧ (s.2.1 = 0 ∨ (s.2.1 ≤ 6 ∧ v < s.2.2.2.1))) ∨ (s.1 = 98 ∧ ((s.2.1 = 0 ∧ v ≤ 9) ∨ (s.2.1 = 1 ∧ v ≤ 3) ∨ (s.2.1 = 2 ∧ 1 ≤ v)))
def putN (s : Sg) (v : Nat) : Sg := (s.1, s.2.1 + 1, up s.2.2.1 s.2.1 v, s.2.2.2)
noncomputable def stN (o : Option Nat) (s : Sg) : Option Sg := match o with
  | none => none
  | some v => itc (may s v) (some (putN s v)) none
def roomC (h : Hs) (c : Nat) : Prop := (c = 119 ∧ h.1 < 6) ∨ (c = 109 ∧ h.2.1 < 5) ∨ (c = 98 ∧ h.2.2.1 < 4)
noncomputable def stB (c : Nat) (s : Sg) : Option Sg := itc (s.1 = 0 ∧ roomC s.2.2.2 c) (some (c, 0, s.2.2.1, s.2.2.2)) none
def addW (h : Hs) (a b : Nat) : Hs := (h.1 + 1, h.2.1, h.2.2.1, fun k i => if k = 0 ∧ i = h.1 then a else if k = 1 ∧ i = h.1 then b else h.2.2.2 k i)
def addM (h : Hs) (r : Nat → Nat) (n : Nat) : Hs := (h.1, h.2.1 + 1, h.2.2.1, fun k i => if k = 2 ∧ i = h.2.1 then r 0 else if k = 3 ∧ i = h.2.1 then n else if k = 4 ∧ 6 * h.2.1 ≤ i ∧ i < 6 * h.2.1 + 6 then r (i - 6 * h.2.1 + 1) else h.2.2.2 k i)
def addB (h : Hs) (a b c : Nat) : Hs := (h.1, h.2.1, h.2.2.1 + 1, fun k i => if k = 5 ∧ i = h.2.2.1 then a else if k = 6 ∧ i = h.2.2.1 then b else if k = 7 ∧ i = h.2.2.1 then c else h.2.2.2 k i)
noncomputable def stE (s : Sg) : Option Sg := itc (s.1 = 119 ∧ s.2.1 = 2) (some (0, s.2.1, s.2.2.1, addW s.2.2.2 (s.2.2.1 0) (s.2.2.1 1)))
  (itc (s.1 = 109 ∧ 2 ≤ s.2.1) (some (0, s.2.1, s.2.2.1, addM s.2.2.2 s.2.2.1 (s.2.1 - 1)))
  (itc (s.1 = 98 ∧ s.2.1 = 3) (some (0, s.2.1, s.2.2.1, addB s.2.2.2 (s.2.2.1 0) (s.2.2.1 1) (s.2.2.1 2))) none))
noncomputable def step (L : Nat) (x : Nat → Nat) (k : Nat) (s : Sg) : Option Sg := itc (isD L x k) (stN (nmb L x k) s) (itc (chr L x k = 59) (stE s) (stB (chr L x k) s))
noncomputable def rT (L : Nat) (x : Nat → Nat) : Nat → Nat → Sg → Nat ⊕ Hs
  | 0, k, s => itc (s.1 = 0) (.inr s.2.2.2) (.inl k)
  | n + 1, k, s => itc (beg L x k) (match step L x k s with
    | some s' => rT L x n (k + 1) s'
    | none => .inl k) (rT L x n (k + 1) s)
noncomputable def RT_ (L : Nat) (x : Nat → Nat) (k : Nat) (s : Sg) : Nat ⊕ Hs := rT L x (L - k) k s
section RTX
variable {L : Nat} {x : Nat → Nat} {k : Nat} {s s' : Sg}
theorem RT_skip (hk : k < L) (h : ¬ beg L x k) : RT_ L x k s = RT_ L x (k + 1) s := by
  unfold RT_
  rw [show L - k = (L - (k + 1)) + 1 by omega, rT, itc_f h]
theorem RT_some (hk : k < L) (h : beg L x k) (e : step L x k s = some s') : RT_ L x k s = RT_ L x (k + 1) s' := by
  unfold RT_
  rw [show L - k = (L - (k + 1)) + 1 by omega, rT, itc_t h, e]
theorem RT_none (hk : k < L) (h : beg L x k) (e : step L x k s = none) : RT_ L x k s = .inl k := by
  unfold RT_
  rw [show L - k = (L - (k + 1)) + 1 by omega, rT, itc_t h, e]
theorem RT_end0 (h : s.1 = 0) : RT_ L x L s = .inr s.2.2.2 := by
  unfold RT_
  rw [Nat.sub_self, rT, itc_t h]
theorem RT_end1 (h : ¬ s.1 = 0) : RT_ L x L s = .inl L := by
  unfold RT_
  rw [Nat.sub_self, rT, itc_f h]
theorem RT_skips : ∀ n k, k + n ≤ L → (∀ j, k ≤ j → j < k + n → ¬ beg L x j) → RT_ L x k s = RT_ L x (k + n) s
  | 0, _, _, _ => rfl
  | n + 1, k, h, hb => by
    rw [RT_skip (by omega) (hb k (Nat.le_refl k) (by omega)), RT_skips n (k + 1) (by omega) (fun j a b => hb j (by omega) (by omega)), show k + 1 + n = k + (n + 1) by omega]
end RTX
def HsOK (h : Hs) : Prop := h.1 ≤ 6 ∧ h.2.1 ≤ 5 ∧ h.2.2.1 ≤ 4 ∧ (∀ m, m < h.2.1 → h.2.2.2 2 m ≤ 99 ∧ 1 ≤ h.2.2.2 3 m ∧ h.2.2.2 3 m ≤ 6 ∧ ∀ k, k < h.2.2.2 3 m → h.2.2.2 4 (6 * m + k) < h.1) ∧ ∀ b, b < h.2.2.1 → h.2.2.2 5 b ≤ 9
def SgOK (s : Sg) : Prop := HsOK s.2.2.2 ∧ s.2.1 ≤ 7 ∧ (s.1 = 0 ∨ roomC s.2.2.2 s.1) ∧ (s.1 = 109 → (1 ≤ s.2.1 → s.2.2.1 0 ≤ 99) ∧ ∀ k, 1 ≤ k → k < s.2.1 → s.2.2.1 k < s.2.2.2.1) ∧ (s.1 = 98 → 1 ≤ s.2.1 → s.2.2.1 0 ≤ 9) ∧ ∀ k, k < s.2.1 → s.2.2.1 k ≤ 99
theorem chr_le {L : Nat} {x : Nat → Nat} (hx : ∀ k, k < L → x k ≤ 255) (k : Nat) : chr L x k ≤ 255 := by
  unfold chr
  by_cases h : k < L
  · rw [if_pos h]; exact hx k h
  · rw [if_neg h]; omega
theorem isD_lt {L : Nat} {x : Nat → Nat} {k : Nat} (h : isD L x k) : k < L := by
  rcases Nat.lt_or_ge k L with q | q
  · exact q
  · unfold isD chr at h
    rw [if_neg (by omega)] at h
    omega
theorem nmb_le {L : Nat} {x : Nat → Nat} {k v : Nat} (hd : isD L x k) (h : nmb L x k = some v) : v ≤ 99 := by
  unfold nmb at h
  have h1 := hd.2
  rcases Classical.em (isD L x (k + 1)) with q | q
  · rw [itc_f (fun z => z q)] at h
    have h2 := q.2
    rcases Classical.em (chr L x k = 48 ∨ isD L x (k + 2)) with z | z
    · rw [itc_t z] at h; cases h
    · rw [itc_f z] at h
      have := Option.some.inj h
      omega
  · rw [itc_t q] at h
    have := Option.some.inj h
    omega
theorem stN_ok {s s' : Sg} {v : Nat} (hv : v ≤ 99) (ho : SgOK s) (e : stN (some v) s = some s') : SgOK s' ∧ may s v ∧ s' = putN s v := by
  have e : itc (may s v) (some (putN s v)) none = some s' := e
  rcases Classical.em (may s v) with q | q
  · rw [itc_t q] at e
    have e := Option.some.inj e
    subst e
    refine ⟨?_, q, rfl⟩
    obtain ⟨h1, h2, h3, h4, h5, h6⟩ := ho
    obtain ⟨it, got, nu, hs⟩ := s
    have g6 : got ≤ 6 := by
      rcases q with ⟨_, q⟩ | ⟨_, q⟩ | ⟨_, q⟩
      · have q : (got = 0 ∧ v ≤ 9) ∨ (got = 1 ∧ v ≤ 5) := q
        omega
      · have q : got = 0 ∨ (got ≤ 6 ∧ v < hs.1) := q
        omega
      · have q : (got = 0 ∧ v ≤ 9) ∨ (got = 1 ∧ v ≤ 3) ∨ (got = 2 ∧ 1 ≤ v) := q
        omega
    refine ⟨h1, by show got + 1 ≤ 7; omega, h3, fun i => ⟨fun _ => ?_, fun k a b => ?_⟩, fun i _ => ?_, fun k a => ?_⟩
    · have i : it = 109 := i
      show up nu got v 0 ≤ 99
      by_cases z : 0 = got
      · rw [← z, up_t]; exact hv
      · rw [up_f _ _ z]; exact (h4 i).1 (by show 1 ≤ got; omega)
    · have i : it = 109 := i
      have b : k < got + 1 := b
      show up nu got v k < hs.1
      by_cases z : k = got
      · rw [z, up_t]
        rcases q with ⟨q0, _⟩ | ⟨_, q⟩ | ⟨q0, _⟩
        · have q0 : it = 119 := q0; omega
        · have q : got = 0 ∨ (got ≤ 6 ∧ v < hs.1) := q
          omega
        · have q0 : it = 98 := q0; omega
      · rw [up_f _ _ z]; exact (h4 i).2 k a (by show k < got; omega)
    · have i : it = 98 := i
      show up nu got v 0 ≤ 9
      by_cases z : 0 = got
      · rw [← z, up_t]
        rcases q with ⟨q0, _⟩ | ⟨q0, _⟩ | ⟨_, q⟩
        · have q0 : it = 119 := q0; omega
        · have q0 : it = 109 := q0; omega
        · have q : (got = 0 ∧ v ≤ 9) ∨ (got = 1 ∧ v ≤ 3) ∨ (got = 2 ∧ 1 ≤ v) := q
          omega
      · rw [up_f _ _ z]; exact h5 i (by show 1 ≤ got; omega)
    · have a : k < got + 1 := a
      show up nu got v k ≤ 99
      by_cases z : k = got
      · rw [z, up_t]; exact hv
      · rw [up_f _ _ z]; exact h6 k (by show k < got; omega)
  · rw [itc_f q] at e; cases e
theorem stB_ok {s s' : Sg} {c : Nat} (ho : SgOK s) (e : stB c s = some s') : SgOK s' ∧ (s.1 = 0 ∧ roomC s.2.2.2 c) ∧ s' = (c, 0, s.2.2.1, s.2.2.2) := by
  unfold stB at e
  rcases Classical.em (s.1 = 0 ∧ roomC s.2.2.2 c) with q | q
  · rw [itc_t q] at e
    have e := Option.some.inj e
    subst e
    refine ⟨⟨ho.1, Nat.zero_le 7, Or.inr q.2, fun _ => ⟨fun z => absurd z (by show ¬ 1 ≤ 0; omega), fun k a b => ?_⟩, fun _ z => absurd z (by show ¬ 1 ≤ 0; omega), fun k a => ?_⟩, q, rfl⟩
    · have b : k < 0 := b
      omega
    · have a : k < 0 := a
      omega
  · rw [itc_f q] at e; cases e
theorem HsOK.w {h : Hs} (o : HsOK h) (h6 : h.1 < 6) (a b : Nat) : HsOK (addW h a b) := by
  obtain ⟨o1, o2, o3, o4, o5⟩ := o
  refine ⟨h6, o2, o3, fun m hm => ?_, fun d hd => ?_⟩
  · obtain ⟨p1, p2, p3, p4⟩ := o4 m hm
    have e : ∀ k i, 2 ≤ k → (addW h a b).2.2.2 k i = h.2.2.2 k i := fun k i hk => by
      show (if k = 0 ∧ i = h.1 then a else if k = 1 ∧ i = h.1 then b else h.2.2.2 k i) = _
      rw [if_neg (by omega), if_neg (by omega)]
    rw [e 2 _ (by omega), e 3 _ (by omega)]
    refine ⟨p1, p2, p3, fun k hk => ?_⟩
    rw [e 4 _ (by omega)]
    have := p4 k hk
    show _ < h.1 + 1
    omega
  · show (if 5 = 0 ∧ d = h.1 then a else if 5 = 1 ∧ d = h.1 then b else h.2.2.2 5 d) ≤ 9
    rw [if_neg (by omega), if_neg (by omega)]
    exact o5 d hd
theorem addM_o {h : Hs} {r : Nat → Nat} {n k i : Nat} (hk : k < 2 ∨ 4 < k) : (addM h r n).2.2.2 k i = h.2.2.2 k i := by
  show (if k = 2 ∧ i = h.2.1 then r 0 else if k = 3 ∧ i = h.2.1 then n else if k = 4 ∧ 6 * h.2.1 ≤ i ∧ i < 6 * h.2.1 + 6 then r (i - 6 * h.2.1 + 1) else h.2.2.2 k i) = _
  rw [if_neg (by omega), if_neg (by omega), if_neg (by omega)]
theorem addM_2 (h : Hs) (r : Nat → Nat) (n i : Nat) : (addM h r n).2.2.2 2 i = if i = h.2.1 then r 0 else h.2.2.2 2 i := by
  show (if 2 = 2 ∧ i = h.2.1 then r 0 else if 2 = 3 ∧ i = h.2.1 then n else if 2 = 4 ∧ 6 * h.2.1 ≤ i ∧ i < 6 * h.2.1 + 6 then r (i - 6 * h.2.1 + 1) else h.2.2.2 2 i) = _
  by_cases e : i = h.2.1
  · rw [if_pos ⟨rfl, e⟩, if_pos e]
  · rw [if_neg (by omega), if_neg (by omega), if_neg (by omega), if_neg e]
theorem addM_3 (h : Hs) (r : Nat → Nat) (n i : Nat) : (addM h r n).2.2.2 3 i = if i = h.2.1 then n else h.2.2.2 3 i := by
  show (if 3 = 2 ∧ i = h.2.1 then r 0 else if 3 = 3 ∧ i = h.2.1 then n else if 3 = 4 ∧ 6 * h.2.1 ≤ i ∧ i < 6 * h.2.1 + 6 then r (i - 6 * h.2.1 + 1) else h.2.2.2 3 i) = _
  by_cases e : i = h.2.1
  · rw [if_neg (by omega), if_pos ⟨rfl, e⟩, if_pos e]
  · rw [if_neg (by omega), if_neg (by omega), if_neg (by omega), if_neg e]
theorem addM_4 (h : Hs) (r : Nat → Nat) (n i : Nat) : (addM h r n).2.2.2 4 i = if 6 * h.2.1 ≤ i ∧ i < 6 * h.2.1 + 6 then r (i - 6 * h.2.1 + 1) else h.2.2.2 4 i := by
  show (if 4 = 2 ∧ i = h.2.1 then r 0 else if 4 = 3 ∧ i = h.2.1 then n else if 4 = 4 ∧ 6 * h.2.1 ≤ i ∧ i < 6 * h.2.1 + 6 then r (i - 6 * h.2.1 + 1) else h.2.2.2 4 i) = _
  by_cases e : 6 * h.2.1 ≤ i ∧ i < 6 * h.2.1 + 6
  · rw [if_neg (by omega), if_neg (by omega), if_pos ⟨rfl, e⟩, if_pos e]
  · rw [if_neg (by omega), if_neg (by omega), if_neg (fun q => e q.2), if_neg e]
theorem HsOK.m {h : Hs} (o : HsOK h) (h5 : h.2.1 < 5) {r : Nat → Nat} {n : Nat} (hn : 1 ≤ n) (hn6 : n ≤ 6) (h0 : r 0 ≤ 99) (hr : ∀ k, k < n → r (k + 1) < h.1) : HsOK (addM h r n) := by
  obtain ⟨o1, o2, o3, o4, o5⟩ := o
  refine ⟨o1, h5, o3, fun m hm => ?_, fun b hb => ?_⟩
  · rw [addM_2, addM_3]
    by_cases e : m = h.2.1
    · rw [if_pos e, if_pos e]
      refine ⟨h0, hn, hn6, fun k hk => ?_⟩
      rw [addM_4, if_pos (by omega), show 6 * m + k - 6 * h.2.1 + 1 = k + 1 by omega]
      exact hr k hk
    · have hm : m < h.2.1 + 1 := hm
      obtain ⟨p1, p2, p3, p4⟩ := o4 m (by omega)
      rw [if_neg e, if_neg e]
      refine ⟨p1, p2, p3, fun k hk => ?_⟩
      rw [addM_4, if_neg (by omega)]
      exact p4 k hk
  · rw [addM_o (by omega)]
    exact o5 b hb
theorem HsOK.b {h : Hs} (o : HsOK h) (h4 : h.2.2.1 < 4) {a : Nat} (ha : a ≤ 9) (b c : Nat) : HsOK (addB h a b c) := by
  obtain ⟨o1, o2, o3, o4, o5⟩ := o
  have e : ∀ k i, k < 5 → (addB h a b c).2.2.2 k i = h.2.2.2 k i := fun k i hk => by
    show (if k = 5 ∧ i = h.2.2.1 then a else if k = 6 ∧ i = h.2.2.1 then b else if k = 7 ∧ i = h.2.2.1 then c else h.2.2.2 k i) = _
    rw [if_neg (by omega), if_neg (by omega), if_neg (by omega)]
  refine ⟨o1, o2, h4, fun m hm => ?_, fun d hd => ?_⟩
  · obtain ⟨p1, p2, p3, p4⟩ := o4 m hm
    rw [e 2 _ (by omega), e 3 _ (by omega)]
    exact ⟨p1, p2, p3, fun k hk => by rw [e 4 _ (by omega)]; exact p4 k hk⟩
  · have hd : d < h.2.2.1 + 1 := hd
    show (if 5 = 5 ∧ d = h.2.2.1 then a else if 5 = 6 ∧ d = h.2.2.1 then b else if 5 = 7 ∧ d = h.2.2.1 then c else h.2.2.2 5 d) ≤ 9
    by_cases z : d = h.2.2.1
    · rw [if_pos ⟨rfl, z⟩]; exact ha
    · rw [if_neg (by omega), if_neg (by omega), if_neg (by omega)]; exact o5 d (by omega)
theorem room_w {h : Hs} (q : 119 = 0 ∨ roomC h 119) : h.1 < 6 := by
  rcases q with q | q | q | q <;> omega
theorem room_m {h : Hs} (q : 109 = 0 ∨ roomC h 109) : h.2.1 < 5 := by
  rcases q with q | q | q | q <;> omega
theorem room_b {h : Hs} (q : 98 = 0 ∨ roomC h 98) : h.2.2.1 < 4 := by
  rcases q with q | q | q | q <;> omega
theorem stE_ok {s s' : Sg} (ho : SgOK s) (e : stE s = some s') : SgOK s' ∧ s'.1 = 0 := by
  obtain ⟨it, got, nu, hs⟩ := s
  obtain ⟨h1, h2, h3, h4, h5, h6⟩ := ho
  have fin : ∀ h' : Hs, HsOK h' → SgOK (0, got, nu, h') := fun h' o => ⟨o, h2, Or.inl rfl, fun z => absurd z (by show ¬ 0 = 109; omega), fun z => absurd z (by show ¬ 0 = 98; omega), h6⟩
  unfold stE at e
  rcases Classical.em (it = 119 ∧ got = 2) with q | q
  · rw [itc_t q] at e
    have e := Option.some.inj e
    subst e
    obtain ⟨rfl, rfl⟩ := q
    exact ⟨fin _ (h1.w (room_w h3) _ _), rfl⟩
  · rw [itc_f q] at e
    rcases Classical.em (it = 109 ∧ 2 ≤ got) with q | q
    · rw [itc_t q] at e
      have e := Option.some.inj e
      subst e
      obtain ⟨rfl, hg⟩ := q
      have h2 : got ≤ 7 := h2
      have hg : 2 ≤ got := hg
      exact ⟨fin _ (h1.m (n := got - 1) (r := nu) (room_m h3) (by omega) (by omega) ((h4 rfl).1 (by show 1 ≤ got; omega)) (fun k (hk : k < got - 1) => (h4 rfl).2 (k + 1) (by omega) (by show k + 1 < got; omega))), rfl⟩
    · rw [itc_f q] at e
      rcases Classical.em (it = 98 ∧ got = 3) with q | q
      · rw [itc_t q] at e
        have e := Option.some.inj e
        subst e
        obtain ⟨rfl, rfl⟩ := q
        exact ⟨fin _ (h1.b (room_b h3) (h5 rfl (by show 1 ≤ 3; omega)) _ _), rfl⟩
      · rw [itc_f q] at e; cases e
theorem step_ok {L : Nat} {x : Nat → Nat} {k : Nat} {s s' : Sg} (ho : SgOK s) (e : step L x k s = some s') : SgOK s' := by
  unfold step at e
  rcases Classical.em (isD L x k) with q | q
  · rw [itc_t q] at e
    cases hn : nmb L x k with
    | none => rw [hn] at e; cases e
    | some v => rw [hn] at e; exact (stN_ok (nmb_le q hn) ho e).1
  · rw [itc_f q] at e
    rcases Classical.em (chr L x k = 59) with z | z
    · rw [itc_t z] at e; exact (stE_ok ho e).1
    · rw [itc_f z] at e; exact (stB_ok ho e).1
