-- rows of words: how many of each, which comes first, a number for each; trace
def one (a w : Nat) : Nat := if a = w then 1 else 0
def cnt (r : Nat → Nat) (w : Nat) : Nat → Nat → Nat
  | 0, _ => 0
  | n + 1, k => one (r k) w + cnt r w n (k + 1)
def lex (r s : Nat → Nat) : Nat → Nat → Prop
  | 0, _ => True
  | n + 1, k => r k < s k ∨ (r k = s k ∧ lex r s n (k + 1))
def vl (r : Nat → Nat) : Nat → Nat → Nat
  | 0, _ => 0
  | n + 1, k => r k * 6 ^ n + vl r n (k + 1)
def Arr (r s : Nat → Nat) (n k : Nat) : Prop := ∀ w, cnt s w n k = cnt r w n k
def up (r : Nat → Nat) (i v : Nat) : Nat → Nat := fun q => if q = i then v else r q
def swp (r : Nat → Nat) (i j : Nat) : Nat → Nat := up (up r i (r j)) j (r i)
theorem up_t (r : Nat → Nat) (i v : Nat) : up r i v i = v := if_pos rfl
theorem up_f (r : Nat → Nat) {i q : Nat} (v : Nat) (h : q ≠ i) : up r i v q = r q := if_neg h
theorem one_t (a : Nat) : one a a = 1 := if_pos rfl
theorem cnt_cg {r s : Nat → Nat} {w : Nat} : ∀ n k, (∀ q, k ≤ q → q < k + n → r q = s q) → cnt r w n k = cnt s w n k
  | 0, _, _ => rfl
  | n + 1, k, h => by
    show one (r k) w + cnt r w n (k + 1) = one (s k) w + cnt s w n (k + 1)
    rw [h k (Nat.le_refl k) (by omega), cnt_cg n (k + 1) (fun q a b => h q (by omega) (by omega))]
theorem cnt_mem {r : Nat → Nat} {w : Nat} : ∀ n k, 1 ≤ cnt r w n k → ∃ q, k ≤ q ∧ q < k + n ∧ r q = w
  | 0, k, h => absurd h (by show ¬ 1 ≤ 0; omega)
  | n + 1, k, h => by
    by_cases e : r k = w
    · exact ⟨k, Nat.le_refl k, by omega, e⟩
    · have h2 : 1 ≤ one (r k) w + cnt r w n (k + 1) := h
      have h3 : one (r k) w = 0 := if_neg e
      rw [h3, Nat.zero_add] at h2
      obtain ⟨q, a, b, c⟩ := cnt_mem n (k + 1) h2
      exact ⟨q, by omega, by omega, c⟩
theorem mem_cnt {r : Nat → Nat} : ∀ n k q, k ≤ q → q < k + n → 1 ≤ cnt r (r q) n k
  | 0, k, q, a, b => by omega
  | n + 1, k, q, a, b => by
    show 1 ≤ one (r k) (r q) + cnt r (r q) n (k + 1)
    by_cases e : q = k
    · rw [e, one_t]; omega
    · have := mem_cnt (r := r) n (k + 1) q (by omega) (by omega)
      omega
theorem cnt_up {r : Nat → Nat} {i v w : Nat} : ∀ n k, k ≤ i → i < k + n → cnt (up r i v) w n k + one (r i) w = cnt r w n k + one v w
  | 0, k, a, b => by omega
  | n + 1, k, a, b => by
    show one (up r i v k) w + cnt (up r i v) w n (k + 1) + one (r i) w = one (r k) w + cnt r w n (k + 1) + one v w
    by_cases e : k = i
    · subst e
      rw [up_t, cnt_cg (s := r) n (k + 1) (fun q a _ => up_f r v (by omega))]
      omega
    · rw [up_f r v e]
      have := cnt_up (r := r) (i := i) (v := v) (w := w) n (k + 1) (by omega) (by omega)
      omega
theorem cnt_swp {r : Nat → Nat} {i j w n k : Nat} (hij : i ≠ j) (h1 : k ≤ i) (h2 : i < k + n) (h3 : k ≤ j) (h4 : j < k + n) : cnt (swp r i j) w n k = cnt r w n k := by
  have a := cnt_up (r := up r i (r j)) (i := j) (v := r i) (w := w) n k h3 h4
  have b := cnt_up (r := r) (i := i) (v := r j) (w := w) n k h1 h2
  rw [up_f r (r j) (fun q => hij q.symm)] at a
  show cnt (up (up r i (r j)) j (r i)) w n k = cnt r w n k
  omega
theorem swp_i {r : Nat → Nat} {i j : Nat} (h : i ≠ j) : swp r i j i = r j := by unfold swp; rw [up_f _ _ h, up_t]
theorem swp_j {r : Nat → Nat} {i j : Nat} : swp r i j j = r i := by unfold swp; rw [up_t]
theorem swp_o {r : Nat → Nat} {i j q : Nat} (h : q ≠ i) (h2 : q ≠ j) : swp r i j q = r q := by unfold swp; rw [up_f _ _ h2, up_f _ _ h]
theorem lex_rf (r : Nat → Nat) : ∀ n k, lex r r n k
  | 0, _ => trivial
  | n + 1, k => Or.inr ⟨rfl, lex_rf r n (k + 1)⟩
theorem lex_anti {r s : Nat → Nat} : ∀ n k, lex r s n k → lex s r n k → ∀ q, k ≤ q → q < k + n → r q = s q
  | 0, k, _, _, q, a, b => by omega
  | n + 1, k, h1, h2, q, a, b => by
    have h1 : r k < s k ∨ (r k = s k ∧ lex r s n (k + 1)) := h1
    have h2 : s k < r k ∨ (s k = r k ∧ lex s r n (k + 1)) := h2
    rcases h1 with h1 | h1
    · rcases h2 with h2 | h2
      · omega
      · omega
    · rcases h2 with h2 | h2
      · omega
      · by_cases e : q = k
        · rw [e]; exact h1.1
        · exact lex_anti n (k + 1) h1.2 h2.2 q (by omega) (by omega)
def dsc (r : Nat → Nat) (k N : Nat) : Prop := ∀ q q', k ≤ q → q ≤ q' → q' < N → r q' ≤ r q
def asc (r : Nat → Nat) (k N : Nat) : Prop := ∀ q q', k ≤ q → q ≤ q' → q' < N → r q ≤ r q'
theorem Arr.tl {r s : Nat → Nat} {n k : Nat} (h : Arr r s (n + 1) k) (e : s k = r k) : Arr r s n (k + 1) := fun w => by
  have a : one (s k) w + cnt s w n (k + 1) = one (r k) w + cnt r w n (k + 1) := h w
  rw [e] at a
  omega
theorem Arr.mem {r s : Nat → Nat} {n k : Nat} (h : Arr r s n k) {q : Nat} (h1 : k ≤ q) (h2 : q < k + n) : ∃ p, k ≤ p ∧ p < k + n ∧ r p = s q := by
  have a := mem_cnt (r := s) n k q h1 h2
  rw [h (s q)] at a
  exact cnt_mem n k a
theorem Arr.sy {r s : Nat → Nat} {n k : Nat} (h : Arr r s n k) : Arr s r n k := fun w => (h w).symm
theorem Arr.tr {r s t : Nat → Nat} {n k : Nat} (h : Arr r s n k) (h2 : Arr s t n k) : Arr r t n k := fun w => (h2 w).trans (h w)
theorem Arr.rf (r : Nat → Nat) (n k : Nat) : Arr r r n k := fun _ => rfl
theorem lex_max {r s : Nat → Nat} : ∀ n k, dsc r k (k + n) → Arr r s n k → lex s r n k
  | 0, _, _, _ => trivial
  | n + 1, k, hd, ha => by
    obtain ⟨p, h1, h2, h3⟩ := ha.mem (Nat.le_refl k) (by omega)
    have h4 := hd k p (Nat.le_refl k) h1 h2
    rcases Nat.lt_or_ge (s k) (r k) with c | c
    · exact Or.inl c
    · have e : s k = r k := by omega
      exact Or.inr ⟨e, lex_max n (k + 1) (fun q q' a b c => hd q q' (by omega) b (by omega)) (ha.tl e)⟩
theorem lex_min {r s : Nat → Nat} : ∀ n k, asc r k (k + n) → Arr r s n k → lex r s n k
  | 0, _, _, _ => trivial
  | n + 1, k, hd, ha => by
    obtain ⟨p, h1, h2, h3⟩ := ha.mem (Nat.le_refl k) (by omega)
    have h4 := hd k p (Nat.le_refl k) h1 h2
    rcases Nat.lt_or_ge (r k) (s k) with c | c
    · exact Or.inl c
    · have e : s k = r k := by omega
      exact Or.inr ⟨e.symm, lex_min n (k + 1) (fun q q' a b c => hd q q' (by omega) b (by omega)) (ha.tl e)⟩
/-- t is the next order behind r: i is where they part -/
theorem nxt {r t : Nat → Nat} {i N : Nat} (hi : i < N) (hag : ∀ q, q < i → t q = r q) (hlt : r i < t i) (hd : dsc r (i + 1) N) (ha : asc t (i + 1) N) (hm : ∀ q, i < q → q < N → r i < r q → t i ≤ r q) :
    ∀ n k, k + n = N → k ≤ i → Arr r t n k → ∀ s, Arr r s n k → lex s r n k ∨ lex t s n k
  | 0, k, hk, hki, _, _, _ => by omega
  | n + 1, k, hk, hki, ht, s, hs => by
    by_cases e : k = i
    · subst e
      rcases Nat.lt_trichotomy (s k) (r k) with c | c | c
      · exact Or.inl (Or.inl c)
      · exact Or.inl (Or.inr ⟨c, lex_max n (k + 1) (fun q q' a b c => hd q q' a b (by omega)) (hs.tl c)⟩)
      · obtain ⟨p, h1, h2, h3⟩ := hs.mem (Nat.le_refl k) (by omega)
        have hp : p ≠ k := fun q => by rw [q] at h3; omega
        have h4 := hm p (by omega) (by omega) (by omega)
        rcases Nat.lt_or_ge (t k) (s k) with c2 | c2
        · exact Or.inr (Or.inl c2)
        · have e2 : s k = t k := by omega
          exact Or.inr (Or.inr ⟨e2.symm, lex_min n (k + 1) (fun q q' a b c => ha q q' a b (by omega)) ((ht.sy.tr hs).tl e2)⟩)
    · have e0 := hag k (by omega)
      rcases Nat.lt_trichotomy (s k) (r k) with c | c | c
      · exact Or.inl (Or.inl c)
      · rcases nxt hi hag hlt hd ha hm n (k + 1) (by omega) (by omega) (ht.tl e0) s (hs.tl c) with q | q
        · exact Or.inl (Or.inr ⟨c, q⟩)
        · exact Or.inr (Or.inr ⟨e0.trans c.symm, q⟩)
      · exact Or.inr (Or.inl (by omega))
theorem vl_lt {r : Nat → Nat} : ∀ n k, (∀ q, k ≤ q → q < k + n → r q < 6) → vl r n k < 6 ^ n
  | 0, _, _ => by show 0 < 1; omega
  | n + 1, k, h => by
    have ih := vl_lt (r := r) n (k + 1) (fun q a b => h q (by omega) (by omega))
    have h0 := h k (Nat.le_refl k) (by omega)
    have h1 : r k * 6 ^ n ≤ 5 * 6 ^ n := Nat.mul_le_mul_right _ (by omega)
    show r k * 6 ^ n + vl r n (k + 1) < 6 ^ (n + 1)
    rw [Nat.pow_succ]
    omega
theorem vl_nxt {r t : Nat → Nat} {i N : Nat} (hi : i < N) (hag : ∀ q, q < i → t q = r q) (hlt : r i < t i) (h6 : ∀ q, q < N → r q < 6) :
    ∀ n k, k + n = N → k ≤ i → vl r n k < vl t n k
  | 0, k, hk, hki => by omega
  | n + 1, k, hk, hki => by
    show r k * 6 ^ n + vl r n (k + 1) < t k * 6 ^ n + vl t n (k + 1)
    by_cases e : k = i
    · subst e
      have h1 := vl_lt (r := r) n (k + 1) (fun q _ b => h6 q (by omega))
      have h2 : (r k + 1) * 6 ^ n ≤ t k * 6 ^ n := Nat.mul_le_mul_right _ (by omega)
      rw [Nat.succ_mul] at h2
      omega
    · rw [hag k (by omega)]
      have := vl_nxt hi hag hlt h6 n (k + 1) (by omega) (by omega)
      omega
def sm6 (c : Nat → Nat) : Nat := c 0 + c 1 + c 2 + c 3 + c 4 + c 5
theorem lt6 {a : Nat} (h : a < 6) : a = 0 ∨ a = 1 ∨ a = 2 ∨ a = 3 ∨ a = 4 ∨ a = 5 := by omega
theorem sm6_cnt {r : Nat → Nat} : ∀ n k, (∀ q, k ≤ q → q < k + n → r q < 6) → sm6 (fun w => cnt r w n k) = n
  | 0, _, _ => rfl
  | n + 1, k, h => by
    have ih := sm6_cnt (r := r) n (k + 1) (fun q a b => h q (by omega) (by omega))
    have h0 := h k (Nat.le_refl k) (by omega)
    have ih : cnt r 0 n (k + 1) + cnt r 1 n (k + 1) + cnt r 2 n (k + 1) + cnt r 3 n (k + 1) + cnt r 4 n (k + 1) + cnt r 5 n (k + 1) = n := ih
    show (one (r k) 0 + cnt r 0 n (k + 1)) + (one (r k) 1 + cnt r 1 n (k + 1)) + (one (r k) 2 + cnt r 2 n (k + 1)) + (one (r k) 3 + cnt r 3 n (k + 1)) + (one (r k) 4 + cnt r 4 n (k + 1)) + (one (r k) 5 + cnt r 5 n (k + 1)) = n + 1
    have hs : one (r k) 0 + one (r k) 1 + one (r k) 2 + one (r k) 3 + one (r k) 4 + one (r k) 5 = 1 := by
      rcases lt6 h0 with q | q | q | q | q | q <;> rw [q] <;> rfl
    omega
theorem sm6_dn {c : Nat → Nat} {w n : Nat} (hw : w < 6) (hc : 1 ≤ c w) (h : sm6 c = n + 1) : sm6 (up c w (c w - 1)) = n := by
  unfold sm6 at h ⊢
  rcases lt6 hw with q | q | q | q | q | q <;> subst q <;> simp only [up] <;> simp <;> omega
theorem rn_cg {M : WM} {r s : Nat → Nat} {lo : Nat → Int32} {e : Int32} : ∀ (n k : Nat) (d : Int32), (∀ q, k ≤ q → q < k + n → r q = s q) → rn M r lo e n k d = rn M s lo e n k d
  | 0, _, _, _ => rfl
  | n + 1, k, d, h => by
    unfold rn
    rw [h k (Nat.le_refl k) (by omega), rn_cg n (k + 1) _ (fun q a b => h q (by omega) (by omega))]
/-- r is the first of the orders of c that leaves the baby asleep -/
def LeastO (M : WM) (c : Nat → Nat) (e dp : Int32) (n k : Nat) (r : Nat → Nat) : Prop :=
  (∀ w, cnt r w n k = c w) ∧ (¬ rn M r zlo e n k dp = nI 0) ∧ ∀ s, (∀ w, cnt s w n k = c w) → (¬ rn M s zlo e n k dp = nI 0) → lex r s n k
theorem LeastO.uq {M : WM} {c : Nat → Nat} {e dp : Int32} {n k : Nat} {r s : Nat → Nat} (h : LeastO M c e dp n k r) (h2 : LeastO M c e dp n k s) : ∀ q, k ≤ q → q < k + n → r q = s q :=
  lex_anti n k (h.2.2 s h2.1 h2.2.1) (h2.2.2 r h.1 h.2.1)
section TRACE
variable {G : GG} {M : WM}
def SameL (G : GG) (j j' : Nat) (As : List Value) (M : WM) : Prop := Fr G 40 j (.ref 0 :: As) M (fun q M1 => ∃ r, q = some (.long r) ∧ Fr G 40 j' (.ref 39 :: As) M1 (fun q2 M2 => q2 = some (.long r) ∧ GoodT M2))
theorem s_trace (hg : GoodT M) : SameL G 111 176 [] M :=
  Fr_mono (fun q M1 e => by
    obtain ⟨rfl, rfl⟩ := e
    refine ⟨_, rfl, Fr_mono (fun q2 M2 e2 => ?_) (m_trace (d := 40))⟩
    obtain ⟨rfl, rfl⟩ := e2
    exact ⟨by rw [hg.2], hg⟩) (c_trace (d := 40))
end TRACE
