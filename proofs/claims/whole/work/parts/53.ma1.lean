-- match: the words
def hv (B : Nat) (g : Nat → Nat) : Nat → Nat
  | 0 => 0
  | m + 1 => hv B g m * B + g m
theorem hv_cg {B : Nat} {g h : Nat → Nat} : ∀ n, (∀ i, i < n → g i = h i) → hv B g n = hv B h n
  | 0, _ => rfl
  | n + 1, q => by
    show hv B g n * B + g n = hv B h n * B + h n
    rw [hv_cg n (fun i hi => q i (by omega)), q n (by omega)]
theorem dm_ {B a x c y : Nat} (hx : x < B) (hy : y < B) (h : a * B + x = c * B + y) : a = c ∧ x = y := by
  rcases Nat.lt_trichotomy a c with q | q | q
  · have := Nat.mul_le_mul_right B (show a + 1 ≤ c from q)
    rw [Nat.succ_mul] at this
    omega
  · subst q
    exact ⟨rfl, by omega⟩
  · have := Nat.mul_le_mul_right B (show c + 1 ≤ a from q)
    rw [Nat.succ_mul] at this
    omega
theorem hv_inj {B : Nat} {g h : Nat → Nat} : ∀ n, (∀ i, i < n → g i < B) → (∀ i, i < n → h i < B) → hv B g n = hv B h n → ∀ i, i < n → g i = h i
  | 0, _, _, _, i, hi => by omega
  | n + 1, h1, h2, e, i, hi => by
    have e : hv B g n * B + g n = hv B h n * B + h n := e
    obtain ⟨a, b⟩ := dm_ (h1 n (by omega)) (h2 n (by omega)) e
    by_cases q : i = n
    · rw [q]; exact b
    · exact hv_inj n (fun i hi => h1 i (by omega)) (fun i hi => h2 i (by omega)) a i (by omega)
theorem hv_lt {B x T a : Nat} (hx : x < B) : a * B + x < T * B ↔ a < T := by
  constructor
  · intro h
    rcases Nat.lt_or_ge a T with q | q
    · exact q
    · have := Nat.mul_le_mul_right B q
      omega
  · intro h
    have := Nat.mul_le_mul_right B (show a + 1 ≤ T from h)
    rw [Nat.succ_mul] at this
    omega
def carM (M : WM) (m b : Nat) : Prop := ¬ rn0 M m b zlo (wg M 43 (3 + b)) = nI 0
def opn (M : WM) (m : Nat) : Prop := ¬ bt (wg M 43 1 ||| wg M 43 2) (nI m)
def Rv (M : WM) (g : Nat → Nat) (n : Nat) : Prop := ∀ i, i < n → g i ≤ nB M ∧ (g i ≠ 0 → opn M i ∧ carM M i (g i - 1) ∧ ∀ j, j < i → g j ≠ g i)
def Vv (M : WM) (g : Nat → Nat) (n : Nat) : Prop := ∀ i, i < n → g i ≤ nB M ∧ (g i ≠ 0 → opn M i ∧ (¬ wg M 43 (3 + (g i - 1)) = nI 0) ∧ ∀ j, j < i → g j ≠ g i)
def wS (M : WM) (g : Nat → Nat) : Nat → Nat
  | 0 => 0
  | m + 1 => wS M g m + (if g m = 0 then 0 else cN M 41 (8 * m))
noncomputable def iteN (c : Prop) (a b : Nat) : Nat := @ite _ c (Classical.propDecidable c) a b
theorem iteN_t {c : Prop} {a b : Nat} (h : c) : iteN c a b = a := by unfold iteN; exact if_pos h
theorem iteN_f {c : Prop} {a b : Nat} (h : ¬ c) : iteN c a b = b := by unfold iteN; exact if_neg h
noncomputable def wV (M : WM) (g : Nat → Nat) : Nat → Nat
  | 0 => 0
  | m + 1 => wV M g m + iteN (g m ≠ 0 ∧ carM M m (g m - 1)) (cN M 41 (8 * m)) 0
theorem carM_d {M : WM} {m b : Nat} (h : carM M m b) : ¬ wg M 43 (3 + b) = nI 0 := fun q => h (if_pos q)
theorem wS_cg {M : WM} {g h : Nat → Nat} : ∀ n, (∀ i, i < n → g i = h i) → wS M g n = wS M h n
  | 0, _ => rfl
  | n + 1, q => by
    show wS M g n + _ = wS M h n + _
    rw [wS_cg n (fun i hi => q i (by omega)), q n (by omega)]
theorem wV_cg {M : WM} {g h : Nat → Nat} : ∀ n, (∀ i, i < n → g i = h i) → wV M g n = wV M h n
  | 0, _ => rfl
  | n + 1, q => by
    show wV M g n + _ = wV M h n + _
    rw [wV_cg n (fun i hi => q i (by omega)), q n (by omega)]
theorem Rv.cg {M : WM} {g h : Nat → Nat} {n : Nat} (r : Rv M g n) (q : ∀ i, i < n → g i = h i) : Rv M h n := fun i hi => by
  rw [← q i hi]
  refine ⟨(r i hi).1, fun z => ⟨((r i hi).2 z).1, ((r i hi).2 z).2.1, fun j hj => ?_⟩⟩
  rw [← q j (by omega)]
  exact ((r i hi).2 z).2.2 j hj
theorem Vv.cg {M : WM} {g h : Nat → Nat} {n : Nat} (r : Vv M g n) (q : ∀ i, i < n → g i = h i) : Vv M h n := fun i hi => by
  rw [← q i hi]
  refine ⟨(r i hi).1, fun z => ⟨((r i hi).2 z).1, ((r i hi).2 z).2.1, fun j hj => ?_⟩⟩
  rw [← q j (by omega)]
  exact ((r i hi).2 z).2.2 j hj
theorem Rv.V {M : WM} {g : Nat → Nat} {n : Nat} (r : Rv M g n) : Vv M g n := fun i hi => ⟨(r i hi).1, fun z => ⟨((r i hi).2 z).1, carM_d ((r i hi).2 z).2.1, ((r i hi).2 z).2.2⟩⟩
theorem Rv.lt {M : WM} {g : Nat → Nat} {n : Nat} (r : Rv M g n) : ∀ i, i < n → g i < nB M + 1 := fun i hi => by have := (r i hi).1; omega
theorem Vv.lt {M : WM} {g : Nat → Nat} {n : Nat} (r : Vv M g n) : ∀ i, i < n → g i < nB M + 1 := fun i hi => by have := (r i hi).1; omega
theorem Rv.w {M : WM} {g : Nat → Nat} : ∀ n, Rv M g n → wV M g n = wS M g n
  | 0, _ => rfl
  | n + 1, r => by
    show wV M g n + _ = wS M g n + _
    rw [Rv.w n (fun i hi => r i (by omega))]
    by_cases e : g n = 0
    · rw [iteN_f (fun q => q.1 e), if_pos e]
    · rw [iteN_t ⟨e, ((r n (by omega)).2 e).2.1⟩, if_neg e]
/-- no baby beside a motion that would wake it -/
noncomputable def rs (M : WM) (g : Nat → Nat) : Nat → Nat := fun i => iteN (g i ≠ 0 ∧ carM M i (g i - 1)) (g i) 0
theorem rs_n0 {M : WM} {g : Nat → Nat} {i : Nat} (h : rs M g i ≠ 0) : rs M g i = g i ∧ g i ≠ 0 ∧ carM M i (g i - 1) := by
  rcases Classical.em (g i ≠ 0 ∧ carM M i (g i - 1)) with q | q
  · exact ⟨iteN_t q, q⟩
  · exact absurd (iteN_f q) h
theorem rs_le {M : WM} {g : Nat → Nat} (i : Nat) : rs M g i ≤ g i := by
  rcases Classical.em (g i ≠ 0 ∧ carM M i (g i - 1)) with q | q
  · exact Nat.le_of_eq (iteN_t q)
  · have e : rs M g i = 0 := iteN_f q
    omega
theorem rs_R {M : WM} {g : Nat → Nat} {n : Nat} (r : Vv M g n) : Rv M (rs M g) n := fun i hi => by
  refine ⟨Nat.le_trans (rs_le i) (r i hi).1, fun z => ?_⟩
  obtain ⟨e, h0, hc⟩ := rs_n0 z
  rw [e]
  refine ⟨((r i hi).2 h0).1, hc, fun j hj q => ?_⟩
  have z2 : rs M g j ≠ 0 := by rw [q]; exact h0
  rw [(rs_n0 z2).1] at q
  exact ((r i hi).2 h0).2.2 j hj q
theorem rs_w {M : WM} {g : Nat → Nat} : ∀ n, wS M (rs M g) n = wV M g n
  | 0 => rfl
  | n + 1 => by
    show wS M (rs M g) n + _ = wV M g n + _
    rw [rs_w n]
    rcases Classical.em (g n ≠ 0 ∧ carM M n (g n - 1)) with q | q
    · have e : rs M g n = g n := iteN_t q
      rw [iteN_t q, e, if_neg q.1]
    · have e : rs M g n = 0 := iteN_f q
      rw [iteN_f q, if_pos e]
theorem rs_hv {M : WM} {g : Nat → Nat} {B : Nat} : ∀ n, hv B (rs M g) n ≤ hv B g n
  | 0 => Nat.le_refl _
  | n + 1 => by
    show hv B (rs M g) n * B + rs M g n ≤ hv B g n * B + g n
    exact Nat.add_le_add (Nat.mul_le_mul_right B (rs_hv n)) (rs_le n)
def BestR (M : WM) (g : Nat → Nat) : Prop := Rv M g (nMo M) ∧ ∀ h, Rv M h (nMo M) → wS M h (nMo M) < wS M g (nMo M) ∨ (wS M h (nMo M) = wS M g (nMo M) ∧ hv (nB M + 1) g (nMo M) ≤ hv (nB M + 1) h (nMo M))
def BestV (M : WM) (g : Nat → Nat) : Prop := Vv M g (nMo M) ∧ ∀ h, Vv M h (nMo M) → wV M h (nMo M) < wV M g (nMo M) ∨ (wV M h (nMo M) = wV M g (nMo M) ∧ hv (nB M + 1) g (nMo M) ≤ hv (nB M + 1) h (nMo M))
theorem BestV.R {M : WM} {g : Nat → Nat} (h : BestV M g) : BestR M g ∧ wV M g (nMo M) = wS M g (nMo M) := by
  have r' := rs_R h.1
  have w' : wV M (rs M g) (nMo M) = wV M g (nMo M) := by rw [Rv.w _ r', rs_w]
  have l' := rs_hv (M := M) (g := g) (B := nB M + 1) (nMo M)
  have e : hv (nB M + 1) g (nMo M) = hv (nB M + 1) (rs M g) (nMo M) := by
    rcases h.2 _ r'.V with q | q
    · omega
    · omega
  have eg := hv_inj _ h.1.lt r'.lt e
  have r : Rv M g (nMo M) := r'.cg (fun i hi => (eg i hi).symm)
  refine ⟨⟨r, fun k rk => ?_⟩, Rv.w _ r⟩
  have q := h.2 k rk.V
  rw [Rv.w _ rk, Rv.w _ r] at q
  exact q
theorem BestR.uq {M : WM} {g h : Nat → Nat} (a : BestR M g) (b : BestR M h) : ∀ i, i < nMo M → g i = h i := by
  have q1 := a.2 h b.1
  have q2 := b.2 g a.1
  exact hv_inj _ a.1.lt b.1.lt (by omega)
/-- g is the best of those h of V whose number f is below T; x: its worth, or -1 -/
def Bs1 (V : (Nat → Nat) → Prop) (W H f : (Nat → Nat) → Nat) (T : Nat) (x : Int32) (R : (Nat → Nat) → Prop) : Prop :=
  (x = mI 1 ∧ ∀ h, V h → ¬ f h < T) ∨ ∃ g, x = nI (W g) ∧ R g ∧ V g ∧ f g < T ∧ ∀ h, V h → f h < T → W h < W g ∨ (W h = W g ∧ H g ≤ H h)
section BS1
variable {V R R' : (Nat → Nat) → Prop} {W H f f' : (Nat → Nat) → Nat} {T T' : Nat} {x : Int32}
theorem Bs1.cg (b : Bs1 V W H f T x R) (e : ∀ h, V h → (f h < T ↔ f' h < T')) : Bs1 V W H f' T' x R := by
  rcases b with ⟨a, c⟩ | ⟨g, a, c, d, e1, e2⟩
  · exact Or.inl ⟨a, fun h v q => c h v ((e h v).mpr q)⟩
  · exact Or.inr ⟨g, a, c, d, (e g d).mp e1, fun h v q => e2 h v ((e h v).mpr q)⟩
theorem Bs1.no (b : Bs1 V W H f T x R) (e : ∀ h, V h → ¬ f h = T) : Bs1 V W H f (T + 1) x R := b.cg (fun h v => by have := e h v; omega)
theorem Bs1.new {p : Nat → Nat} (b : Bs1 V W H H T x R) (vp : V p) (hp : H p = T) (hu : ∀ h, V h → H h = T → W h = W p) (hb : ∀ h, V h → W h < 2 ^ 31) (hx : x < nI (W p)) (r : R' p) : Bs1 V W H H (T + 1) (nI (W p)) R' := by
  refine Or.inr ⟨p, rfl, r, vp, by omega, fun h v q => ?_⟩
  rcases Nat.lt_or_ge (H h) T with c | c
  · rcases b with ⟨_, c2⟩ | ⟨g, a, _, vg, _, e2⟩
    · exact absurd c (c2 h v)
    · rw [a, nI_ltI (hb g vg) (hb p vp)] at hx
      have := e2 h v c
      omega
  · exact Or.inr ⟨hu h v (by omega), by omega⟩
theorem Bs1.old {p : Nat → Nat} (b : Bs1 V W H H T x R) (vp : V p) (hp : H p = T) (hu : ∀ h, V h → H h = T → W h = W p) (hb : ∀ h, V h → W h < 2 ^ 31) (hx : ¬ x < nI (W p)) : Bs1 V W H H (T + 1) x R := by
  rcases b with ⟨a, _⟩ | ⟨g, a, r, vg, e1, e2⟩
  · refine absurd ?_ hx
    rw [a, Int32.lt_iff_toInt_lt, nI_toInt (hb p vp), show (mI 1).toInt = -1 from rfl]
    omega
  · refine Or.inr ⟨g, a, r, vg, by omega, fun h v q => ?_⟩
    rcases Nat.lt_or_ge (H h) T with c | c
    · exact e2 h v c
    · rw [a, nI_ltI (hb g vg) (hb p vp)] at hx
      have := hu h v (by omega)
      omega
end BS1
def enc (x : Nat) : Int32 := if x = 0 then mI 9 else nI (x - 1)
noncomputable def S_match (M : WM) (x : Int32) : Int32 := iteI (x = mI 1) (nI (wS M (Classical.epsilon (BestR M)) (nMo M))) (enc (Classical.epsilon (BestR M) x.toNatClampNeg))
noncomputable def R_match (M : WM) (x : Int32) : Int32 := iteI (x = mI 1 ∨ ix x (nMo M)) (S_match M x) (mI 1)
theorem S_m_w {M : WM} {g : Nat → Nat} (h : BestR M g) : S_match M (mI 1) = nI (wS M g (nMo M)) := by
  have hs : BestR M (Classical.epsilon (BestR M)) := Classical.epsilon_spec ⟨g, h⟩
  exact (iteI_t rfl).trans (by rw [wS_cg _ (hs.uq h)])
theorem S_m_at {M : WM} {g : Nat → Nat} (h : BestR M g) {k : Nat} (hk : k < nMo M) (h5 : nMo M ≤ 5) : S_match M (nI k) = enc (g k) := by
  have hs : BestR M (Classical.epsilon (BestR M)) := Classical.epsilon_spec ⟨g, h⟩
  unfold S_match
  rw [iteI_f (fun q => by
    have := congrArg Int32.toInt q
    rw [nI_toInt (by omega), show (mI 1).toInt = -1 from rfl] at this
    omega), nI_clamp (by omega), hs.uq h k hk]
theorem wS_le {M : WM} (hG : GM M) (g : Nat → Nat) : ∀ n, n ≤ nMo M → wS M g n ≤ n * 99
  | 0, _ => Nat.le_refl _
  | n + 1, h => by
    have ih := wS_le hG g n (by omega)
    have h1 : cN M 41 (8 * n) ≤ 99 := (hG.2.1 n (by omega)).1.2
    show wS M g n + _ ≤ _
    by_cases e : g n = 0
    · rw [if_pos e]; omega
    · rw [if_neg e]; omega
theorem wV_le {M : WM} (hG : GM M) (g : Nat → Nat) : ∀ n, n ≤ nMo M → wV M g n ≤ n * 99
  | 0, _ => Nat.le_refl _
  | n + 1, h => by
    have ih := wV_le hG g n (by omega)
    have h1 : cN M 41 (8 * n) ≤ 99 := (hG.2.1 n (by omega)).1.2
    show wV M g n + _ ≤ _
    rcases Classical.em (g n ≠ 0 ∧ carM M n (g n - 1)) with q | q
    · rw [iteN_t q]; omega
    · rw [iteN_f q]; omega
