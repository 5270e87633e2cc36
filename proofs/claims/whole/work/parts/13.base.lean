theorem Fn_of {G : GG} {d j : Nat} {As : List Value} {M M' : WM} {r : Option Value} {cd : Nat → Leaf} (hcd : ∀ pc, okLf (MN j).cls (MB j) pc (cd pc) = true) (cuts : List Nat) (h : wp G d j cd cuts (fun r' M2 => r' = r ∧ M2 = M') 5000 0 (As.map some ++ List.replicate (ML j - As.length) none) [] M) : Fn G d j As M r M' := A_of_wp hcd 5000 0 _ [] M h
theorem A_wp {G : GG} {d j pc : Nat} {L : LC} {st : List Value} {M : WM} {Q : Option Value → WM → Prop} {cd : Nat → Leaf} (hcd : ∀ pc, okLf (MN j).cls (MB j) pc (cd pc) = true) (cuts : List Nat) (h : wp G d j cd cuts Q 5000 pc L st M) : A G d j pc L st M Q := A_of_wp hcd 5000 pc L st M h
theorem isB_0 : isB (nI 0) := Or.inl rfl
theorem isB_1 : isB (nI 1) := Or.inr rfl
theorem ret_i {x y : Int32} {M : WM} (h : x = y) : some (Value.int x) = some (Value.int y) ∧ M = M := ⟨by rw [h], rfl⟩
theorem call_k {G : GG} {d a : Nat} {As : List Value} {M M' : WM} {r : Option Value} {K : Option Value → WM → Prop} (h : Fn G d a As M r M') (k : K r M') : ∃ P, Fr G d a As M P ∧ ∀ r M', P r M' → K r M' := ⟨_, h, fun r2 M2 q => by obtain ⟨rfl, rfl⟩ := q; exact k⟩
/-- a call of which only a relation is known -/
theorem call_r {G : GG} {d a : Nat} {As : List Value} {M : WM} {P : Option Value → WM → Prop} {K : Option Value → WM → Prop} (h : Fr G d a As M P) (k : ∀ r M', P r M' → K r M') : ∃ P, Fr G d a As M P ∧ ∀ r M', P r M' → K r M' := ⟨P, h, k⟩
theorem Fr_of {G : GG} {d j : Nat} {As : List Value} {M : WM} {P : Option Value → WM → Prop} {cd : Nat → Leaf} (hcd : ∀ pc, okLf (MN j).cls (MB j) pc (cd pc) = true) (cuts : List Nat) (h : wp G d j cd cuts P 5000 0 (As.map some ++ List.replicate (ML j - As.length) none) [] M) : Fr G d j As M P := A_of_wp hcd 5000 0 _ [] M h
theorem n01 : ¬ nI 0 = nI 1 := by decide
theorem n10 : ¬ nI 1 = nI 0 := by decide
/-- the truth of a test as the machine has it -/
noncomputable def bI (c : Prop) : Int32 := @ite Int32 c (Classical.propDecidable c) (nI 1) (nI 0)
theorem bI_t {c : Prop} (h : c) : bI c = nI 1 := by unfold bI; exact if_pos h
theorem bI_f {c : Prop} (h : ¬ c) : bI c = nI 0 := by unfold bI; exact if_neg h
theorem bI_iff {c c' : Prop} (h : c ↔ c') : bI c = bI c' := by rw [show c = c' from propext h]
theorem isB_bI (c : Prop) : isB (bI c) := by
  rcases Classical.em c with h | h
  · rw [bI_t h]; exact isB_1
  · rw [bI_f h]; exact isB_0
theorem bI_0 {c : Prop} : bI c = nI 0 ↔ ¬ c := by
  rcases Classical.em c with h | h
  · rw [bI_t h]; exact ⟨fun q => absurd q n10, fun q => absurd h q⟩
  · rw [bI_f h]; exact ⟨fun _ => h, fun _ => rfl⟩
theorem bI_1 {c : Prop} : bI c = nI 1 ↔ c := by
  rcases Classical.em c with h | h
  · rw [bI_t h]; exact ⟨fun _ => h, fun _ => rfl⟩
  · rw [bI_f h]; exact ⟨fun q => absurd q n01, fun q => absurd q h⟩
/-- a number from 0 to below n -/
def ix (x : Int32) (n : Nat) : Prop := ¬ x < nI 0 ∧ x < nI n
theorem ix_n {k n : Nat} (h : k < n) (hn : n < 2 ^ 31) : ix (nI k) n := ⟨nI_nlt (Nat.zero_le k) (by omega), nI_lt h hn⟩
theorem ix_of {x : Int32} {n : Nat} (h : ix x n) (hn : n < 2 ^ 31) : ∃ k, k < n ∧ x = nI k := by
  obtain ⟨j, hj, rfl⟩ := nI_of (x := x) (by rw [← nI_0]; exact h.1)
  exact ⟨j, (nI_ltI hj hn).mp h.2, rfl⟩
theorem ix_dec (x : Int32) (n : Nat) : ix x n ∨ ¬ ix x n := Classical.em _
def cN (M : WM) (i k : Nat) : Nat := (wg M i k).toNatClampNeg
def isN (M : WM) (i k B : Nat) : Prop := wg M i k = nI (cN M i k) ∧ cN M i k ≤ B
def nW (M : WM) : Nat := cN M 39 0
def nMo (M : WM) : Nat := cN M 39 2
def nB (M : WM) : Nat := cN M 39 4
def nK (M : WM) : Nat := cN M 39 8
def nH (M : WM) : Nat := cN M 39 11
def nT (M : WM) : Nat := cN M 39 15
def len (M : WM) (m : Nat) : Nat := cN M 41 (8 * m + 1)
def txt (M : WM) (m k : Nat) : Nat := cN M 41 (8 * m + 2 + k)
def Snap (M : WM) (i o : Nat) : Prop := isN M i (o + 1) 31 ∧ isN M i (o + 2) 31 ∧ ∀ b, b < 4 → isN M i (o + 3 + b) 9
/-- what always holds of the reference's cells -/
def GM (M : WM) : Prop :=
  (isN M 39 0 6 ∧ isN M 39 2 5 ∧ isN M 39 4 4 ∧ isN M 39 8 10 ∧ isN M 39 11 6 ∧ isN M 39 15 200) ∧
  (∀ m, m < nMo M → isN M 41 (8 * m) 99 ∧ isN M 41 (8 * m + 1) 6 ∧ 1 ≤ len M m ∧ ∀ k, k < len M m → isN M 41 (8 * m + 2 + k) 5 ∧ txt M m k < nW M) ∧
  (Snap M 43 0 ∧ (∀ t, t < nK M → Snap M 44 (11 * t)) ∧ ∀ i, i < 2 → isN M 46 i 1 ∧ (cN M 46 i = 1 → Snap M 45 (11 * i))) ∧
  (∀ k, k < nH M → isN M 47 (2 * k) 3 ∧ cN M 47 (2 * k) < nB M ∧ isN M 47 (2 * k + 1) 6) ∧
  (∀ k, k < nT M → isN M 48 k 255)
/-- how the class's cells stand to the reference's -/
def RLc (M : WM) : Prop :=
  (wg M 1 0 = wg M 39 0 ∧ wg M 1 1 = wg M 39 2 ∧ wg M 1 2 = wg M 39 4) ∧
  (∀ w, w < nW M → wg M 12 w = wg M 40 (2 * w) ∧ wg M 13 w = wg M 40 (2 * w + 1)) ∧
  (∀ m, m < nMo M → wg M 14 m = wg M 41 (8 * m) ∧ wg M 15 m = wg M 41 (8 * m + 1) ∧ ∀ k, k < len M m → wg M 16 (6 * m + k) = wg M 41 (8 * m + 2 + k)) ∧
  (∀ b, b < nB M → wg M 18 b = wg M 42 (2 * b) ∧ wg M 19 b = wg M 42 (2 * b + 1)) ∧
  (∀ k, k < 11 → wg M 30 k = wg M 43 ((k + 3) % 11)) ∧
  (wg M 5 0 = wg M 39 8 ∧ isN M 5 1 9 ∧ ∀ t, t < nK M → ∀ k, k < 11 → wg M 31 (11 * ((cN M 5 1 + 10 - nK M + t) % 10) + k) = wg M 44 (11 * t + (k + 3) % 11)) ∧
  (wg M 0 6 = nI (cN M 46 0 + 2 * cN M 46 1) ∧ ∀ i, i < 2 → cN M 46 i = 1 → ∀ k, k < 11 → wg M 6 (11 * i + k) = wg M 45 (11 * i + (k + 3) % 11)) ∧
  (wg M 10 0 = wg M 39 11 ∧ ∀ k, k < nH M → wg M 37 k = wg M 47 (2 * k) ∧ wg M 38 k = wg M 47 (2 * k + 1)) ∧
  (wg M 3 0 = wg M 39 15 ∧ ∀ k, k < nT M → wg M 28 k = wg M 48 k)
def Good (M : WM) : Prop := GM M ∧ RLc M
/-- THE TRACE too -/
def GoodT (M : WM) : Prop := Good M ∧ wl M 11 = wl M 39
theorem Good_L {M : WM} {i : Nat} {v : Int64} (h : Good M) : Good (wsetL M i v) := h
section PROJ
variable {M : WM}
theorem Good.w (h : Good M) : wg M 1 0 = nI (nW M) ∧ nW M ≤ 6 := ⟨h.2.1.1.trans h.1.1.1.1, h.1.1.1.2⟩
theorem Good.m (h : Good M) : wg M 1 1 = nI (nMo M) ∧ nMo M ≤ 5 := ⟨h.2.1.2.1.trans h.1.1.2.1.1, h.1.1.2.1.2⟩
theorem Good.b (h : Good M) : wg M 1 2 = nI (nB M) ∧ nB M ≤ 4 := ⟨h.2.1.2.2.trans h.1.1.2.2.1.1, h.1.1.2.2.1.2⟩
theorem GM.w (h : GM M) : wg M 39 0 = nI (nW M) ∧ nW M ≤ 6 := h.1.1
theorem GM.m (h : GM M) : wg M 39 2 = nI (nMo M) ∧ nMo M ≤ 5 := h.1.2.1
theorem GM.b (h : GM M) : wg M 39 4 = nI (nB M) ∧ nB M ≤ 4 := h.1.2.2.1
theorem GM.k (h : GM M) : wg M 39 8 = nI (nK M) ∧ nK M ≤ 10 := h.1.2.2.2.1
theorem GM.h (h : GM M) : wg M 39 11 = nI (nH M) ∧ nH M ≤ 6 := h.1.2.2.2.2.1
theorem GM.t (h : GM M) : wg M 39 15 = nI (nT M) ∧ nT M ≤ 200 := h.1.2.2.2.2.2
theorem GM.ln (h : GM M) {m : Nat} (hm : m < nMo M) : wg M 41 (8 * m + 1) = nI (len M m) ∧ 1 ≤ len M m ∧ len M m ≤ 6 := ⟨(h.2.1 m hm).2.1.1, (h.2.1 m hm).2.2.1, (h.2.1 m hm).2.1.2⟩
theorem GM.tx (h : GM M) {m k : Nat} (hm : m < nMo M) (hk : k < len M m) : wg M 41 (8 * m + 2 + k) = nI (txt M m k) ∧ txt M m k < nW M := ⟨((h.2.1 m hm).2.2.2 k hk).1.1, ((h.2.1 m hm).2.2.2 k hk).2⟩
theorem GM.dep (h : GM M) {b : Nat} (hb : b < 4) : wg M 43 (3 + b) = nI (cN M 43 (3 + b)) ∧ cN M 43 (3 + b) ≤ 9 := by
  have := h.2.2.1.1.2.2 b hb
  rw [Nat.zero_add] at this
  exact this
end PROJ
