-- facts of the shapes
theorem kd_lt {i : Nat} (h : (kd i).1 ≠ 3) : i < 61 := by
  rcases Nat.lt_or_ge 60 i with q | q
  · rw [kd, ble_f q] at h
    exact absurd rfl h
  · omega
theorem kd_eq_lt {i n : Nat} (h : Nat.beq (kd i).1 n = true) (hn : n ≠ 3) : i < 61 := kd_lt (by rw [Nat.eq_of_beq_eq_true h]; exact hn)
theorem simW_at {G : GG} {M : WM} {i : Nat} (h : i < 61) : (simW G M)[i]? = some (G.2.2.1 i, cellE G M i) := by
  simp [simW, List.getElem?_range h]
theorem simW_len (G : GG) (M : WM) : (simW G M).length = 61 := by simp [simW]
theorem simW_D {G : GG} {M : WM} {A0 : Nat → Prop} (h1 : ∀ i k, i < 61 → k < 61 → G.2.2.1 i = G.2.2.1 k → i = k) (h2 : ∀ i, i < 61 → A0 (G.2.2.1 i)) : va_D A0 (simW G M) := by
  have key : ∀ (k : Nat) (q : Nat × va_E), (simW G M)[k]? = some q → k < 61 ∧ q = (G.2.2.1 k, cellE G M k) := by
    intro k q hk
    have hl : k < 61 := by
      have := (List.getElem?_eq_some_iff.mp hk).1
      rwa [simW_len] at this
    rw [simW_at hl] at hk
    exact ⟨hl, (Option.some.inj hk).symm⟩
  refine ⟨fun i k p q hi hk hpq => ?_, fun k q hk => ?_⟩
  · obtain ⟨a1, rfl⟩ := key i p hi
    obtain ⟨a2, rfl⟩ := key k q hk
    exact h1 i k a1 a2 hpq
  · obtain ⟨a1, rfl⟩ := key k q hk
    exact h2 k a1
theorem simW_set {G : GG} {M M' : WM} {i : Nat} {e : va_E} (h : i < 61) (he : e = cellE G M' i) (ho : ∀ k, k ≠ i → cellE G M' k = cellE G M k) : (simW G M).set i (G.2.2.1 i, e) = simW G M' := by
  subst he
  apply List.ext_getElem?
  intro k
  by_cases hk : k = i
  · subst hk
    rw [List.getElem?_set_self (by rw [simW_len]; exact h), simW_at h]
  · rw [List.getElem?_set_ne (Ne.symm hk)]
    rcases Nat.lt_or_ge k 61 with q | q
    · rw [simW_at q, simW_at q, ho k hk]
    · rw [List.getElem?_eq_none (by rw [simW_len]; exact q), List.getElem?_eq_none (by rw [simW_len]; exact q)]
theorem wg_row_ne {M : WM} {i k a : Nat} {v : Int32} (h : a ≠ i) : wg (wset M i k v) a = wg M a := by
  funext b
  rw [wg_set, if_neg (fun q => h q.1)]
theorem wg_row {M : WM} {i k : Nat} {v : Int32} : wg (wset M i k v) i = upd (wg M i) k v := by
  funext b
  rw [wg_set]
  by_cases h : b = k
  · rw [if_pos ⟨rfl, h⟩, h, pk_us]
  · rw [if_neg (fun q => h q.2), pk_un h]
theorem cellE_ne {G : GG} {M : WM} {i k a : Nat} {v : Int32} (h : a ≠ i) : cellE G (wset M i k v) a = cellE G M a := by
  have e : ∀ b, fv (wset M i k v) a b = fv M a b := by
    intro b
    unfold fv
    rw [wl_set, wg_row_ne h]
  unfold cellE
  rw [wg_row_ne h]
  simp only [e]
theorem cellE_neL {G : GG} {M : WM} {i a : Nat} {v : Int64} (h : a ≠ i) : cellE G (wsetL M i v) a = cellE G M a := by
  have e : ∀ b, fv (wsetL M i v) a b = fv M a b := by
    intro b
    unfold fv
    rw [wl_setL, if_neg h, wg_setL]
  have e2 : wg (wsetL M i v) a = wg M a := by funext b; rw [wg_setL]
  unfold cellE
  rw [e2]
  simp only [e]
theorem cellE_obj {G : GG} {M : WM} {i : Nat} (h : (kd i).1 = 0) : cellE G M i = .inr ((kd i).2.1, (List.range (NF (kd i).2.1)).map (fun k => cv G.2.2.1 (fv M i k))) := by unfold cellE; rw [h]; rfl
theorem cellE_int {G : GG} {M : WM} {i : Nat} (h : (kd i).1 = 1) : cellE G M i = .inl (G.2.2.2.1, (kd i).2.2, .inl (wg M i)) := by unfold cellE; rw [h]; rfl
theorem cellE_bool {G : GG} {M : WM} {i : Nat} (h : (kd i).1 = 2) : cellE G M i = .inl (G.2.2.2.2.1, (kd i).2.2, .inl (wg M i)) := by unfold cellE; rw [h]; rfl
theorem range_map_set {n k : Nat} (f g : Nat → Value) (hk : ∀ b, b ≠ k → g b = f b) : ((List.range n).map f).set k (g k) = (List.range n).map g := by
  apply List.ext_getElem?
  intro b
  by_cases hb : b = k
  · subst hb
    rcases Nat.lt_or_ge b n with q | q
    · rw [List.getElem?_set_self (by simpa using q)]
      simp [List.getElem?_range q]
    · rw [List.getElem?_eq_none (by simpa using q), List.getElem?_eq_none (by simpa using q)]
  · rw [List.getElem?_set_ne (Ne.symm hb)]
    rcases Nat.lt_or_ge b n with q | q
    · simp [List.getElem?_range q, hk b hb]
    · rw [List.getElem?_eq_none (by simpa using q), List.getElem?_eq_none (by simpa using q)]
theorem put_int {G : GG} {M : WM} {i k : Nat} {v : Int32} (h0 : (kd i).1 = 0) (hf : fkd (kd i).2.1 k = 0 ∨ fkd (kd i).2.1 k = 3) : (simW G M).set i (G.2.2.1 i, .inr ((kd i).2.1, ((List.range (NF (kd i).2.1)).map (fun k => cv G.2.2.1 (fv M i k))).set k (.int v))) = simW G (wset M i k v) := by
  refine simW_set (kd_lt (by rw [h0]; decide)) ?_ (fun a ha => cellE_ne ha)
  rw [cellE_obj h0]
  have e : (Value.int v) = cv G.2.2.1 (fv (wset M i k v) i k) := by
    have : fv (wset M i k v) i k = .int v := by
      unfold fv
      rcases hf with h | h <;> rw [h] <;> simp [wg_set]
    rw [this]; rfl
  rw [e]
  congr 2
  refine range_map_set (fun k => cv G.2.2.1 (fv M i k)) (fun b => cv G.2.2.1 (fv (wset M i k v) i b)) (fun b hb => ?_)
  show cv _ (fv (wset M i k v) i b) = cv _ (fv M i b)
  have e2 : fv (wset M i k v) i b = fv M i b := by
    unfold fv
    rw [wl_set, wg_set, if_neg (fun q => hb q.2)]
  rw [e2]
theorem put_long {G : GG} {M : WM} {i k : Nat} {v : Int64} (h0 : (kd i).1 = 0) (hf : fkd (kd i).2.1 k = 1) (hu : ∀ b, b ≠ k → fkd (kd i).2.1 b ≠ 1) : (simW G M).set i (G.2.2.1 i, .inr ((kd i).2.1, ((List.range (NF (kd i).2.1)).map (fun k => cv G.2.2.1 (fv M i k))).set k (.long v))) = simW G (wsetL M i v) := by
  refine simW_set (kd_lt (by rw [h0]; decide)) ?_ (fun a ha => cellE_neL ha)
  rw [cellE_obj h0]
  have e : (Value.long v) = cv G.2.2.1 (fv (wsetL M i v) i k) := by
    have : fv (wsetL M i v) i k = .long v := by
      unfold fv
      rw [hf]; simp [wl_setL]
    rw [this]; rfl
  rw [e]
  congr 2
  refine range_map_set (fun k => cv G.2.2.1 (fv M i k)) (fun b => cv G.2.2.1 (fv (wsetL M i v) i b)) (fun b hb => ?_)
  show cv _ (fv (wsetL M i v) i b) = cv _ (fv M i b)
  have e2 : fv (wsetL M i v) i b = fv M i b := by
    have h1 := hu b hb
    unfold fv
    rw [wg_setL]
    split
    · rename_i h; exact absurd h h1
    · rfl
    · rfl
  rw [e2]
theorem put_arr {G : GG} {M : WM} {i k : Nat} {v : Int32} (h1 : (kd i).1 = 1) : (simW G M).set i (G.2.2.1 i, .inl (G.2.2.2.1, (kd i).2.2, .inl (upd (wg M i) k v))) = simW G (wset M i k v) := by
  refine simW_set (kd_lt (by rw [h1]; decide)) ?_ (fun a ha => cellE_ne ha)
  rw [cellE_int h1, wg_row]
theorem put_arrZ {G : GG} {M : WM} {i k : Nat} {v : Int32} (h1 : (kd i).1 = 2) : (simW G M).set i (G.2.2.1 i, .inl (G.2.2.2.2.1, (kd i).2.2, .inl (upd (wg M i) k v))) = simW G (wset M i k v) := by
  refine simW_set (kd_lt (by rw [h1]; decide)) ?_ (fun a ha => cellE_ne ha)
  rw [cellE_bool h1, wg_row]
theorem wcpy_row_ne {M : WM} {i0 i1 sp dp n a : Nat} (h : a ≠ i1) : wg (wcpy M i0 i1 sp dp n) a = wg M a := by
  funext b
  rw [wg_cpy, if_neg h]
theorem put_cpy {G : GG} {M : WM} {i0 i1 sp dp n : Nat} (h1 : (kd i1).1 = 1) : (simW G M).set i1 (G.2.2.1 i1, .inl (G.2.2.2.1, (kd i1).2.2, .inl (va_cpy (wg M i0) (wg M i1) sp dp n))) = simW G (wcpy M i0 i1 sp dp n) := by
  refine simW_set (kd_lt (by rw [h1]; decide)) ?_ (fun a ha => ?_)
  · rw [cellE_int h1]
    have e : va_cpy (wg M i0) (wg M i1) sp dp n = wg (wcpy M i0 i1 sp dp n) i1 := by
      funext b
      show _ = (if i1 = i1 then _ else _)
      rw [if_pos rfl]; rfl
    rw [e]
  · have e : ∀ b, fv (wcpy M i0 i1 sp dp n) a b = fv M a b := by
      intro b
      unfold fv
      rw [wl_cpy, wcpy_row_ne ha]
    unfold cellE
    rw [wcpy_row_ne ha]
    simp only [e]
-- facts of the tables
theorem vwCl_at : ∀ {a : Nat}, a < 11 → vwCl[a]? = some (RR a, TT a, NF a)
  | 0, _ => rfl
  | 1, _ => rfl
  | 2, _ => rfl
  | 3, _ => rfl
  | 4, _ => rfl
  | 5, _ => rfl
  | 6, _ => rfl
  | 7, _ => rfl
  | 8, _ => rfl
  | 9, _ => rfl
  | 10, _ => rfl
  | n + 11, h => absurd h (by omega)
def fkOK (a k : Nat) : Bool := decide ((TT a k).1 = RR a) && decide (parseFieldDescriptor (TT a k).2.2.1 = some (TY a k)) && (!(Nat.beq (fkd a k) 0) || decide (TY a k = .int)) && (!(Nat.beq (fkd a k) 3) || decide (TY a k = .boolean)) && (!(Nat.beq (fkd a k) 1) || decide (TY a k = .long))
theorem fkOK_all : (List.range 11).all (fun a => (List.range (NF a)).all (fun k => fkOK a k)) = true := by decide +kernel
theorem fkOK_at {a k : Nat} (ha : a < 11) (hk : k < NF a) : (TT a k).1 = RR a ∧ parseFieldDescriptor (TT a k).2.2.1 = some (TY a k) ∧ (fkd a k = 0 → TY a k = .int) ∧ (fkd a k = 3 → TY a k = .boolean) ∧ (fkd a k = 1 → TY a k = .long) := by
  have h := List.all_eq_true.mp (List.all_eq_true.mp fkOK_all a (List.mem_range.mpr ha)) k (List.mem_range.mpr hk)
  simp only [fkOK, Bool.and_eq_true, decide_eq_true_eq, Bool.or_eq_true, Bool.not_eq_true'] at h
  obtain ⟨⟨⟨⟨h1, h2⟩, h3⟩, h4⟩, h5⟩ := h
  refine ⟨h1, h2, fun q => ?_, fun q => ?_, fun q => ?_⟩
  · rw [q] at h3; simpa using h3
  · rw [q] at h4; simpa using h4
  · rw [q] at h5; simpa using h5
theorem nm_all : (List.range 11).all (fun c => (List.range (NF c)).all (fun a => (List.range (NF c)).all (fun b => Nat.beq a b || decide ((TT c a).2.1 ≠ (TT c b).2.1)))) = true := by decide +kernel
theorem nm_at {c : Nat} (hc : c < 11) : ∀ a, a < NF c → ∀ b, b < NF c → a ≠ b → (TT c a).2.1 ≠ (TT c b).2.1 := by
  intro a ha b hb hne
  have h := List.all_eq_true.mp (List.all_eq_true.mp (List.all_eq_true.mp nm_all c (List.mem_range.mpr hc)) a (List.mem_range.mpr ha)) b (List.mem_range.mpr hb)
  rw [Bool.or_eq_true, decide_eq_true_eq] at h
  exact h.resolve_left (fun q => hne (Nat.eq_of_beq_eq_true q))
theorem uw_all : (List.range 11).all (fun c => (u_ws (RR c) (TT c) (NF c)).all (fun w => decide (w ∈ lw_tbl) && goodWord w)) = true := by decide +kernel
abbrev LT : List Cond := lw_tbl.filter goodWord
theorem uw_at {c : Nat} (hc : c < 11) : ∀ w ∈ u_ws (RR c) (TT c) (NF c), w ∈ LT := by
  intro w hw
  have h := List.all_eq_true.mp (List.all_eq_true.mp uw_all c (List.mem_range.mpr hc)) w hw
  rw [Bool.and_eq_true, decide_eq_true_eq] at h
  exact List.mem_filter.mpr h
theorem oneLong : (List.range 11).all (fun c => (List.range 50).all (fun a => (List.range 50).all (fun b => Nat.beq a b || !(Nat.beq (fkd c a) 1) || !(Nat.beq (fkd c b) 1)))) = true := by decide +kernel
theorem fkd_big {c b : Nat} (hc : c < 11) (h : 50 ≤ b) : fkd c b ≠ 1 := by
  have key : ∀ {c : Nat}, c < 11 → (FK c).length ≤ 50
    | 0, _ => by decide
    | 1, _ => by decide
    | 2, _ => by decide
    | 3, _ => by decide
    | 4, _ => by decide
    | 5, _ => by decide
    | 6, _ => by decide
    | 7, _ => by decide
    | 8, _ => by decide
    | 9, _ => by decide
    | 10, _ => by decide
    | n + 11, h => absurd h (by omega)
  unfold fkd
  have hk := key hc
  rw [List.getD_eq_getElem?_getD, List.getElem?_eq_none (by omega)]
  decide
theorem oneLong_at {c k : Nat} (hc : c < 11) (hk : k < 50) (h : fkd c k = 1) : ∀ b, b ≠ k → fkd c b ≠ 1 := by
  intro b hb e
  rcases Nat.lt_or_ge b 50 with q | q
  · have h1 := List.all_eq_true.mp (List.all_eq_true.mp (List.all_eq_true.mp oneLong c (List.mem_range.mpr hc)) k (List.mem_range.mpr hk)) b (List.mem_range.mpr q)
    rw [h, e] at h1
    simp at h1
    exact hb h1.symm
  · exact fkd_big hc q e
-- locals
def lvL (ad : Nat → Nat) (L : LC) : List (Nat × Value) := (List.range L.length).filterMap (fun i => match L[i]? with
  | some (some v) => some (i, cv ad v)
  | _ => none)
theorem lvL_mem {ad : Nat → Nat} {L : LC} {i : Nat} {v : Value} (h : L[i]? = some (some v)) : (i, cv ad v) ∈ lvL ad L := by
  refine List.mem_filterMap.mpr ⟨i, List.mem_range.mpr (List.getElem?_eq_some_iff.mp h).1, ?_⟩
  rw [h]
theorem lvL_of {ad : Nat → Nat} {L : LC} {q : Nat × Value} (h : q ∈ lvL ad L) : ∃ v, L[q.1]? = some (some v) ∧ q.2 = cv ad v := by
  obtain ⟨i, -, hi⟩ := List.mem_filterMap.mp h
  split at hi
  · rename_i v hv
    cases hi
    exact ⟨v, hv, rfl⟩
  · cases hi
theorem lvR.has {ad : Nat → Nat} {ls : Array Slot} {nL : Nat} {L : LC} (h : lvR ad ls nL L) : lv_has ls nL (lvL ad L) := by
  refine ⟨h.1, h.2.1, fun q hq => ?_⟩
  obtain ⟨v, h1, h2⟩ := lvL_of hq
  rw [h2]
  exact (h.2.2.2 _ _ h1).2
theorem lvR.set {ad : Nat → Nat} {ls ls' : Array Slot} {nL i : Nat} {L : LC} {v : Value} (h : lvR ad ls nL L) (hc : v.category = 1) (hi : i < nL) (h' : lv_has ls' nL ((i, cv ad v) :: (lvL ad L).filter (fun q => !(q.1 == i) && !(q.1 + 1 == i && q.2.category == 2)))) : lvR ad ls' nL (L.set i (some v)) := by
  refine ⟨h'.1, h'.2.1, by rw [List.length_set]; exact h.2.2.1, fun k w hk => ?_⟩
  by_cases hki : k = i
  · subst hki
    rw [List.getElem?_set_self (by rw [h.2.2.1]; exact hi)] at hk
    cases hk
    exact ⟨hc, h'.2.2 (k, cv ad v) List.mem_cons_self⟩
  · rw [List.getElem?_set_ne (Ne.symm hki)] at hk
    have hw := (h.2.2.2 k w hk).1
    refine ⟨hw, h'.2.2 (k, cv ad w) (List.mem_cons_of_mem _ (List.mem_filter.mpr ⟨lvL_mem hk, ?_⟩))⟩
    have : ((cv ad w).category == 2) = false := by rw [cv_cat, hw]; rfl
    simp [hki, this]
theorem lvR.entry {ad : Nat → Nat} {As : List Value} {n : Nat} (hc : c1L As = true) (hn : As.length ≤ n) : lvR ad ((lg_sl (As.map (cv ad)) ++ List.replicate (n - (lg_sl (As.map (cv ad))).length) Slot.unset).toArray) n (As.map some ++ List.replicate (n - As.length) none) := by
  have hsl : ∀ (l : List Value), c1L l = true → lg_sl (l.map (cv ad)) = l.map (fun v => Slot.val (cv ad v)) := by
    intro l
    induction l with
    | nil => intro _; rfl
    | cons v l ih =>
      intro h
      simp only [c1L, Bool.and_eq_true] at h
      have e : (cv ad v).category ≠ 2 := by rw [cv_cat, Nat.eq_of_beq_eq_true h.1]; decide
      have := ih h.2
      unfold lg_sl at this ⊢
      rw [List.map_cons, List.flatMap_cons, if_neg e, this]
      rfl
  have hlen : (lg_sl (As.map (cv ad))).length = As.length := by rw [hsl As hc]; simp
  have hE := lv_entry (As.map (cv ad)) (n := n) (by rw [hlen]; exact hn)
  refine ⟨hE.1, hE.2.1, by simp; omega, fun i v h => ?_⟩
  have hi : i < As.length := by
    rcases Nat.lt_or_ge i As.length with q | q
    · exact q
    · rw [List.getElem?_append_right (by simpa using q)] at h
      have := List.eq_of_mem_replicate (List.mem_of_getElem? h)
      cases this
  rw [List.getElem?_append_left (by simpa using hi), List.getElem?_map] at h
  have hv : As[i]? = some v := by
    cases e : As[i]? with
    | none => rw [e] at h; cases h
    | some w => rw [e] at h; cases h; rfl
  have hcat : v.category = 1 := by
    have key : ∀ (l : List Value), c1L l = true → ∀ w ∈ l, w.category = 1 := by
      intro l
      induction l with
      | nil => intro _ w hw; cases hw
      | cons a l ih =>
        intro h w hw
        simp only [c1L, Bool.and_eq_true] at h
        rcases List.mem_cons.mp hw with rfl | hw
        · exact Nat.eq_of_beq_eq_true h.1
        · exact ih h.2 w hw
    exact key As hc v (List.mem_of_getElem? hv)
  refine ⟨hcat, ?_⟩
  rw [List.getElem?_toArray, List.getElem?_append_left (by rw [hlen]; exact hi), hsl As hc, List.getElem?_map, hv]
  rfl
