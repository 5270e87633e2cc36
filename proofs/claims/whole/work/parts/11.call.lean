-- calls
def rmD (d : Nat) : Room := { frames := d + 1, cells := 0, slots := 0, locals := 80 * (d + 1) }
def wsJ (j : Nat) : List Cond := .code (MN j) (MB j) (ML j) (MR j) :: LT
def PcF (G : GG) (M : WM) (As : List Value) : Array Value → State → Prop := va_Pc (As.map (cv G.2.2.1)) (fun U => va_P G.2.1 vwCl (simW G M) U.heap ∧ va_K G.2.1 vwCl (tysG G) U ∧ va_X (G.2.2.1 61) G.2.2.2.2.2.1 G.2.2.2.2.2.2 U U.heap ∧ G.2.2.1 61 < U.heap.size)
def A1G (G : GG) : Nat → Prop := fun q => ∃ i, i < 61 ∧ q = G.2.2.1 i
def QcF (G : GG) (P : Option Value → WM → Prop) : Array Value → State → Outcome → State → Prop := fun _ st o t => (∃ (r : Option Value) (M' : WM), o = .returned (r.map (cv G.2.2.1)) ∧ P r M' ∧ va_P G.2.1 vwCl (simW G M') t.heap) ∧ va_F (A1G G) st t
theorem PcF_blind {G : GG} {M : WM} {As : List Value} : FrameBlind (PcF G M As) := by
  intro a U g mk h
  obtain ⟨h1, h2, h3, h4, h5⟩ := h
  exact ⟨h1, h2, va_K.moved (u := U) (U := U.calling g mk a) (Vm.Alike.refl U.vm) h3, va_X.moved (u := U) (U := U.calling g mk a) (Vm.Alike.refl U.vm) h4, h5⟩
theorem Fr.met {G : GG} {d j : Nat} {As : List Value} {M : WM} {P : Option Value → WM → Prop} (h : Fr G d j As M P) (hj : j < 177) (hDi : ∀ i k, i < 61 → k < 61 → G.2.2.1 i = G.2.2.1 k → i = k) (hfr : ∀ i, i < 61 → G.2.2.1 i ≠ G.2.2.1 61) (hc : c1L As = true) (hn : As.length ≤ ML j) :
    Met G.1 (MN j) (wsJ j) (rmD d) (PcF G M As) (QcF G P) 0 0 (A1G G) := by
  have ok := okCal_all hj
  simp only [okCal, Bool.and_eq_true] at ok
  have hpn : plainName (MN j).cls = true := ok.1.1.1.1.2
  refine Met.ofW (cc := MB j) (maxL := ML j) (ret := MR j) hpn rfl ?_
  intro p e s m args below meth c s₁ B hml hv
  obtain ⟨rfl, hP, hK, hX, hX2⟩ := hv
  have hts0 := atoms_spec (ws := wsJ j) B.pre
  have hlocks := B.notSynchronized
  have hr : meth.sig.returnType = MR j := B.returns
  rw [lg_entry_eq]
  refine h p e (rmD d) s m _ below meth c s.heap (A1G G) 0 0 _ ⟨B.exec, B.bytes, hml, findClass_of_methodNamed B.named, fun w hw hg => hts0 w (List.mem_cons_of_mem _ (List.mem_filter.mpr ⟨hw, hg⟩)), hK, ⟨Nat.le_refl _, Nat.le_refl _⟩, ⟨Nat.le_refl _, Nat.le_refl _⟩, hDi, fun i hi => ⟨i, hi, rfl⟩, ⟨hX, hX2, fun q => ?_⟩, ?_⟩ s.heap [] _ hP va_S.rf (lvR.entry hc hn)
  · obtain ⟨i, hi, e⟩ := q
    exact hfr i hi e.symm
  · intro pc H locs ls v M2 hQ hd ht hP2 hS2
    have hq : ∀ t : State, t.heap = H → s.WarmedH t.vm → QcF G P ((As.map (cv G.2.2.1)).toArray) s (.returned (v.map (cv G.2.2.1))) t := fun t e1 _ => ⟨⟨v, M2, rfl, hQ, by rw [e1]; exact hP2⟩, hS2.F e1⟩
    cases v with
    | none =>
      cases hm : MR j with
      | none => exact W.vret B.exec B.bytes (hr.trans hm) hq hS2.2.2 hd hlocks
      | some ty => rw [hm] at ht; cases ty <;> exact ht.elim
    | some v =>
      cases v with
      | int x =>
        cases hm : MR j with
        | none => rw [hm] at ht; exact ht.elim
        | some ty =>
          rw [hm] at ht
          cases ty <;> first
            | exact W.iret B.exec B.bytes (hr.trans hm) hq hS2.2.2 hd hlocks
            | exact W.zret B.exec B.bytes (hr.trans hm) ht hq hS2.2.2 hd hlocks
            | exact ht.elim
      | long x =>
        cases hm : MR j with
        | none => rw [hm] at ht; exact ht.elim
        | some ty =>
          rw [hm] at ht
          cases ty <;> first
            | exact W.lret B.exec B.bytes (hr.trans hm) hq hS2.2.2 hd hlocks
            | exact ht.elim
      | float x => exact hd.elim
      | double x => exact hd.elim
      | null => exact hd.elim
      | ref x => exact hd.elim
      | retAddr x => exact hd.elim
theorem goodLT (j : Nat) (hj : j < 177) : GoodIn LT (wsJ j) := by
  have ok := okCal_all hj
  simp only [okCal, Bool.and_eq_true] at ok
  have hcode := lkQ_spec ok.1.1.1.1.1.1.1
  intro w hw
  rcases List.mem_cons.mp hw with rfl | hw
  · exact ⟨List.mem_filter.mpr hcode, good_of_word hcode.2⟩
  · exact ⟨hw, good_of_word (List.mem_filter.mp hw).2⟩
/-- behind a call -/
theorem ar_after {G : GG} {p : Program} {e : Env} {R : Room} {s : State} {m : MethodId} {args : Array Value} {below : List Frame} {meth : Method} {c : Code} {H H0 : Heap} {locs : List Loc} {cells slots pc : Nat} {Q : State → Prop} {ls : Array Slot} {st0 rest : List Value} {A0 : Nat → Prop} {P : Option Value → WM → Prop} {a : Array Value}
    (hr : va_Run p G.1 e R s m args below meth c H locs cells slots 0 0 (F0 m pc ls st0) rest (QcF G P a) (A1G G)) (hS : va_S A0 H0 H locs) (hA : ∀ i, i < 61 → A0 (G.2.2.1 i))
    (kk : ∀ (r : Option Value) (M' : WM), P r M' → ∀ (H1 : Heap) (locs1 : List Loc), va_P G.2.1 vwCl (simW G M') H1 → va_S A0 H0 H1 locs1 → W p G.1 e R s m args below meth c H1 locs1 cells slots Q (F0 m (pc + 3) ls ((r.map (cv G.2.2.1)).toList ++ rest))) : W p G.1 e R s m args below meth c H locs cells slots Q (F0 m pc ls st0) := by
  intro T hT X
  obtain ⟨v, st₀, t, T', L, h0, X', hL, e1, e2, ⟨⟨r, M', hv, hpr, hp⟩, hz, hk⟩, st⟩ := hr T hT X
  have hv : v = r.map (cv G.2.2.1) := by cases hv; rfl
  subst hv
  rw [h0] at hz hk
  have hA1 : ∀ q, A1G G q → A0 q := fun q h => by obtain ⟨i, hi, rfl⟩ := h; exact hA i hi
  obtain ⟨t2, a1, b1⟩ := kk r M' hpr T'.heap (locs ++ L) (by rw [e1]; exact hp)
    ⟨Nat.le_trans hS.1 (by rw [e1]; exact hz), fun q h1 h2 => by rw [e1, hk q (Nat.lt_of_lt_of_le h1 hS.1) (fun z => h2 (hA1 q z))]; exact hS.2.1 q h1 h2, fun q hq => by
      rcases List.mem_append.mp hq with h | h
      · exact hS.2.2 q h
      · exact hA1 _ (hL q h)⟩ T' rfl X'
  exact ⟨t2, st t2 a1, b1⟩
section CALL
variable {G : GG} {d j pc : Nat} {L : LC} {st : List Value} {M : WM} {Q : Option Value → WM → Prop}
theorem okA_at {a : Nat} (h : a < 177) : (MP a).2.2.2.2.1 + 1 - (MP a).2.2.2.2.2 ≤ ML a := Nat.le_of_ble_eq_true (List.all_eq_true.mp okA_all a (List.mem_range.mpr h))
theorem A_callV {x a b q o : Nat} {As : List Value} {P : Option Value → WM → Prop} (hd : decode (MB j) pc = .ok (.invokevirtual x, 3)) (hw : lkQ q (.methodLink (MN j).cls x (MN a)) = true) (ha : a < 177) (hb : (MP a).2.2.2.2.1 = b) (hs : Nat.beq (MP a).2.2.2.2.2 0 = true) (hlen : As.length = b) (hc : c1L As = true) (h0 : (kd o).1 = 0) (h1 : (kd o).2.1 = MK a) (hc8 : catS st ≤ 8)
    (hF : Fr G d a (.ref o :: As) M P) (K : ∀ (r : Option Value) (M' : WM), P r M' → A G (d + 1) j (pc + 3) L (r.toList ++ st) M' Q) : A G (d + 1) j pc L (As.reverse ++ .ref o :: st) M Q := by
  intro p e R s m args below meth c H0 A0 cells slots QQ E H locs ls hP hS hl
  have hk := fun r M' hp => K r M' hp p e R s m args below meth c H0 A0 cells slots QQ E
  obtain ⟨hxx, hbb, hml, hown, hts, hK, hR, hcs, hDi, hA, hX, hret⟩ := E
  have ok := okCal_all ha
  have hA0 := okA_at ha
  have hs0 : (MP a).2.2.2.2.2 = 0 := Nat.eq_of_beq_eq_true hs
  rw [hs0, hb] at hA0
  have hM := hF.met ha hDi (fun i hi e => hX.2.2 (e ▸ hA i hi)) (by simp only [c1L, Bool.and_eq_true]; exact ⟨rfl, hc⟩) (by simp only [List.length_cons]; omega)
  simp only [okCal, hs0, hb, Bool.and_eq_true, decide_eq_true_eq] at ok
  obtain ⟨⟨⟨⟨⟨⟨⟨o1, o2⟩, o3⟩, o4⟩, o5⟩, o6⟩, o7⟩, o8⟩ := ok
  have o8 : (lkQ (MP a).2.1 (.instanceMethod (MN a)) && lkQ (MP a).2.2.1 (.selects (MN a).cls (MN a) (MN a))) = true := o8
  rw [Bool.and_eq_true] at o8
  have hMK := okK_at ha hs
  have hat := simW_at (G := G) (M := M) (kd_lt (i := o) (by rw [h0]; decide))
  rw [cellE_obj h0, h1] at hat
  have hrecv := va_recv hK hP (vwCl_at hMK.1) hat
  rw [show ((RR (MK a), TT (MK a), NF (MK a)) : vw_C).1 = RR (MK a) from rfl, hMK.2] at hrecv
  have cw : CallW R s args (MN j).cls (MN a).cls x (MN a) (MB a) (ML a) (MR a) (wsJ a) (rmD d) 0 0 b := ⟨callB_of b (hts_LT hts) (goodLT a ha) rfl rfl rfl (hts _ (lkQ_spec o2).1 (lkQ_spec o2).2) (hts _ (lkQ_spec hw).1 (lkQ_spec hw).2) ⟨o5, o6, o7⟩ ⟨by show d + 1 + 1 ≤ R.frames; omega, by
    have := Nat.le_of_ble_eq_true o3
    show 8 + (ML a + 11) + 80 * (d + 1) ≤ R.locals
    omega⟩, hts _ (lkQ_spec o8.1).1 (lkQ_spec o8.1).2, hts _ (lkQ_spec o8.2).1 (lkQ_spec o8.2).2⟩
  refine ar_after (rest := st.map (cv G.2.2.1)) (va_runV (cc := MB j) (nL := ML j) (Ts := LT) (As := As.map (cv G.2.2.1)) (rest := st.map (cv G.2.2.1)) ⟨hxx, hbb, hml, hown, hts_LT hts⟩ hM cw ⟨PcF_blind, hrecv, fun U hU hW => ?_⟩ rfl (by rw [List.length_map]; exact hlen) hl.1 (by show List.map _ (As.reverse ++ Value.ref o :: st) = _; simp [cv]) (lv_room (by rw [catS_eq]; exact hc8)) hd ⟨hcs.1, hcs.2⟩) hS hA (fun r M' hp H1 locs1 hP1 hS1 => ?_)
  · refine ⟨rfl, by rw [hU]; exact hP, va_K.moved hW.alike hK, ?_, ?_⟩
    · rw [hU]
      exact (hX.1.kept (hS.2.1 _ hX.2.1 hX.2.2)).moved hW.alike
    · rw [hU]
      exact Nat.lt_of_lt_of_le hX.2.1 hS.1
  · refine W.eq ?_ (hk r M' hp H1 locs1 ls hP1 hS1 hl)
    cases r <;> simp
theorem A_callS {x a b q : Nat} {As : List Value} {P : Option Value → WM → Prop} (hd : decode (MB j) pc = .ok (.invokestatic x, 3)) (hw : lkQ q (.methodLink (MN j).cls x (MN a)) = true) (ha : a < 177) (hb : (MP a).2.2.2.2.1 = b) (hs : Nat.beq (MP a).2.2.2.2.2 1 = true) (hlen : As.length = b) (hc : c1L As = true) (hc8 : catS st ≤ 8)
    (hF : Fr G d a As M P) (K : ∀ (r : Option Value) (M' : WM), P r M' → A G (d + 1) j (pc + 3) L (r.toList ++ st) M' Q) : A G (d + 1) j pc L (As.reverse ++ st) M Q := by
  intro p e R s m args below meth c H0 A0 cells slots QQ E H locs ls hP hS hl
  have hk := fun r M' hp => K r M' hp p e R s m args below meth c H0 A0 cells slots QQ E
  obtain ⟨hxx, hbb, hml, hown, hts, hK, hR, hcs, hDi, hA, hX, hret⟩ := E
  have ok := okCal_all ha
  have hA0 := okA_at ha
  have hs0 : (MP a).2.2.2.2.2 = 1 := Nat.eq_of_beq_eq_true hs
  rw [hs0, hb] at hA0
  have hM := hF.met ha hDi (fun i hi e => hX.2.2 (e ▸ hA i hi)) hc (by omega)
  simp only [okCal, hs0, hb, Bool.and_eq_true, decide_eq_true_eq] at ok
  obtain ⟨⟨⟨⟨⟨⟨⟨o1, o2⟩, o3⟩, o4⟩, o5⟩, o6⟩, o7⟩, o8⟩ := ok
  have o8 : lkQ (MP a).2.1 (.static (MN a)) = true := o8
  have cw : CallB R s args (MN j).cls x (MN a) (MB a) (ML a) (MR a) (wsJ a) (rmD d) 0 0 b ∧ (Cond.static (MN a)).before args s = true := ⟨callB_of b (hts_LT hts) (goodLT a ha) rfl rfl rfl (hts _ (lkQ_spec o2).1 (lkQ_spec o2).2) (hts _ (lkQ_spec hw).1 (lkQ_spec hw).2) ⟨o5, o6, o7⟩ ⟨by show d + 1 + 1 ≤ R.frames; omega, by
    have := Nat.le_of_ble_eq_true o3
    show 8 + (ML a + 11) + 80 * (d + 1) ≤ R.locals
    omega⟩, hts _ (lkQ_spec o8).1 (lkQ_spec o8).2⟩
  refine ar_after (rest := st.map (cv G.2.2.1)) (va_runS (cc := MB j) (nL := ML j) (Ts := LT) (As := As.map (cv G.2.2.1)) (rest := st.map (cv G.2.2.1)) ⟨hxx, hbb, hml, hown, hts_LT hts⟩ hM cw ⟨PcF_blind, fun U hU hW => ?_⟩ rfl (by rw [List.length_map]; exact hlen) hl.1 (by show List.map _ (As.reverse ++ st) = _; simp) (lv_room (by rw [catS_eq]; exact hc8)) hd ⟨hcs.1, hcs.2⟩) hS hA (fun r M' hp H1 locs1 hP1 hS1 => ?_)
  · refine ⟨rfl, by rw [hU]; exact hP, va_K.moved hW.alike hK, ?_, ?_⟩
    · rw [hU]
      exact (hX.1.kept (hS.2.1 _ hX.2.1 hX.2.2)).moved hW.alike
    · rw [hU]
      exact Nat.lt_of_lt_of_le hX.2.1 hS.1
  · refine W.eq ?_ (hk r M' hp H1 locs1 ls hP1 hS1 hl)
    cases r <;> simp
end CALL
