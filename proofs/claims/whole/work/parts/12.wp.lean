theorem gp_A {G : GG} {d j pc : Nat} {L : LC} {st : List Value} {M : WM} {Q : Option Value → WM → Prop} {cuts : List Nat} {K2 : Prop} (hi : K2 → A G d j pc L st M Q) (h : gp cuts pc (A G d j pc L st M Q) K2) : A G d j pc L st M Q := by
  unfold gp at h
  cases e : memN pc cuts with
  | true => rw [e] at h; exact h.2
  | false => rw [e] at h; exact hi h
theorem dec_of {j pc : Nat} {i : Instr} {a b q : Nat} (h : okLf (MN j).cls (MB j) pc (i, a, b, q) = true) (hn : i ≠ .nop) (hs : isSw i = false) : decode (MB j) pc = .ok (i, ilen i) ∧ okX (MN j).cls pc i a b q = true := by
  have key : ((match decode (MB j) pc with
    | .ok (i', n') => decide (i' = i) && (Nat.beq n' (ilen i) || isSw i)
    | .error _ => false) && okX (MN j).cls pc i a b q) = true := by
    cases i <;> first | exact h | exact absurd rfl hn
  rw [Bool.and_eq_true] at key
  refine ⟨?_, key.2⟩
  have k1 := key.1
  cases e : decode (MB j) pc with
  | error _ => rw [e] at k1; cases k1
  | ok z =>
    obtain ⟨i', n'⟩ := z
    rw [e] at k1
    simp only [hs, Bool.or_false, Bool.and_eq_true, decide_eq_true_eq] at k1
    rw [k1.1, Nat.eq_of_beq_eq_true k1.2]
theorem dec_sw {j pc : Nat} {i : Instr} {a b q : Nat} (h : okLf (MN j).cls (MB j) pc (i, a, b, q) = true) (hn : i ≠ .nop) : (∃ n, decode (MB j) pc = .ok (i, n)) ∧ okX (MN j).cls pc i a b q = true := by
  have key : ((match decode (MB j) pc with
    | .ok (i', n') => decide (i' = i) && (Nat.beq n' (ilen i) || isSw i)
    | .error _ => false) && okX (MN j).cls pc i a b q) = true := by
    cases i <;> first | exact h | exact absurd rfl hn
  rw [Bool.and_eq_true] at key
  refine ⟨?_, key.2⟩
  have k1 := key.1
  cases e : decode (MB j) pc with
  | error _ => rw [e] at k1; cases k1
  | ok z =>
    obtain ⟨i', n'⟩ := z
    rw [e] at k1
    simp only [Bool.and_eq_true, decide_eq_true_eq] at k1
    exact ⟨n', by rw [k1.1]⟩
theorem brK_mono {k : ClassFile.Cond} {x y : Int32} {K1 K2 J1 J2 : Prop} (h1 : K1 → J1) (h2 : K2 → J2) (h : brK k x y K1 K2) : brK k x y J1 J2 := by
  cases k <;> exact ⟨fun c => h1 (h.1 c), fun c => h2 (h.2 c)⟩
theorem bif_c {c : Bool} {P Q : Prop} (h : bif c then P else Q) : (c = true ∧ P) ∨ (c = false ∧ Q) := by
  cases c with
  | true => exact Or.inl ⟨rfl, h⟩
  | false => exact Or.inr ⟨rfl, h⟩
theorem kI_t {a b : Nat} (h : Nat.beq b 0 = true) : kI a b = nI a := by unfold kI; rw [h]; rfl
theorem kI_f {a b : Nat} (h : Nat.beq b 0 = false) : kI a b = mI b := by unfold kI; rw [h]; rfl
theorem bif_t {c : Bool} {P : Prop} (h : bif c then P else False) : c = true ∧ P := by
  cases c with
  | true => exact ⟨rfl, h⟩
  | false => exact h.elim
theorem ci_toInt {z : Int} (h1 : -1000 ≤ z) (h2 : z ≤ 1001) : (ci z).toInt = z := by
  rw [← ci_eq]
  exact Int32.toInt_ofInt_of_le (by omega) (by omega)
theorem swT_spec {x : Int32} {K : Nat → Prop} : ∀ (ts : List Nat) (lo : Int), -1000 ≤ lo → lo + ts.length ≤ 1001 → swT x K lo ts → ∀ t, ¬ x.toInt < lo → ts[(x.toInt - lo).toNat]? = some t → K t
  | [], lo, _, _, _, t, _, h => by simp at h
  | u :: ts, lo, g1, g2, hs, t, hlo, h => by
    by_cases hx : x.toInt = lo
    · rw [hx, show (lo - lo).toNat = 0 by omega] at h
      cases h
      refine hs.1 (Int32.toInt_inj.mp ?_)
      simp only [List.length_cons] at g2
      rw [ci_toInt g1 (by omega)]
      exact hx
    · simp only [List.length_cons] at g2
      refine swT_spec ts (lo + 1) (by omega) (by omega) hs.2 t (by omega) ?_
      rw [show (x.toInt - lo).toNat = (x.toInt - (lo + 1)).toNat + 1 by omega, List.getElem?_cons_succ] at h
      exact h
theorem lkT_spec {x : Int32} {K : Nat → Prop} {pc : Nat} {d : Int} : ∀ (ps : List (Int × Int)), (∀ o ∈ ps, 0 ≤ (pc : Int) + o.2 ∧ -1000 ≤ o.1 ∧ o.1 ≤ 1000) → lkT x K ((pc : Int) + d).toNat (ps.map (fun o => (o.1, ((pc : Int) + o.2).toNat))) → ∃ off, Op.lookupswitch.offset ps d x.toInt = off ∧ (off = d ∨ 0 ≤ (pc : Int) + off) ∧ K ((pc : Int) + off).toNat
  | [], _, h => ⟨d, rfl, Or.inl rfl, h⟩
  | (k, o) :: ps, g, h => by
    have g0 := g _ List.mem_cons_self
    by_cases hx : x = ci k
    · refine ⟨o, ?_, Or.inr g0.1, h.1 hx⟩
      rw [Op.lookupswitch.offset_cons, if_pos]
      rw [hx, ci_toInt g0.2.1 (by omega)]
    · obtain ⟨off, h1, h2, h3⟩ := lkT_spec ps (fun o ho => g o (List.mem_cons_of_mem _ ho)) (h.2 hx)
      refine ⟨off, ?_, h2, h3⟩
      rw [lv_osw hx (ci_toInt g0.2.1 (by omega))]
      exact h1
set_option maxHeartbeats 8000000 in
set_option maxRecDepth 100000 in
theorem A_of_wp {G : GG} {d j : Nat} {cd : Nat → Leaf} {cuts : List Nat} {Q : Option Value → WM → Prop} (hcd : ∀ pc, okLf (MN j).cls (MB j) pc (cd pc) = true) : ∀ (n pc : Nat) (L : LC) (st : List Value) (M : WM), wp G d j cd cuts Q n pc L st M → A G d j pc L st M Q
  | 0, pc, L, st, M, h => h
  | n + 1, pc, L, st, M, h => by
    have ok := hcd pc
    have go : ∀ {pc2 : Nat} {L2 : LC} {st2 : List Value} {M2 : WM}, gp cuts pc2 (A G d j pc2 L2 st2 M2 Q) (wp G d j cd cuts Q n pc2 L2 st2 M2) → A G d j pc2 L2 st2 M2 Q := fun {pc2 L2 st2 M2} h => gp_A (A_of_wp hcd n pc2 L2 st2 M2) h
    rw [wp] at h
    unfold wp1 at h
    generalize cd pc = f at h ok
    obtain ⟨i, a, b, q⟩ := f
    dsimp only at h
    cases i <;> (try exact h.elim)
    all_goals (try dsimp only at h)
    case aload_n k =>
      split at h
      · rename_i x hL; exact A_aload_n (dec_of ok (by simp) rfl).1 hL (go h)
      · exact h.elim
    case aload k =>
      split at h
      · rename_i x hL; exact A_aload (dec_of ok (by simp) rfl).1 hL (go h)
      · exact h.elim
    case iload_n k =>
      split at h
      · rename_i x hL; exact A_iload_n (dec_of ok (by simp) rfl).1 hL (go h)
      · exact h.elim
    case iload k =>
      split at h
      · rename_i x hL; exact A_iload (dec_of ok (by simp) rfl).1 hL (go h)
      · exact h.elim
    case istore_n k =>
      split at h
      · obtain ⟨h1, h2⟩ := bif_t h
        exact A_istore_n (dec_of ok (by simp) rfl).1 (Nat.le_of_ble_eq_true h1) (go h2)
      · exact h.elim
    case istore k =>
      split at h
      · obtain ⟨h1, h2⟩ := bif_t h
        exact A_istore (dec_of ok (by simp) rfl).1 (Nat.le_of_ble_eq_true h1) (go h2)
      · exact h.elim
    case iinc k z =>
      have hk := dec_of ok (by simp) rfl
      have hz := of_decide_eq_true hk.2
      split at h
      · rename_i x hL
        rcases bif_c h with ⟨h1, h2⟩ | ⟨h1, h2⟩
        · exact A_iinc hk.1 hL (by rw [hz, kI_t h1]) (go h2)
        · exact A_iinc hk.1 hL (by rw [hz, kI_f h1, mI, Int32.sub_eq_add_neg]) (go h2)
      · exact h.elim
    case iconst z =>
      have hk := dec_of ok (by simp) rfl
      have hz := of_decide_eq_true hk.2
      rcases bif_c h with ⟨h1, h2⟩ | ⟨h1, h2⟩
      · exact A_iconst hk.1 (hz.trans (kI_t h1)) (go h2)
      · exact A_iconst hk.1 (hz.trans (kI_f h1)) (go h2)
    case bipush z =>
      have hk := dec_of ok (by simp) rfl
      have hz := of_decide_eq_true hk.2
      rcases bif_c h with ⟨h1, h2⟩ | ⟨h1, h2⟩
      · exact A_bipush hk.1 (hz.trans (kI_t h1)) (go h2)
      · exact A_bipush hk.1 (hz.trans (kI_f h1)) (go h2)
    case sipush z =>
      have hk := dec_of ok (by simp) rfl
      have hz := of_decide_eq_true hk.2
      rcases bif_c h with ⟨h1, h2⟩ | ⟨h1, h2⟩
      · exact A_sipush hk.1 (hz.trans (kI_t h1)) (go h2)
      · exact A_sipush hk.1 (hz.trans (kI_f h1)) (go h2)
    case ldc x =>
      have hk := dec_of ok (by simp) rfl
      have hz : lkQ q (.constant (MN j).cls x (kI a b)) = true := hk.2
      rcases bif_c h with ⟨h1, h2⟩ | ⟨h1, h2⟩
      · rw [kI_t h1] at hz
        exact A_ldc hk.1 hz (go h2)
      · rw [kI_f h1] at hz
        exact A_ldc hk.1 hz (go h2)
    case ldc_w x =>
      have hk := dec_of ok (by simp) rfl
      have hz : lkQ q (.constant (MN j).cls x (kI a b)) = true := hk.2
      rcases bif_c h with ⟨h1, h2⟩ | ⟨h1, h2⟩
      · rw [kI_t h1] at hz
        exact A_ldc_w hk.1 hz (go h2)
      · rw [kI_f h1] at hz
        exact A_ldc_w hk.1 hz (go h2)
    case ldc2_w x => exact A_ldc2_w (dec_of ok (by simp) rfl).1 (dec_of ok (by simp) rfl).2 (go h)
    case lconst z => exact A_lconst (dec_of ok (by simp) rfl).1 (go h)
    case dup =>
      split at h
      · exact A_dup (dec_of ok (by simp) rfl).1 rfl (go h)
      · exact A_dup (dec_of ok (by simp) rfl).1 rfl (go h)
      · exact h.elim
    case dup2 =>
      split at h
      · exact A_dup2 (dec_of ok (by simp) rfl).1 rfl rfl (go h)
      · exact h.elim
    case pop =>
      split at h
      · exact A_pop (dec_of ok (by simp) rfl).1 rfl (go h)
      · exact h.elim
    case iadd =>
      split at h
      · exact A_iadd (dec_of ok (by simp) rfl).1 (go h)
      · exact h.elim
    case isub =>
      split at h
      · exact A_isub (dec_of ok (by simp) rfl).1 (go h)
      · exact h.elim
    case imul =>
      split at h
      · exact A_imul (dec_of ok (by simp) rfl).1 (go h)
      · exact h.elim
    case iand =>
      split at h
      · exact A_iand (dec_of ok (by simp) rfl).1 (go h)
      · exact h.elim
    case ior =>
      split at h
      · exact A_ior (dec_of ok (by simp) rfl).1 (go h)
      · exact h.elim
    case ixor =>
      split at h
      · exact A_ixor (dec_of ok (by simp) rfl).1 (go h)
      · exact h.elim
    case ishl =>
      split at h
      · exact A_ishl (dec_of ok (by simp) rfl).1 (go h)
      · exact h.elim
    case ishr =>
      split at h
      · exact A_ishr (dec_of ok (by simp) rfl).1 (go h)
      · exact h.elim
    case iushr =>
      split at h
      · exact A_iushr (dec_of ok (by simp) rfl).1 (go h)
      · exact h.elim
    case idiv =>
      split at h
      · exact A_idiv (dec_of ok (by simp) rfl).1 h.1 (go h.2)
      · exact h.elim
    case irem =>
      split at h
      · exact A_irem (dec_of ok (by simp) rfl).1 h.1 (go h.2)
      · exact h.elim
    case ladd =>
      split at h
      · exact A_ladd (dec_of ok (by simp) rfl).1 (go h)
      · exact h.elim
    case lcmp =>
      split at h
      · exact A_lcmp (dec_of ok (by simp) rfl).1 (go h)
      · exact h.elim
    case getfield x =>
      have hk := dec_of ok (by simp) rfl
      have hx := hk.2
      simp only [okX, Bool.and_eq_true] at hx
      split at h
      · obtain ⟨h1, h2⟩ := bif_t h
        rw [Bool.and_eq_true] at h1
        refine A_getfield hk.1 hx.1.1 (Nat.le_of_ble_eq_true hx.1.2) (Nat.le_of_ble_eq_true hx.2) (Nat.eq_of_beq_eq_true h1.1) (Nat.eq_of_beq_eq_true h1.2) ?_
        split at h2
        · rename_i e; rw [e]; exact go h2
        · rename_i e; rw [e]; exact go h2
        · rename_i e; rw [e]; exact go h2
        · exact h2.elim
      · exact h.elim
    case putfield x =>
      have hk := dec_of ok (by simp) rfl
      have hx := hk.2
      simp only [okX, Bool.and_eq_true, Bool.not_eq_true'] at hx
      split at h
      · obtain ⟨h1, h2⟩ := bif_t h
        rw [Bool.and_eq_true] at h1
        cases e0 : Nat.beq (fkd a b) 0 with
        | true =>
          rw [e0] at h2
          exact A_putI hk.1 hx.1.1.1 (Nat.le_of_ble_eq_true hx.1.1.2) (Nat.le_of_ble_eq_true hx.1.2) hx.2 (Nat.eq_of_beq_eq_true h1.1) (Nat.eq_of_beq_eq_true h1.2) (Or.inl (Nat.eq_of_beq_eq_true e0)) (go h2)
        | false =>
          rw [e0] at h2
          obtain ⟨h3, h4, h5⟩ := bif_t h2
          exact A_putI hk.1 hx.1.1.1 (Nat.le_of_ble_eq_true hx.1.1.2) (Nat.le_of_ble_eq_true hx.1.2) hx.2 (Nat.eq_of_beq_eq_true h1.1) (Nat.eq_of_beq_eq_true h1.2) (Or.inr ⟨Nat.eq_of_beq_eq_true h3, h4⟩) (go h5)
      · obtain ⟨h1, h2⟩ := bif_t h
        rw [Bool.and_eq_true, Bool.and_eq_true] at h1
        exact A_putL hk.1 hx.1.1.1 (Nat.le_of_ble_eq_true hx.1.1.2) (Nat.le_of_ble_eq_true hx.1.2) hx.2 (Nat.eq_of_beq_eq_true h1.1.1) (Nat.eq_of_beq_eq_true h1.1.2) (Nat.eq_of_beq_eq_true h1.2) (go h2)
      · exact h.elim
    case iaload =>
      have hk := dec_of ok (by simp) rfl
      split at h
      · rename_i o _
        cases e0 : Nat.beq o 61 with
        | true =>
          rw [e0] at h
          cases Nat.eq_of_beq_eq_true e0
          exact A_saload hk.1 h.1 (go h.2)
        | false =>
          rw [e0] at h
          cases ek : kd o with
          | mk k z =>
            obtain ⟨c2, z⟩ := z
            rw [ek] at h
            obtain ⟨h1, h2⟩ := bif_t h
            exact A_iaload hk.1 (by rw [ek]; exact Nat.eq_of_beq_eq_true h1) (by rw [ek]; exact h2.1) (go h2.2)
      · exact h.elim
    case baload =>
      split at h
      · rename_i o _
        cases ek : kd o with
        | mk k z =>
          obtain ⟨c2, z⟩ := z
          rw [ek] at h
          obtain ⟨h1, h2⟩ := bif_t h
          exact A_baload (dec_of ok (by simp) rfl).1 (by rw [ek]; exact Nat.eq_of_beq_eq_true h1) (by rw [ek]; exact h2.1) (go h2.2)
      · exact h.elim
    case iastore =>
      split at h
      · rename_i o _
        cases ek : kd o with
        | mk k z =>
          obtain ⟨c2, z⟩ := z
          rw [ek] at h
          obtain ⟨h1, h2⟩ := bif_t h
          exact A_iastore (dec_of ok (by simp) rfl).1 (by rw [ek]; exact Nat.eq_of_beq_eq_true h1) (by rw [ek]; exact h2.1) (go h2.2)
      · exact h.elim
    case bastore =>
      split at h
      · rename_i o _
        cases ek : kd o with
        | mk k z =>
          obtain ⟨c2, z⟩ := z
          rw [ek] at h
          obtain ⟨h1, h2⟩ := bif_t h
          exact A_bastore (dec_of ok (by simp) rfl).1 (by rw [ek]; exact Nat.eq_of_beq_eq_true h1) (by rw [ek]; exact h2.1) (go h2.2)
      · exact h.elim
    case arraylength =>
      have hk := dec_of ok (by simp) rfl
      split at h
      · rename_i o _
        cases e0 : Nat.beq o 61 with
        | true =>
          rw [e0] at h
          cases Nat.eq_of_beq_eq_true e0
          exact A_slen hk.1 (go h)
        | false =>
          rw [e0] at h
          cases ek : kd o with
          | mk k z =>
            obtain ⟨c2, z⟩ := z
            rw [ek] at h
            obtain ⟨h1, h2⟩ := bif_t h
            exact A_alen hk.1 (by rw [ek]; exact Nat.eq_of_beq_eq_true h1) (by rw [ek]; exact go h2)
      · exact h.elim
    case if_icmp k z =>
      have hk := dec_of ok (by simp) rfl
      split at h
      · exact A_icmp hk.1 (of_decide_eq_true hk.2) (brK_mono go go h)
      · exact h.elim
    case ifCond k z =>
      have hk := dec_of ok (by simp) rfl
      split at h
      · exact A_if hk.1 (of_decide_eq_true hk.2) (brK_mono go go h)
      · exact h.elim
    case goto z =>
      have hk := dec_of ok (by simp) rfl
      exact A_goto hk.1 (of_decide_eq_true hk.2) (go h)
    case tableswitch dflt lo hi offs =>
      obtain ⟨⟨len, hk⟩, hx⟩ := dec_sw ok (by simp)
      simp only [okX, Bool.and_eq_true, decide_eq_true_eq, List.all_eq_true] at hx
      obtain ⟨⟨⟨⟨x1, x2⟩, x3⟩, x4⟩, x5⟩ := hx
      split at h
      · rename_i x st2
        intro p e R s m args below meth c H0 A0 cells slots QQ E H locs ls hP hS hl
        by_cases hin : x.toInt < lo ∨ hi < x.toInt
        · exact lv_tableOut E.1 E.2.1 hk hin (by omega) (go (h.2 hin) p e R s m args below meth c H0 A0 cells slots QQ E H locs ls hP hS hl)
        · rw [not_or] at hin
          have hlt : (x.toInt - lo).toNat < offs.toList.length := by omega
          have hof : offs.toList[(x.toInt - lo).toNat]? = some offs.toList[(x.toInt - lo).toNat] := List.getElem?_eq_getElem hlt
          have h2 := swT_spec _ lo x4 (by rw [List.length_map]; omega) h.1 ((pc : Int) + offs.toList[(x.toInt - lo).toNat]).toNat hin.1 (by rw [List.getElem?_map, hof]; rfl)
          refine lv_tableIn E.1 E.2.1 hk hin.1 hin.2 (off := offs.toList[(x.toInt - lo).toNat]) (by rw [← Array.getElem?_toList]; exact hof) ?_ (go h2 p e R s m args below meth c H0 A0 cells slots QQ E H locs ls hP hS hl)
          have := x2 _ (List.getElem_mem hlt)
          omega
      · exact h.elim
    case lookupswitch dflt ps =>
      obtain ⟨⟨len, hk⟩, hx⟩ := dec_sw ok (by simp)
      simp only [okX, Bool.and_eq_true, decide_eq_true_eq] at hx
      obtain ⟨⟨x1, x2⟩, x3⟩ := hx
      split at h
      · rename_i x st2
        intro p e R s m args below meth c H0 A0 cells slots QQ E H locs ls hP hS hl
        obtain ⟨off, g1, g2, g3⟩ := lkT_spec ps.toList (fun o ho => by
          have := List.all_eq_true.mp x2 o ho
          simp only [Bool.and_eq_true, decide_eq_true_eq] at this
          exact ⟨this.1.1, this.1.2, this.2⟩) h
        refine lv_lookup E.1 E.2.1 hk x3 g1 ?_ (go g3 p e R s m args below meth c H0 A0 cells slots QQ E H locs ls hP hS hl)
        rcases g2 with rfl | g2 <;> omega
      · exact h.elim
    case invokevirtual x =>
      have hk := dec_of ok (by simp) rfl
      have hx := hk.2
      simp only [okX, Bool.and_eq_true] at hx
      obtain ⟨⟨⟨x1, x2⟩, x3⟩, x4⟩ := hx
      split at h
      · exact h.elim
      · split at h
        · rename_i o rest hst
          obtain ⟨h1, P, hF, h2⟩ := bif_t h
          simp only [Bool.and_eq_true] at h1
          obtain ⟨⟨⟨h3, h4⟩, h5⟩, h6⟩ := h1
          have hlen : b < st.length := by
            rcases Nat.lt_or_ge b st.length with z | z
            · exact z
            · rw [List.drop_eq_nil_of_le z] at hst; cases hst
          have e : st = (st.take b).reverse.reverse ++ .ref o :: rest := by rw [List.reverse_reverse, ← hst, List.take_append_drop]
          have hc : ∀ l : List Value, c1L l.reverse = c1L l := by
            have hap : ∀ l1 l2 : List Value, c1L (l1 ++ l2) = (c1L l1 && c1L l2) := by
              intro l1 l2
              induction l1 with
              | nil => simp [c1L]
              | cons v l ih => simp [c1L, ih, Bool.and_assoc]
            intro l
            induction l with
            | nil => rfl
            | cons v l ih => rw [List.reverse_cons, hap, ih]; simp [c1L, Bool.and_comm]
          rw [e]
          exact A_callV hk.1 x1 (Nat.le_of_ble_eq_true x2) (Nat.eq_of_beq_eq_true x3) x4 (by rw [List.length_reverse, List.length_take]; omega) (by rw [hc]; exact h6) (Nat.eq_of_beq_eq_true h3) (Nat.eq_of_beq_eq_true h4) (Nat.le_of_ble_eq_true h5) hF (fun r M' hp => go (h2 r M' hp))
        · exact h.elim
    case invokestatic x =>
      have hk := dec_of ok (by simp) rfl
      have hx := hk.2
      simp only [okX] at hx
      cases e9 : Nat.beq a 999 with
      | true =>
        rw [e9] at h hx
        simp only [cond_true] at h hx
        split at h
        · rename_i o1 _ o0 _
          cases ek0 : kd o0 with
          | mk k0 y0 =>
            obtain ⟨c0, y0⟩ := y0
            cases ek1 : kd o1 with
            | mk k1 y1 =>
              obtain ⟨c1, y1⟩ := y1
              rw [ek0, ek1] at h
              obtain ⟨h1, ⟨g1, g2, g3, g4, g5⟩, h2⟩ := bif_t h
              simp only [Bool.and_eq_true] at h1
              exact A_copy hk.1 hx (Nat.le_of_ble_eq_true h1.2) (by rw [ek0]; exact Nat.eq_of_beq_eq_true h1.1.1) (by rw [ek1]; exact Nat.eq_of_beq_eq_true h1.1.2) g1 g2 g3 (by rw [ek0]; exact g4) (by rw [ek1]; exact g5) (go h2)
        · exact h.elim
      | false =>
        rw [e9] at h hx
        simp only [cond_false] at h hx
        cases e8 : Nat.beq a 998 with
        | true =>
          rw [e8] at h hx
          simp only [cond_true] at h hx
          split at h
          · obtain ⟨h1, h2⟩ := bif_t h
            exact A_max hk.1 hx (Nat.le_of_ble_eq_true h1) (go h2)
          · exact h.elim
        | false =>
          rw [e8] at h hx
          simp only [cond_false] at h hx
          cases e7 : Nat.beq a 997 with
          | true =>
            rw [e7] at h hx
            simp only [cond_true] at h hx
            split at h
            · obtain ⟨h1, h2⟩ := bif_t h
              exact A_min hk.1 hx (Nat.le_of_ble_eq_true h1) (go h2)
            · exact h.elim
          | false =>
            rw [e7] at h hx
            simp only [cond_false, Bool.and_eq_true] at h hx
            obtain ⟨⟨⟨x1, x2⟩, x3⟩, x4⟩ := hx
            split at h
            · exact h.elim
            · obtain ⟨h1, P, hF, h2⟩ := bif_t h
              simp only [Bool.and_eq_true] at h1
              obtain ⟨⟨h5, h6⟩, h7⟩ := h1
              have e : st = (st.take b).reverse.reverse ++ st.drop b := by rw [List.reverse_reverse, List.take_append_drop]
              have hc : ∀ l : List Value, c1L l.reverse = c1L l := by
                have hap : ∀ l1 l2 : List Value, c1L (l1 ++ l2) = (c1L l1 && c1L l2) := by
                  intro l1 l2
                  induction l1 with
                  | nil => simp [c1L]
                  | cons v l ih => simp [c1L, ih, Bool.and_assoc]
                intro l
                induction l with
                | nil => rfl
                | cons v l ih => rw [List.reverse_cons, hap, ih]; simp [c1L, Bool.and_comm]
              rw [e]
              exact A_callS hk.1 x1 (Nat.le_of_ble_eq_true x2) (Nat.eq_of_beq_eq_true x3) x4 (by rw [List.length_reverse]; exact Nat.eq_of_beq_eq_true h7) (by rw [hc]; exact h6) (Nat.le_of_ble_eq_true h5) hF (fun r M' hp => go (h2 r M' hp))
    case ireturn =>
      have hk := dec_of ok (by simp) rfl
      split at h
      · rename_i x
        split at h
        · rename_i e
          exact A_ret (v := some (.int x)) hk.1 (by rw [e]; trivial) h
        · rename_i e
          exact A_ret (v := some (.int x)) hk.1 (by rw [e]; exact isB_nar h.1) h.2
        · exact h.elim
      · exact h.elim
    case lreturn =>
      have hk := dec_of ok (by simp) rfl
      split at h
      · rename_i x
        split at h
        · rename_i e
          exact A_ret (v := some (.long x)) hk.1 (by rw [e]; trivial) h
        · exact h.elim
      · exact h.elim
    case return_ =>
      have hk := dec_of ok (by simp) rfl
      split at h
      · split at h
        · rename_i e
          exact A_ret (v := none) hk.1 (by rw [e]; trivial) h
        · exact h.elim
      · exact h.elim
