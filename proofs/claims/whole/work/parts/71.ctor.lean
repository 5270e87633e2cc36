-- constructors of the parts
set_option maxHeartbeats 4000000 in
set_option maxRecDepth 100000 in
theorem k_X0_init (l : Launch) (D : va_G) (cI cZ : ClassId) (h0 sz : Nat) (r1 r2 : Nat) : Met l yX0_init (wsC yX0_init cX0_init 3) ({ frames := 1, cells := 0, slots := 0, locals := 12 }) (va_Pc [.ref h0, .ref r1, .ref r2] (fun U => U.heap.size = sz ∧ va_P D vwCl [(h0, .inr (0, [.null, .null]))] U.heap ∧ va_K D vwCl [(cI, .int), (cZ, .boolean)] U ∧ va_D (fun _ => True) [(h0, .inr (0, [.null, .null]))])) (va_Qv (fun _ : Nat → Nat => True) (fun u t => va_P D vwCl [(h0, .inr (0, [.ref r1, .ref r2]))] t.heap ∧ va_K D vwCl [(cI, .int), (cZ, .boolean)] t ∧ va_D (va_A [(h0, .inr (0, [.null, .null]))] sz) [(h0, .inr (0, [.ref r1, .ref r2]))]) (va_A [(h0, .inr (0, [.null, .null]))] sz)) 0 0 (va_A [(h0, .inr (0, [.null, .null]))] sz) := by
  refine Met.ofW (cc := cX0_init) (maxL := 3) (ret := none) (by decide) rfl ?_
  intro p e s m args below meth c s₁ B hml hv
  obtain ⟨rfl, hsz, hP, hK, hD0⟩ := hv
  have hx := B.exec
  have hb := B.bytes
  have hr := B.returns
  have hts0 := atoms_spec (ws := wsC yX0_init cX0_init 3) B.pre
  have htsL : ∀ w ∈ LT, w.before _ s = true := fun w h => hts0 w (List.mem_cons_of_mem _ h)
  have hw := fun {q : Nat} {w : Cond} (h : lkQ q w = true) => htsL w (List.mem_filter.mpr (lkQ_spec h))
  have hown : s.vm.findClass RX0 = some m.cls := findClass_of_methodNamed B.named
  have hlocks := B.notSynchronized
  have hin : meth.name = "<init>" := (name_of_methodNamed B.named B.method).1
  subst hsz
  have hD := hD0.self (sz := s.heap.size)
  generalize hAe : va_A [(h0, .inr (0, [.null, .null]))] s.heap.size = A at hD ⊢
  have hA : ∀ q : Nat, s.heap.size ≤ q → A q := fun q h => by rw [← hAe]; exact Or.inr h
  have hS : va_S A s.heap s.heap [] := va_S.rf
  have hP : va_P D vwCl [(h0, .inr (0, [.null, .null]))] s.heap := hP
  have hl := lv_entry ([.ref h0, .ref r1, .ref r2]) (n := 3) (Nat.le_of_ble_eq_true rfl)
  rw [lg_entry_eq]
  generalize (lg_sl ([.ref h0, .ref r1, .ref r2]) ++ List.replicate (3 - (lg_sl ([.ref h0, .ref r1, .ref r2])).length) Slot.unset).toArray = ls at hl ⊢
  have hl : lv_has ls 3 [(0, .ref h0), (1, .ref r1), (2, .ref r2)] := hl
  refine lv_aload_n hx hb dkX0_0 rfl (lv_at hl 0 rfl) ?_
  refine W.objInit hx hb hown (hw kw0) (hw kw1) (hw kw2) rfl (by rw [hml]; exact hl.1) rfl dkX0_1 (Nat.le_of_ble_eq_true rfl) (Nat.le_of_ble_eq_true rfl) ?_
  refine W.eq (g2 := F0 m 4 ls []) rfl ?_
  refine lv_aload_n hx hb dkX0_4 rfl (lv_at hl 0 rfl) ?_
  refine lv_aload_n hx hb dkX0_5 rfl (lv_at hl 1 rfl) ?_
  refine va_putF (D := D) (ci := 0) (v := .ref r1) (ty := tyX0 0) (C := RX0) (T := TX0) (N := 2) hx hb htsL (uw_at (c := 0) (by omega)) tyX0 (fun k hk => (fkOK_at (a := 0) (by omega) hk).2.1) (nm_at (c := 0) (by omega)) hown hK hP hD hS 0 rfl rfl 0 (by decide) (hw kw3) (fun _ h9 => h9) rfl hin rfl (fkOK_at (a := 0) (k := 0) (by omega) (by decide)).2.1 rfl rfl (Nat.le_of_ble_eq_true rfl) dkX0_6 (fun H locs hP hD hS => ?_)
  have hP : va_P D vwCl [(h0, .inr (0, [.ref r1, .null]))] H := hP
  have hD : va_D A [(h0, .inr (0, [.ref r1, .null]))] := hD
  refine lv_aload_n hx hb dkX0_9 rfl (lv_at hl 0 rfl) ?_
  refine lv_aload_n hx hb dkX0_10 rfl (lv_at hl 2 rfl) ?_
  refine va_putF (D := D) (ci := 0) (v := .ref r2) (ty := tyX0 1) (C := RX0) (T := TX0) (N := 2) hx hb htsL (uw_at (c := 0) (by omega)) tyX0 (fun k hk => (fkOK_at (a := 0) (by omega) hk).2.1) (nm_at (c := 0) (by omega)) hown hK hP hD hS 0 rfl rfl 1 (by decide) (hw kw4) (fun _ h9 => h9) rfl hin rfl (fkOK_at (a := 0) (k := 1) (by omega) (by decide)).2.1 rfl rfl (Nat.le_of_ble_eq_true rfl) dkX0_11 (fun H locs hP hD hS => ?_)
  have hP : va_P D vwCl [(h0, .inr (0, [.ref r1, .ref r2]))] H := hP
  have hD : va_D A [(h0, .inr (0, [.ref r1, .ref r2]))] := hD
  have hP9 := hP.sub (ws' := [(h0, .inr (0, [.ref r1, .ref r2]))]) [0] rfl
  have hD9 := hD.sub (ws' := [(h0, .inr (0, [.ref r1, .ref r2]))]) [0] (by decide) rfl
  refine W.widen (k := 0) (n := 0) (by omega) (by omega) ?_
  exact W.vret hx hb hr (fun t ht hW => ⟨⟨fun k => ([] : List Nat).getD k 0, rfl, trivial, by rw [ht]; exact hP9, va_K.moved hW.alike hK, hD9⟩, hS.F ht⟩) hS.2.2 dkX0_14
set_option maxHeartbeats 4000000 in
set_option maxRecDepth 100000 in
theorem k_X1_init (l : Launch) (D : va_G) (cI cZ : ClassId) (h0 sz : Nat) : Met l yX1_init (wsC yX1_init cX1_init 1) ({ frames := 1, cells := 2, slots := 12, locals := 12 }) (va_Pc [.ref h0] (fun U => U.heap.size = sz ∧ va_P D vwCl [(h0, .inr (1, [.int 0, .null, .null]))] U.heap ∧ va_K D vwCl [(cI, .int), (cZ, .boolean)] U ∧ va_D (fun _ => True) [(h0, .inr (1, [.int 0, .null, .null]))])) (va_Qv (fun _ : Nat → Nat => True) (fun u t => va_P D vwCl [(h0, .inr (1, [.int 0, .ref (u 0), .ref (u 1)])), ((u 0), .inl (cI, 6, .inl (fun _ => 0))), ((u 1), .inl (cI, 6, .inl (fun _ => 0)))] t.heap ∧ va_K D vwCl [(cI, .int), (cZ, .boolean)] t ∧ va_D (va_A [(h0, .inr (1, [.int 0, .null, .null]))] sz) [(h0, .inr (1, [.int 0, .ref (u 0), .ref (u 1)])), ((u 0), .inl (cI, 6, .inl (fun _ => 0))), ((u 1), .inl (cI, 6, .inl (fun _ => 0)))]) (va_A [(h0, .inr (1, [.int 0, .null, .null]))] sz)) 2 12 (va_A [(h0, .inr (1, [.int 0, .null, .null]))] sz) := by
  refine Met.ofW (cc := cX1_init) (maxL := 1) (ret := none) (by decide) rfl ?_
  intro p e s m args below meth c s₁ B hml hv
  obtain ⟨rfl, hsz, hP, hK, hD0⟩ := hv
  have hx := B.exec
  have hb := B.bytes
  have hr := B.returns
  have hts0 := atoms_spec (ws := wsC yX1_init cX1_init 1) B.pre
  have htsL : ∀ w ∈ LT, w.before _ s = true := fun w h => hts0 w (List.mem_cons_of_mem _ h)
  have hw := fun {q : Nat} {w : Cond} (h : lkQ q w = true) => htsL w (List.mem_filter.mpr (lkQ_spec h))
  have hown : s.vm.findClass RX1 = some m.cls := findClass_of_methodNamed B.named
  have hlocks := B.notSynchronized
  have hin : meth.name = "<init>" := (name_of_methodNamed B.named B.method).1
  subst hsz
  have hD := hD0.self (sz := s.heap.size)
  generalize hAe : va_A [(h0, .inr (1, [.int 0, .null, .null]))] s.heap.size = A at hD ⊢
  have hA : ∀ q : Nat, s.heap.size ≤ q → A q := fun q h => by rw [← hAe]; exact Or.inr h
  have hS : va_S A s.heap s.heap [] := va_S.rf
  have hP : va_P D vwCl [(h0, .inr (1, [.int 0, .null, .null]))] s.heap := hP
  have hl := lv_entry ([.ref h0]) (n := 1) (Nat.le_of_ble_eq_true rfl)
  rw [lg_entry_eq]
  generalize (lg_sl ([.ref h0]) ++ List.replicate (1 - (lg_sl ([.ref h0])).length) Slot.unset).toArray = ls at hl ⊢
  have hl : lv_has ls 1 [(0, .ref h0)] := hl
  refine lv_aload_n hx hb dkX1_0 rfl (lv_at hl 0 rfl) ?_
  refine W.objInit hx hb hown (hw kw5) (hw kw1) (hw kw2) rfl (by rw [hml]; exact hl.1) rfl dkX1_1 (Nat.le_of_ble_eq_true rfl) (Nat.le_of_ble_eq_true rfl) ?_
  refine W.eq (g2 := F0 m 4 ls []) rfl ?_
  refine lv_aload_n hx hb dkX1_4 rfl (lv_at hl 0 rfl) ?_
  refine lv_iconst (v := 0) hx hb dkX1_5 (by decide) ?_
  refine va_put (D := D) (ci := 1) (v := .int 0) (ty := tyX1 0) (C := RX1) (T := TX1) (N := 3) hx hb htsL (uw_at (c := 1) (by omega)) tyX1 (fun k hk => (fkOK_at (a := 1) (by omega) hk).2.1) (nm_at (c := 1) (by omega)) hown hK hP hD hS 0 rfl rfl 0 (by decide) (hw kw6) (fun _ h9 => h9) rfl (fkOK_at (a := 1) (k := 0) (by omega) (by decide)).2.1 rfl rfl (Nat.le_of_ble_eq_true rfl) dkX1_6 (fun H locs hP hD hS => ?_)
  have hP : va_P D vwCl [(h0, .inr (1, [.int 0, .null, .null]))] H := hP
  have hD : va_D A [(h0, .inr (1, [.int 0, .null, .null]))] := hD
  refine lv_aload_n hx hb dkX1_9 rfl (lv_at hl 0 rfl) ?_
  refine lv_bipush (v := 6) hx hb dkX1_10 (by decide) ?_
  refine va_newa (a0 := (6, .inl (fun _ => 0))) (N' := 6) (ty := .int) hx hb (hw kw7) rfl hK hP hD hS hA (fun _ => rfl) (by decide) (by decide) (by decide) (Nat.le_of_ble_eq_true rfl) (Nat.le_of_ble_eq_true rfl) dkX1_12 (fun q12 cA H hKa hP hD hS => ?_)
  obtain rfl : cI = cA := ka_same hKa (i := 0) (j := 2) rfl rfl
  have hP : va_P D vwCl [(h0, .inr (1, [.int 0, .null, .null])), (q12, .inl (cI, 6, .inl (fun _ => 0)))] H := hP
  have hD : va_D A [(h0, .inr (1, [.int 0, .null, .null])), (q12, .inl (cI, 6, .inl (fun _ => 0)))] := hD
  refine W.widen (k := 1) (n := 6) (by omega) (by omega) ?_
  refine va_putF (D := D) (ci := 1) (v := .ref q12) (ty := tyX1 1) (C := RX1) (T := TX1) (N := 3) hx hb htsL (uw_at (c := 1) (by omega)) tyX1 (fun k hk => (fkOK_at (a := 1) (by omega) hk).2.1) (nm_at (c := 1) (by omega)) hown hK hP hD hS 0 rfl rfl 1 (by decide) (hw kw8) (fun _ h9 => h9) rfl hin rfl (fkOK_at (a := 1) (k := 1) (by omega) (by decide)).2.1 rfl rfl (Nat.le_of_ble_eq_true rfl) dkX1_14 (fun H locs hP hD hS => ?_)
  have hP : va_P D vwCl [(h0, .inr (1, [.int 0, .ref q12, .null])), (q12, .inl (cI, 6, .inl (fun _ => 0)))] H := hP
  have hD : va_D A [(h0, .inr (1, [.int 0, .ref q12, .null])), (q12, .inl (cI, 6, .inl (fun _ => 0)))] := hD
  refine lv_aload_n hx hb dkX1_17 rfl (lv_at hl 0 rfl) ?_
  refine lv_bipush (v := 6) hx hb dkX1_18 (by decide) ?_
  refine va_newa (a0 := (6, .inl (fun _ => 0))) (N' := 6) (ty := .int) hx hb (hw kw7) rfl hK hP hD hS hA (fun _ => rfl) (by decide) (by decide) (by decide) (Nat.le_of_ble_eq_true rfl) (Nat.le_of_ble_eq_true rfl) dkX1_20 (fun q20 cA H hKa hP hD hS => ?_)
  obtain rfl : cI = cA := ka_same hKa (i := 0) (j := 2) rfl rfl
  have hP : va_P D vwCl [(h0, .inr (1, [.int 0, .ref q12, .null])), (q12, .inl (cI, 6, .inl (fun _ => 0))), (q20, .inl (cI, 6, .inl (fun _ => 0)))] H := hP
  have hD : va_D A [(h0, .inr (1, [.int 0, .ref q12, .null])), (q12, .inl (cI, 6, .inl (fun _ => 0))), (q20, .inl (cI, 6, .inl (fun _ => 0)))] := hD
  refine W.widen (k := 2) (n := 12) (by omega) (by omega) ?_
  refine va_putF (D := D) (ci := 1) (v := .ref q20) (ty := tyX1 2) (C := RX1) (T := TX1) (N := 3) hx hb htsL (uw_at (c := 1) (by omega)) tyX1 (fun k hk => (fkOK_at (a := 1) (by omega) hk).2.1) (nm_at (c := 1) (by omega)) hown hK hP hD hS 0 rfl rfl 2 (by decide) (hw kw9) (fun _ h9 => h9) rfl hin rfl (fkOK_at (a := 1) (k := 2) (by omega) (by decide)).2.1 rfl rfl (Nat.le_of_ble_eq_true rfl) dkX1_22 (fun H locs hP hD hS => ?_)
  have hP : va_P D vwCl [(h0, .inr (1, [.int 0, .ref q12, .ref q20])), (q12, .inl (cI, 6, .inl (fun _ => 0))), (q20, .inl (cI, 6, .inl (fun _ => 0)))] H := hP
  have hD : va_D A [(h0, .inr (1, [.int 0, .ref q12, .ref q20])), (q12, .inl (cI, 6, .inl (fun _ => 0))), (q20, .inl (cI, 6, .inl (fun _ => 0)))] := hD
  have hP9 := hP.sub (ws' := [(h0, .inr (1, [.int 0, .ref q12, .ref q20])), (q12, .inl (cI, 6, .inl (fun _ => 0))), (q20, .inl (cI, 6, .inl (fun _ => 0)))]) [0, 1, 2] rfl
  have hD9 := hD.sub (ws' := [(h0, .inr (1, [.int 0, .ref q12, .ref q20])), (q12, .inl (cI, 6, .inl (fun _ => 0))), (q20, .inl (cI, 6, .inl (fun _ => 0)))]) [0, 1, 2] (by decide) rfl
  refine W.widen (k := 2) (n := 12) (by omega) (by omega) ?_
  exact W.vret hx hb hr (fun t ht hW => ⟨⟨fun k => ([q12, q20] : List Nat).getD k 0, rfl, trivial, by rw [ht]; exact hP9, va_K.moved hW.alike hK, hD9⟩, hS.F ht⟩) hS.2.2 dkX1_25
set_option maxHeartbeats 4000000 in
set_option maxRecDepth 100000 in
theorem k_X2_init (l : Launch) (D : va_G) (cI cZ : ClassId) (h0 sz : Nat) : Met l yX2_init (wsC yX2_init cX2_init 1) ({ frames := 1, cells := 8, slots := 64, locals := 12 }) (va_Pc [.ref h0] (fun U => U.heap.size = sz ∧ va_P D vwCl [(h0, .inr (2, [.int 0, .int 0, .int 0, .null, .null, .null, .null, .null, .null, .null, .null]))] U.heap ∧ va_K D vwCl [(cI, .int), (cZ, .boolean)] U ∧ va_D (fun _ => True) [(h0, .inr (2, [.int 0, .int 0, .int 0, .null, .null, .null, .null, .null, .null, .null, .null]))])) (va_Qv (fun _ : Nat → Nat => True) (fun u t => va_P D vwCl [(h0, .inr (2, [.int 0, .int 0, .int 0, .ref (u 0), .ref (u 1), .ref (u 2), .ref (u 3), .ref (u 4), .ref (u 5), .ref (u 6), .ref (u 7)])), ((u 0), .inl (cI, 6, .inl (fun _ => 0))), ((u 1), .inl (cI, 6, .inl (fun _ => 0))), ((u 2), .inl (cI, 5, .inl (fun _ => 0))), ((u 3), .inl (cI, 5, .inl (fun _ => 0))), ((u 4), .inl (cI, 30, .inl (fun _ => 0))), ((u 5), .inl (cI, 4, .inl (fun _ => 0))), ((u 6), .inl (cI, 4, .inl (fun _ => 0))), ((u 7), .inl (cI, 4, .inl (fun _ => 0)))] t.heap ∧ va_K D vwCl [(cI, .int), (cZ, .boolean)] t ∧ va_D (va_A [(h0, .inr (2, [.int 0, .int 0, .int 0, .null, .null, .null, .null, .null, .null, .null, .null]))] sz) [(h0, .inr (2, [.int 0, .int 0, .int 0, .ref (u 0), .ref (u 1), .ref (u 2), .ref (u 3), .ref (u 4), .ref (u 5), .ref (u 6), .ref (u 7)])), ((u 0), .inl (cI, 6, .inl (fun _ => 0))), ((u 1), .inl (cI, 6, .inl (fun _ => 0))), ((u 2), .inl (cI, 5, .inl (fun _ => 0))), ((u 3), .inl (cI, 5, .inl (fun _ => 0))), ((u 4), .inl (cI, 30, .inl (fun _ => 0))), ((u 5), .inl (cI, 4, .inl (fun _ => 0))), ((u 6), .inl (cI, 4, .inl (fun _ => 0))), ((u 7), .inl (cI, 4, .inl (fun _ => 0)))]) (va_A [(h0, .inr (2, [.int 0, .int 0, .int 0, .null, .null, .null, .null, .null, .null, .null, .null]))] sz)) 8 64 (va_A [(h0, .inr (2, [.int 0, .int 0, .int 0, .null, .null, .null, .null, .null, .null, .null, .null]))] sz) := by
  refine Met.ofW (cc := cX2_init) (maxL := 1) (ret := none) (by decide) rfl ?_
  intro p e s m args below meth c s₁ B hml hv
  obtain ⟨rfl, hsz, hP, hK, hD0⟩ := hv
  have hx := B.exec
  have hb := B.bytes
  have hr := B.returns
  have hts0 := atoms_spec (ws := wsC yX2_init cX2_init 1) B.pre
  have htsL : ∀ w ∈ LT, w.before _ s = true := fun w h => hts0 w (List.mem_cons_of_mem _ h)
  have hw := fun {q : Nat} {w : Cond} (h : lkQ q w = true) => htsL w (List.mem_filter.mpr (lkQ_spec h))
  have hown : s.vm.findClass RX2 = some m.cls := findClass_of_methodNamed B.named
  have hlocks := B.notSynchronized
  have hin : meth.name = "<init>" := (name_of_methodNamed B.named B.method).1
  subst hsz
  have hD := hD0.self (sz := s.heap.size)
  generalize hAe : va_A [(h0, .inr (2, [.int 0, .int 0, .int 0, .null, .null, .null, .null, .null, .null, .null, .null]))] s.heap.size = A at hD ⊢
  have hA : ∀ q : Nat, s.heap.size ≤ q → A q := fun q h => by rw [← hAe]; exact Or.inr h
  have hS : va_S A s.heap s.heap [] := va_S.rf
  have hP : va_P D vwCl [(h0, .inr (2, [.int 0, .int 0, .int 0, .null, .null, .null, .null, .null, .null, .null, .null]))] s.heap := hP
  have hl := lv_entry ([.ref h0]) (n := 1) (Nat.le_of_ble_eq_true rfl)
  rw [lg_entry_eq]
  generalize (lg_sl ([.ref h0]) ++ List.replicate (1 - (lg_sl ([.ref h0])).length) Slot.unset).toArray = ls at hl ⊢
  have hl : lv_has ls 1 [(0, .ref h0)] := hl
  refine lv_aload_n hx hb dkX2_0 rfl (lv_at hl 0 rfl) ?_
  refine W.objInit hx hb hown (hw kw10) (hw kw1) (hw kw2) rfl (by rw [hml]; exact hl.1) rfl dkX2_1 (Nat.le_of_ble_eq_true rfl) (Nat.le_of_ble_eq_true rfl) ?_
  refine W.eq (g2 := F0 m 4 ls []) rfl ?_
  refine lv_aload_n hx hb dkX2_4 rfl (lv_at hl 0 rfl) ?_
  refine lv_iconst (v := 0) hx hb dkX2_5 (by decide) ?_
  refine va_put (D := D) (ci := 2) (v := .int 0) (ty := tyX2 0) (C := RX2) (T := TX2) (N := 11) hx hb htsL (uw_at (c := 2) (by omega)) tyX2 (fun k hk => (fkOK_at (a := 2) (by omega) hk).2.1) (nm_at (c := 2) (by omega)) hown hK hP hD hS 0 rfl rfl 0 (by decide) (hw kw11) (fun _ h9 => h9) rfl (fkOK_at (a := 2) (k := 0) (by omega) (by decide)).2.1 rfl rfl (Nat.le_of_ble_eq_true rfl) dkX2_6 (fun H locs hP hD hS => ?_)
  have hP : va_P D vwCl [(h0, .inr (2, [.int 0, .int 0, .int 0, .null, .null, .null, .null, .null, .null, .null, .null]))] H := hP
  have hD : va_D A [(h0, .inr (2, [.int 0, .int 0, .int 0, .null, .null, .null, .null, .null, .null, .null, .null]))] := hD
  refine lv_aload_n hx hb dkX2_9 rfl (lv_at hl 0 rfl) ?_
  refine lv_iconst (v := 0) hx hb dkX2_10 (by decide) ?_
  refine va_put (D := D) (ci := 2) (v := .int 0) (ty := tyX2 1) (C := RX2) (T := TX2) (N := 11) hx hb htsL (uw_at (c := 2) (by omega)) tyX2 (fun k hk => (fkOK_at (a := 2) (by omega) hk).2.1) (nm_at (c := 2) (by omega)) hown hK hP hD hS 0 rfl rfl 1 (by decide) (hw kw12) (fun _ h9 => h9) rfl (fkOK_at (a := 2) (k := 1) (by omega) (by decide)).2.1 rfl rfl (Nat.le_of_ble_eq_true rfl) dkX2_11 (fun H locs hP hD hS => ?_)
  have hP : va_P D vwCl [(h0, .inr (2, [.int 0, .int 0, .int 0, .null, .null, .null, .null, .null, .null, .null, .null]))] H := hP
  have hD : va_D A [(h0, .inr (2, [.int 0, .int 0, .int 0, .null, .null, .null, .null, .null, .null, .null, .null]))] := hD
  refine lv_aload_n hx hb dkX2_14 rfl (lv_at hl 0 rfl) ?_
  refine lv_iconst (v := 0) hx hb dkX2_15 (by decide) ?_
  refine va_put (D := D) (ci := 2) (v := .int 0) (ty := tyX2 2) (C := RX2) (T := TX2) (N := 11) hx hb htsL (uw_at (c := 2) (by omega)) tyX2 (fun k hk => (fkOK_at (a := 2) (by omega) hk).2.1) (nm_at (c := 2) (by omega)) hown hK hP hD hS 0 rfl rfl 2 (by decide) (hw kw13) (fun _ h9 => h9) rfl (fkOK_at (a := 2) (k := 2) (by omega) (by decide)).2.1 rfl rfl (Nat.le_of_ble_eq_true rfl) dkX2_16 (fun H locs hP hD hS => ?_)
  have hP : va_P D vwCl [(h0, .inr (2, [.int 0, .int 0, .int 0, .null, .null, .null, .null, .null, .null, .null, .null]))] H := hP
  have hD : va_D A [(h0, .inr (2, [.int 0, .int 0, .int 0, .null, .null, .null, .null, .null, .null, .null, .null]))] := hD
  refine lv_aload_n hx hb dkX2_19 rfl (lv_at hl 0 rfl) ?_
  refine lv_bipush (v := 6) hx hb dkX2_20 (by decide) ?_
  refine va_newa (a0 := (6, .inl (fun _ => 0))) (N' := 6) (ty := .int) hx hb (hw kw7) rfl hK hP hD hS hA (fun _ => rfl) (by decide) (by decide) (by decide) (Nat.le_of_ble_eq_true rfl) (Nat.le_of_ble_eq_true rfl) dkX2_22 (fun q22 cA H hKa hP hD hS => ?_)
  obtain rfl : cI = cA := ka_same hKa (i := 0) (j := 2) rfl rfl
  have hP : va_P D vwCl [(h0, .inr (2, [.int 0, .int 0, .int 0, .null, .null, .null, .null, .null, .null, .null, .null])), (q22, .inl (cI, 6, .inl (fun _ => 0)))] H := hP
  have hD : va_D A [(h0, .inr (2, [.int 0, .int 0, .int 0, .null, .null, .null, .null, .null, .null, .null, .null])), (q22, .inl (cI, 6, .inl (fun _ => 0)))] := hD
  refine W.widen (k := 1) (n := 6) (by omega) (by omega) ?_
  refine va_putF (D := D) (ci := 2) (v := .ref q22) (ty := tyX2 3) (C := RX2) (T := TX2) (N := 11) hx hb htsL (uw_at (c := 2) (by omega)) tyX2 (fun k hk => (fkOK_at (a := 2) (by omega) hk).2.1) (nm_at (c := 2) (by omega)) hown hK hP hD hS 0 rfl rfl 3 (by decide) (hw kw14) (fun _ h9 => h9) rfl hin rfl (fkOK_at (a := 2) (k := 3) (by omega) (by decide)).2.1 rfl rfl (Nat.le_of_ble_eq_true rfl) dkX2_24 (fun H locs hP hD hS => ?_)
  have hP : va_P D vwCl [(h0, .inr (2, [.int 0, .int 0, .int 0, .ref q22, .null, .null, .null, .null, .null, .null, .null])), (q22, .inl (cI, 6, .inl (fun _ => 0)))] H := hP
  have hD : va_D A [(h0, .inr (2, [.int 0, .int 0, .int 0, .ref q22, .null, .null, .null, .null, .null, .null, .null])), (q22, .inl (cI, 6, .inl (fun _ => 0)))] := hD
  refine lv_aload_n hx hb dkX2_27 rfl (lv_at hl 0 rfl) ?_
  refine lv_bipush (v := 6) hx hb dkX2_28 (by decide) ?_
  refine va_newa (a0 := (6, .inl (fun _ => 0))) (N' := 6) (ty := .int) hx hb (hw kw7) rfl hK hP hD hS hA (fun _ => rfl) (by decide) (by decide) (by decide) (Nat.le_of_ble_eq_true rfl) (Nat.le_of_ble_eq_true rfl) dkX2_30 (fun q30 cA H hKa hP hD hS => ?_)
  obtain rfl : cI = cA := ka_same hKa (i := 0) (j := 2) rfl rfl
  have hP : va_P D vwCl [(h0, .inr (2, [.int 0, .int 0, .int 0, .ref q22, .null, .null, .null, .null, .null, .null, .null])), (q22, .inl (cI, 6, .inl (fun _ => 0))), (q30, .inl (cI, 6, .inl (fun _ => 0)))] H := hP
  have hD : va_D A [(h0, .inr (2, [.int 0, .int 0, .int 0, .ref q22, .null, .null, .null, .null, .null, .null, .null])), (q22, .inl (cI, 6, .inl (fun _ => 0))), (q30, .inl (cI, 6, .inl (fun _ => 0)))] := hD
  refine W.widen (k := 2) (n := 12) (by omega) (by omega) ?_
  refine va_putF (D := D) (ci := 2) (v := .ref q30) (ty := tyX2 4) (C := RX2) (T := TX2) (N := 11) hx hb htsL (uw_at (c := 2) (by omega)) tyX2 (fun k hk => (fkOK_at (a := 2) (by omega) hk).2.1) (nm_at (c := 2) (by omega)) hown hK hP hD hS 0 rfl rfl 4 (by decide) (hw kw15) (fun _ h9 => h9) rfl hin rfl (fkOK_at (a := 2) (k := 4) (by omega) (by decide)).2.1 rfl rfl (Nat.le_of_ble_eq_true rfl) dkX2_32 (fun H locs hP hD hS => ?_)
  have hP : va_P D vwCl [(h0, .inr (2, [.int 0, .int 0, .int 0, .ref q22, .ref q30, .null, .null, .null, .null, .null, .null])), (q22, .inl (cI, 6, .inl (fun _ => 0))), (q30, .inl (cI, 6, .inl (fun _ => 0)))] H := hP
  have hD : va_D A [(h0, .inr (2, [.int 0, .int 0, .int 0, .ref q22, .ref q30, .null, .null, .null, .null, .null, .null])), (q22, .inl (cI, 6, .inl (fun _ => 0))), (q30, .inl (cI, 6, .inl (fun _ => 0)))] := hD
  refine lv_aload_n hx hb dkX2_35 rfl (lv_at hl 0 rfl) ?_
  refine lv_iconst (v := 5) hx hb dkX2_36 (by decide) ?_
  refine va_newa (a0 := (5, .inl (fun _ => 0))) (N' := 5) (ty := .int) hx hb (hw kw7) rfl hK hP hD hS hA (fun _ => rfl) (by decide) (by decide) (by decide) (Nat.le_of_ble_eq_true rfl) (Nat.le_of_ble_eq_true rfl) dkX2_37 (fun q37 cA H hKa hP hD hS => ?_)
  obtain rfl : cI = cA := ka_same hKa (i := 0) (j := 2) rfl rfl
  have hP : va_P D vwCl [(h0, .inr (2, [.int 0, .int 0, .int 0, .ref q22, .ref q30, .null, .null, .null, .null, .null, .null])), (q22, .inl (cI, 6, .inl (fun _ => 0))), (q30, .inl (cI, 6, .inl (fun _ => 0))), (q37, .inl (cI, 5, .inl (fun _ => 0)))] H := hP
  have hD : va_D A [(h0, .inr (2, [.int 0, .int 0, .int 0, .ref q22, .ref q30, .null, .null, .null, .null, .null, .null])), (q22, .inl (cI, 6, .inl (fun _ => 0))), (q30, .inl (cI, 6, .inl (fun _ => 0))), (q37, .inl (cI, 5, .inl (fun _ => 0)))] := hD
  refine W.widen (k := 3) (n := 17) (by omega) (by omega) ?_
  refine va_putF (D := D) (ci := 2) (v := .ref q37) (ty := tyX2 5) (C := RX2) (T := TX2) (N := 11) hx hb htsL (uw_at (c := 2) (by omega)) tyX2 (fun k hk => (fkOK_at (a := 2) (by omega) hk).2.1) (nm_at (c := 2) (by omega)) hown hK hP hD hS 0 rfl rfl 5 (by decide) (hw kw16) (fun _ h9 => h9) rfl hin rfl (fkOK_at (a := 2) (k := 5) (by omega) (by decide)).2.1 rfl rfl (Nat.le_of_ble_eq_true rfl) dkX2_39 (fun H locs hP hD hS => ?_)
  have hP : va_P D vwCl [(h0, .inr (2, [.int 0, .int 0, .int 0, .ref q22, .ref q30, .ref q37, .null, .null, .null, .null, .null])), (q22, .inl (cI, 6, .inl (fun _ => 0))), (q30, .inl (cI, 6, .inl (fun _ => 0))), (q37, .inl (cI, 5, .inl (fun _ => 0)))] H := hP
  have hD : va_D A [(h0, .inr (2, [.int 0, .int 0, .int 0, .ref q22, .ref q30, .ref q37, .null, .null, .null, .null, .null])), (q22, .inl (cI, 6, .inl (fun _ => 0))), (q30, .inl (cI, 6, .inl (fun _ => 0))), (q37, .inl (cI, 5, .inl (fun _ => 0)))] := hD
  refine lv_aload_n hx hb dkX2_42 rfl (lv_at hl 0 rfl) ?_
  refine lv_iconst (v := 5) hx hb dkX2_43 (by decide) ?_
  refine va_newa (a0 := (5, .inl (fun _ => 0))) (N' := 5) (ty := .int) hx hb (hw kw7) rfl hK hP hD hS hA (fun _ => rfl) (by decide) (by decide) (by decide) (Nat.le_of_ble_eq_true rfl) (Nat.le_of_ble_eq_true rfl) dkX2_44 (fun q44 cA H hKa hP hD hS => ?_)
  obtain rfl : cI = cA := ka_same hKa (i := 0) (j := 2) rfl rfl
  have hP : va_P D vwCl [(h0, .inr (2, [.int 0, .int 0, .int 0, .ref q22, .ref q30, .ref q37, .null, .null, .null, .null, .null])), (q22, .inl (cI, 6, .inl (fun _ => 0))), (q30, .inl (cI, 6, .inl (fun _ => 0))), (q37, .inl (cI, 5, .inl (fun _ => 0))), (q44, .inl (cI, 5, .inl (fun _ => 0)))] H := hP
  have hD : va_D A [(h0, .inr (2, [.int 0, .int 0, .int 0, .ref q22, .ref q30, .ref q37, .null, .null, .null, .null, .null])), (q22, .inl (cI, 6, .inl (fun _ => 0))), (q30, .inl (cI, 6, .inl (fun _ => 0))), (q37, .inl (cI, 5, .inl (fun _ => 0))), (q44, .inl (cI, 5, .inl (fun _ => 0)))] := hD
  refine W.widen (k := 4) (n := 22) (by omega) (by omega) ?_
  refine va_putF (D := D) (ci := 2) (v := .ref q44) (ty := tyX2 6) (C := RX2) (T := TX2) (N := 11) hx hb htsL (uw_at (c := 2) (by omega)) tyX2 (fun k hk => (fkOK_at (a := 2) (by omega) hk).2.1) (nm_at (c := 2) (by omega)) hown hK hP hD hS 0 rfl rfl 6 (by decide) (hw kw17) (fun _ h9 => h9) rfl hin rfl (fkOK_at (a := 2) (k := 6) (by omega) (by decide)).2.1 rfl rfl (Nat.le_of_ble_eq_true rfl) dkX2_46 (fun H locs hP hD hS => ?_)
  have hP : va_P D vwCl [(h0, .inr (2, [.int 0, .int 0, .int 0, .ref q22, .ref q30, .ref q37, .ref q44, .null, .null, .null, .null])), (q22, .inl (cI, 6, .inl (fun _ => 0))), (q30, .inl (cI, 6, .inl (fun _ => 0))), (q37, .inl (cI, 5, .inl (fun _ => 0))), (q44, .inl (cI, 5, .inl (fun _ => 0)))] H := hP
  have hD : va_D A [(h0, .inr (2, [.int 0, .int 0, .int 0, .ref q22, .ref q30, .ref q37, .ref q44, .null, .null, .null, .null])), (q22, .inl (cI, 6, .inl (fun _ => 0))), (q30, .inl (cI, 6, .inl (fun _ => 0))), (q37, .inl (cI, 5, .inl (fun _ => 0))), (q44, .inl (cI, 5, .inl (fun _ => 0)))] := hD
  refine lv_aload_n hx hb dkX2_49 rfl (lv_at hl 0 rfl) ?_
  refine lv_bipush (v := 30) hx hb dkX2_50 (by decide) ?_
  refine va_newa (a0 := (30, .inl (fun _ => 0))) (N' := 30) (ty := .int) hx hb (hw kw7) rfl hK hP hD hS hA (fun _ => rfl) (by decide) (by decide) (by decide) (Nat.le_of_ble_eq_true rfl) (Nat.le_of_ble_eq_true rfl) dkX2_52 (fun q52 cA H hKa hP hD hS => ?_)
  obtain rfl : cI = cA := ka_same hKa (i := 0) (j := 2) rfl rfl
  have hP : va_P D vwCl [(h0, .inr (2, [.int 0, .int 0, .int 0, .ref q22, .ref q30, .ref q37, .ref q44, .null, .null, .null, .null])), (q22, .inl (cI, 6, .inl (fun _ => 0))), (q30, .inl (cI, 6, .inl (fun _ => 0))), (q37, .inl (cI, 5, .inl (fun _ => 0))), (q44, .inl (cI, 5, .inl (fun _ => 0))), (q52, .inl (cI, 30, .inl (fun _ => 0)))] H := hP
  have hD : va_D A [(h0, .inr (2, [.int 0, .int 0, .int 0, .ref q22, .ref q30, .ref q37, .ref q44, .null, .null, .null, .null])), (q22, .inl (cI, 6, .inl (fun _ => 0))), (q30, .inl (cI, 6, .inl (fun _ => 0))), (q37, .inl (cI, 5, .inl (fun _ => 0))), (q44, .inl (cI, 5, .inl (fun _ => 0))), (q52, .inl (cI, 30, .inl (fun _ => 0)))] := hD
  refine W.widen (k := 5) (n := 52) (by omega) (by omega) ?_
  refine va_putF (D := D) (ci := 2) (v := .ref q52) (ty := tyX2 7) (C := RX2) (T := TX2) (N := 11) hx hb htsL (uw_at (c := 2) (by omega)) tyX2 (fun k hk => (fkOK_at (a := 2) (by omega) hk).2.1) (nm_at (c := 2) (by omega)) hown hK hP hD hS 0 rfl rfl 7 (by decide) (hw kw18) (fun _ h9 => h9) rfl hin rfl (fkOK_at (a := 2) (k := 7) (by omega) (by decide)).2.1 rfl rfl (Nat.le_of_ble_eq_true rfl) dkX2_54 (fun H locs hP hD hS => ?_)
  have hP : va_P D vwCl [(h0, .inr (2, [.int 0, .int 0, .int 0, .ref q22, .ref q30, .ref q37, .ref q44, .ref q52, .null, .null, .null])), (q22, .inl (cI, 6, .inl (fun _ => 0))), (q30, .inl (cI, 6, .inl (fun _ => 0))), (q37, .inl (cI, 5, .inl (fun _ => 0))), (q44, .inl (cI, 5, .inl (fun _ => 0))), (q52, .inl (cI, 30, .inl (fun _ => 0)))] H := hP
  have hD : va_D A [(h0, .inr (2, [.int 0, .int 0, .int 0, .ref q22, .ref q30, .ref q37, .ref q44, .ref q52, .null, .null, .null])), (q22, .inl (cI, 6, .inl (fun _ => 0))), (q30, .inl (cI, 6, .inl (fun _ => 0))), (q37, .inl (cI, 5, .inl (fun _ => 0))), (q44, .inl (cI, 5, .inl (fun _ => 0))), (q52, .inl (cI, 30, .inl (fun _ => 0)))] := hD
  refine lv_aload_n hx hb dkX2_57 rfl (lv_at hl 0 rfl) ?_
  refine lv_iconst (v := 4) hx hb dkX2_58 (by decide) ?_
  refine va_newa (a0 := (4, .inl (fun _ => 0))) (N' := 4) (ty := .int) hx hb (hw kw7) rfl hK hP hD hS hA (fun _ => rfl) (by decide) (by decide) (by decide) (Nat.le_of_ble_eq_true rfl) (Nat.le_of_ble_eq_true rfl) dkX2_59 (fun q59 cA H hKa hP hD hS => ?_)
  obtain rfl : cI = cA := ka_same hKa (i := 0) (j := 2) rfl rfl
  have hP : va_P D vwCl [(h0, .inr (2, [.int 0, .int 0, .int 0, .ref q22, .ref q30, .ref q37, .ref q44, .ref q52, .null, .null, .null])), (q22, .inl (cI, 6, .inl (fun _ => 0))), (q30, .inl (cI, 6, .inl (fun _ => 0))), (q37, .inl (cI, 5, .inl (fun _ => 0))), (q44, .inl (cI, 5, .inl (fun _ => 0))), (q52, .inl (cI, 30, .inl (fun _ => 0))), (q59, .inl (cI, 4, .inl (fun _ => 0)))] H := hP
  have hD : va_D A [(h0, .inr (2, [.int 0, .int 0, .int 0, .ref q22, .ref q30, .ref q37, .ref q44, .ref q52, .null, .null, .null])), (q22, .inl (cI, 6, .inl (fun _ => 0))), (q30, .inl (cI, 6, .inl (fun _ => 0))), (q37, .inl (cI, 5, .inl (fun _ => 0))), (q44, .inl (cI, 5, .inl (fun _ => 0))), (q52, .inl (cI, 30, .inl (fun _ => 0))), (q59, .inl (cI, 4, .inl (fun _ => 0)))] := hD
  refine W.widen (k := 6) (n := 56) (by omega) (by omega) ?_
  refine va_putF (D := D) (ci := 2) (v := .ref q59) (ty := tyX2 8) (C := RX2) (T := TX2) (N := 11) hx hb htsL (uw_at (c := 2) (by omega)) tyX2 (fun k hk => (fkOK_at (a := 2) (by omega) hk).2.1) (nm_at (c := 2) (by omega)) hown hK hP hD hS 0 rfl rfl 8 (by decide) (hw kw19) (fun _ h9 => h9) rfl hin rfl (fkOK_at (a := 2) (k := 8) (by omega) (by decide)).2.1 rfl rfl (Nat.le_of_ble_eq_true rfl) dkX2_61 (fun H locs hP hD hS => ?_)
  have hP : va_P D vwCl [(h0, .inr (2, [.int 0, .int 0, .int 0, .ref q22, .ref q30, .ref q37, .ref q44, .ref q52, .ref q59, .null, .null])), (q22, .inl (cI, 6, .inl (fun _ => 0))), (q30, .inl (cI, 6, .inl (fun _ => 0))), (q37, .inl (cI, 5, .inl (fun _ => 0))), (q44, .inl (cI, 5, .inl (fun _ => 0))), (q52, .inl (cI, 30, .inl (fun _ => 0))), (q59, .inl (cI, 4, .inl (fun _ => 0)))] H := hP
  have hD : va_D A [(h0, .inr (2, [.int 0, .int 0, .int 0, .ref q22, .ref q30, .ref q37, .ref q44, .ref q52, .ref q59, .null, .null])), (q22, .inl (cI, 6, .inl (fun _ => 0))), (q30, .inl (cI, 6, .inl (fun _ => 0))), (q37, .inl (cI, 5, .inl (fun _ => 0))), (q44, .inl (cI, 5, .inl (fun _ => 0))), (q52, .inl (cI, 30, .inl (fun _ => 0))), (q59, .inl (cI, 4, .inl (fun _ => 0)))] := hD
  refine lv_aload_n hx hb dkX2_64 rfl (lv_at hl 0 rfl) ?_
  refine lv_iconst (v := 4) hx hb dkX2_65 (by decide) ?_
  refine va_newa (a0 := (4, .inl (fun _ => 0))) (N' := 4) (ty := .int) hx hb (hw kw7) rfl hK hP hD hS hA (fun _ => rfl) (by decide) (by decide) (by decide) (Nat.le_of_ble_eq_true rfl) (Nat.le_of_ble_eq_true rfl) dkX2_66 (fun q66 cA H hKa hP hD hS => ?_)
  obtain rfl : cI = cA := ka_same hKa (i := 0) (j := 2) rfl rfl
  have hP : va_P D vwCl [(h0, .inr (2, [.int 0, .int 0, .int 0, .ref q22, .ref q30, .ref q37, .ref q44, .ref q52, .ref q59, .null, .null])), (q22, .inl (cI, 6, .inl (fun _ => 0))), (q30, .inl (cI, 6, .inl (fun _ => 0))), (q37, .inl (cI, 5, .inl (fun _ => 0))), (q44, .inl (cI, 5, .inl (fun _ => 0))), (q52, .inl (cI, 30, .inl (fun _ => 0))), (q59, .inl (cI, 4, .inl (fun _ => 0))), (q66, .inl (cI, 4, .inl (fun _ => 0)))] H := hP
  have hD : va_D A [(h0, .inr (2, [.int 0, .int 0, .int 0, .ref q22, .ref q30, .ref q37, .ref q44, .ref q52, .ref q59, .null, .null])), (q22, .inl (cI, 6, .inl (fun _ => 0))), (q30, .inl (cI, 6, .inl (fun _ => 0))), (q37, .inl (cI, 5, .inl (fun _ => 0))), (q44, .inl (cI, 5, .inl (fun _ => 0))), (q52, .inl (cI, 30, .inl (fun _ => 0))), (q59, .inl (cI, 4, .inl (fun _ => 0))), (q66, .inl (cI, 4, .inl (fun _ => 0)))] := hD
  refine W.widen (k := 7) (n := 60) (by omega) (by omega) ?_
  refine va_putF (D := D) (ci := 2) (v := .ref q66) (ty := tyX2 9) (C := RX2) (T := TX2) (N := 11) hx hb htsL (uw_at (c := 2) (by omega)) tyX2 (fun k hk => (fkOK_at (a := 2) (by omega) hk).2.1) (nm_at (c := 2) (by omega)) hown hK hP hD hS 0 rfl rfl 9 (by decide) (hw kw20) (fun _ h9 => h9) rfl hin rfl (fkOK_at (a := 2) (k := 9) (by omega) (by decide)).2.1 rfl rfl (Nat.le_of_ble_eq_true rfl) dkX2_68 (fun H locs hP hD hS => ?_)
  have hP : va_P D vwCl [(h0, .inr (2, [.int 0, .int 0, .int 0, .ref q22, .ref q30, .ref q37, .ref q44, .ref q52, .ref q59, .ref q66, .null])), (q22, .inl (cI, 6, .inl (fun _ => 0))), (q30, .inl (cI, 6, .inl (fun _ => 0))), (q37, .inl (cI, 5, .inl (fun _ => 0))), (q44, .inl (cI, 5, .inl (fun _ => 0))), (q52, .inl (cI, 30, .inl (fun _ => 0))), (q59, .inl (cI, 4, .inl (fun _ => 0))), (q66, .inl (cI, 4, .inl (fun _ => 0)))] H := hP
  have hD : va_D A [(h0, .inr (2, [.int 0, .int 0, .int 0, .ref q22, .ref q30, .ref q37, .ref q44, .ref q52, .ref q59, .ref q66, .null])), (q22, .inl (cI, 6, .inl (fun _ => 0))), (q30, .inl (cI, 6, .inl (fun _ => 0))), (q37, .inl (cI, 5, .inl (fun _ => 0))), (q44, .inl (cI, 5, .inl (fun _ => 0))), (q52, .inl (cI, 30, .inl (fun _ => 0))), (q59, .inl (cI, 4, .inl (fun _ => 0))), (q66, .inl (cI, 4, .inl (fun _ => 0)))] := hD
  refine lv_aload_n hx hb dkX2_71 rfl (lv_at hl 0 rfl) ?_
  refine lv_iconst (v := 4) hx hb dkX2_72 (by decide) ?_
  refine va_newa (a0 := (4, .inl (fun _ => 0))) (N' := 4) (ty := .int) hx hb (hw kw7) rfl hK hP hD hS hA (fun _ => rfl) (by decide) (by decide) (by decide) (Nat.le_of_ble_eq_true rfl) (Nat.le_of_ble_eq_true rfl) dkX2_73 (fun q73 cA H hKa hP hD hS => ?_)
  obtain rfl : cI = cA := ka_same hKa (i := 0) (j := 2) rfl rfl
  have hP : va_P D vwCl [(h0, .inr (2, [.int 0, .int 0, .int 0, .ref q22, .ref q30, .ref q37, .ref q44, .ref q52, .ref q59, .ref q66, .null])), (q22, .inl (cI, 6, .inl (fun _ => 0))), (q30, .inl (cI, 6, .inl (fun _ => 0))), (q37, .inl (cI, 5, .inl (fun _ => 0))), (q44, .inl (cI, 5, .inl (fun _ => 0))), (q52, .inl (cI, 30, .inl (fun _ => 0))), (q59, .inl (cI, 4, .inl (fun _ => 0))), (q66, .inl (cI, 4, .inl (fun _ => 0))), (q73, .inl (cI, 4, .inl (fun _ => 0)))] H := hP
  have hD : va_D A [(h0, .inr (2, [.int 0, .int 0, .int 0, .ref q22, .ref q30, .ref q37, .ref q44, .ref q52, .ref q59, .ref q66, .null])), (q22, .inl (cI, 6, .inl (fun _ => 0))), (q30, .inl (cI, 6, .inl (fun _ => 0))), (q37, .inl (cI, 5, .inl (fun _ => 0))), (q44, .inl (cI, 5, .inl (fun _ => 0))), (q52, .inl (cI, 30, .inl (fun _ => 0))), (q59, .inl (cI, 4, .inl (fun _ => 0))), (q66, .inl (cI, 4, .inl (fun _ => 0))), (q73, .inl (cI, 4, .inl (fun _ => 0)))] := hD
  refine W.widen (k := 8) (n := 64) (by omega) (by omega) ?_
  refine va_putF (D := D) (ci := 2) (v := .ref q73) (ty := tyX2 10) (C := RX2) (T := TX2) (N := 11) hx hb htsL (uw_at (c := 2) (by omega)) tyX2 (fun k hk => (fkOK_at (a := 2) (by omega) hk).2.1) (nm_at (c := 2) (by omega)) hown hK hP hD hS 0 rfl rfl 10 (by decide) (hw kw21) (fun _ h9 => h9) rfl hin rfl (fkOK_at (a := 2) (k := 10) (by omega) (by decide)).2.1 rfl rfl (Nat.le_of_ble_eq_true rfl) dkX2_75 (fun H locs hP hD hS => ?_)
  have hP : va_P D vwCl [(h0, .inr (2, [.int 0, .int 0, .int 0, .ref q22, .ref q30, .ref q37, .ref q44, .ref q52, .ref q59, .ref q66, .ref q73])), (q22, .inl (cI, 6, .inl (fun _ => 0))), (q30, .inl (cI, 6, .inl (fun _ => 0))), (q37, .inl (cI, 5, .inl (fun _ => 0))), (q44, .inl (cI, 5, .inl (fun _ => 0))), (q52, .inl (cI, 30, .inl (fun _ => 0))), (q59, .inl (cI, 4, .inl (fun _ => 0))), (q66, .inl (cI, 4, .inl (fun _ => 0))), (q73, .inl (cI, 4, .inl (fun _ => 0)))] H := hP
  have hD : va_D A [(h0, .inr (2, [.int 0, .int 0, .int 0, .ref q22, .ref q30, .ref q37, .ref q44, .ref q52, .ref q59, .ref q66, .ref q73])), (q22, .inl (cI, 6, .inl (fun _ => 0))), (q30, .inl (cI, 6, .inl (fun _ => 0))), (q37, .inl (cI, 5, .inl (fun _ => 0))), (q44, .inl (cI, 5, .inl (fun _ => 0))), (q52, .inl (cI, 30, .inl (fun _ => 0))), (q59, .inl (cI, 4, .inl (fun _ => 0))), (q66, .inl (cI, 4, .inl (fun _ => 0))), (q73, .inl (cI, 4, .inl (fun _ => 0)))] := hD
  have hP9 := hP.sub (ws' := [(h0, .inr (2, [.int 0, .int 0, .int 0, .ref q22, .ref q30, .ref q37, .ref q44, .ref q52, .ref q59, .ref q66, .ref q73])), (q22, .inl (cI, 6, .inl (fun _ => 0))), (q30, .inl (cI, 6, .inl (fun _ => 0))), (q37, .inl (cI, 5, .inl (fun _ => 0))), (q44, .inl (cI, 5, .inl (fun _ => 0))), (q52, .inl (cI, 30, .inl (fun _ => 0))), (q59, .inl (cI, 4, .inl (fun _ => 0))), (q66, .inl (cI, 4, .inl (fun _ => 0))), (q73, .inl (cI, 4, .inl (fun _ => 0)))]) [0, 1, 2, 3, 4, 5, 6, 7, 8] rfl
  have hD9 := hD.sub (ws' := [(h0, .inr (2, [.int 0, .int 0, .int 0, .ref q22, .ref q30, .ref q37, .ref q44, .ref q52, .ref q59, .ref q66, .ref q73])), (q22, .inl (cI, 6, .inl (fun _ => 0))), (q30, .inl (cI, 6, .inl (fun _ => 0))), (q37, .inl (cI, 5, .inl (fun _ => 0))), (q44, .inl (cI, 5, .inl (fun _ => 0))), (q52, .inl (cI, 30, .inl (fun _ => 0))), (q59, .inl (cI, 4, .inl (fun _ => 0))), (q66, .inl (cI, 4, .inl (fun _ => 0))), (q73, .inl (cI, 4, .inl (fun _ => 0)))]) [0, 1, 2, 3, 4, 5, 6, 7, 8] (by decide) rfl
  refine W.widen (k := 8) (n := 64) (by omega) (by omega) ?_
  exact W.vret hx hb hr (fun t ht hW => ⟨⟨fun k => ([q22, q30, q37, q44, q52, q59, q66, q73] : List Nat).getD k 0, rfl, trivial, by rw [ht]; exact hP9, va_K.moved hW.alike hK, hD9⟩, hS.F ht⟩) hS.2.2 dkX2_78
set_option maxHeartbeats 4000000 in
set_option maxRecDepth 100000 in
theorem k_X3_init (l : Launch) (D : va_G) (cI cZ : ClassId) (h0 sz : Nat) (r1 r2 r3 : Nat) : Met l yX3_init (wsC yX3_init cX3_init 4) ({ frames := 1, cells := 0, slots := 0, locals := 12 }) (va_Pc [.ref h0, .ref r1, .ref r2, .ref r3] (fun U => U.heap.size = sz ∧ va_P D vwCl [(h0, .inr (3, [.null, .null, .null, .long 0]))] U.heap ∧ va_K D vwCl [(cI, .int), (cZ, .boolean)] U ∧ va_D (fun _ => True) [(h0, .inr (3, [.null, .null, .null, .long 0]))])) (va_Qv (fun _ : Nat → Nat => True) (fun u t => va_P D vwCl [(h0, .inr (3, [.ref r1, .ref r2, .ref r3, .long 0]))] t.heap ∧ va_K D vwCl [(cI, .int), (cZ, .boolean)] t ∧ va_D (va_A [(h0, .inr (3, [.null, .null, .null, .long 0]))] sz) [(h0, .inr (3, [.ref r1, .ref r2, .ref r3, .long 0]))]) (va_A [(h0, .inr (3, [.null, .null, .null, .long 0]))] sz)) 0 0 (va_A [(h0, .inr (3, [.null, .null, .null, .long 0]))] sz) := by
  refine Met.ofW (cc := cX3_init) (maxL := 4) (ret := none) (by decide) rfl ?_
  intro p e s m args below meth c s₁ B hml hv
  obtain ⟨rfl, hsz, hP, hK, hD0⟩ := hv
  have hx := B.exec
  have hb := B.bytes
  have hr := B.returns
  have hts0 := atoms_spec (ws := wsC yX3_init cX3_init 4) B.pre
  have htsL : ∀ w ∈ LT, w.before _ s = true := fun w h => hts0 w (List.mem_cons_of_mem _ h)
  have hw := fun {q : Nat} {w : Cond} (h : lkQ q w = true) => htsL w (List.mem_filter.mpr (lkQ_spec h))
  have hown : s.vm.findClass RX3 = some m.cls := findClass_of_methodNamed B.named
  have hlocks := B.notSynchronized
  have hin : meth.name = "<init>" := (name_of_methodNamed B.named B.method).1
  subst hsz
  have hD := hD0.self (sz := s.heap.size)
  generalize hAe : va_A [(h0, .inr (3, [.null, .null, .null, .long 0]))] s.heap.size = A at hD ⊢
  have hA : ∀ q : Nat, s.heap.size ≤ q → A q := fun q h => by rw [← hAe]; exact Or.inr h
  have hS : va_S A s.heap s.heap [] := va_S.rf
  have hP : va_P D vwCl [(h0, .inr (3, [.null, .null, .null, .long 0]))] s.heap := hP
  have hl := lv_entry ([.ref h0, .ref r1, .ref r2, .ref r3]) (n := 4) (Nat.le_of_ble_eq_true rfl)
  rw [lg_entry_eq]
  generalize (lg_sl ([.ref h0, .ref r1, .ref r2, .ref r3]) ++ List.replicate (4 - (lg_sl ([.ref h0, .ref r1, .ref r2, .ref r3])).length) Slot.unset).toArray = ls at hl ⊢
  have hl : lv_has ls 4 [(0, .ref h0), (1, .ref r1), (2, .ref r2), (3, .ref r3)] := hl
  refine lv_aload_n hx hb dkX3_0 rfl (lv_at hl 0 rfl) ?_
  refine W.objInit hx hb hown (hw kw22) (hw kw1) (hw kw2) rfl (by rw [hml]; exact hl.1) rfl dkX3_1 (Nat.le_of_ble_eq_true rfl) (Nat.le_of_ble_eq_true rfl) ?_
  refine W.eq (g2 := F0 m 4 ls []) rfl ?_
  refine lv_aload_n hx hb dkX3_4 rfl (lv_at hl 0 rfl) ?_
  refine lv_lconst (v := 0) hx hb dkX3_5 (by decide) ?_
  refine va_put (D := D) (ci := 3) (v := .long 0) (ty := tyX3 3) (C := RX3) (T := TX3) (N := 4) hx hb htsL (uw_at (c := 3) (by omega)) tyX3 (fun k hk => (fkOK_at (a := 3) (by omega) hk).2.1) (nm_at (c := 3) (by omega)) hown hK hP hD hS 0 rfl rfl 3 (by decide) (hw kw23) (fun _ h9 => h9) rfl (fkOK_at (a := 3) (k := 3) (by omega) (by decide)).2.1 rfl rfl (Nat.le_of_ble_eq_true rfl) dkX3_6 (fun H locs hP hD hS => ?_)
  have hP : va_P D vwCl [(h0, .inr (3, [.null, .null, .null, .long 0]))] H := hP
  have hD : va_D A [(h0, .inr (3, [.null, .null, .null, .long 0]))] := hD
  refine lv_aload_n hx hb dkX3_9 rfl (lv_at hl 0 rfl) ?_
  refine lv_aload_n hx hb dkX3_10 rfl (lv_at hl 1 rfl) ?_
  refine va_putF (D := D) (ci := 3) (v := .ref r1) (ty := tyX3 0) (C := RX3) (T := TX3) (N := 4) hx hb htsL (uw_at (c := 3) (by omega)) tyX3 (fun k hk => (fkOK_at (a := 3) (by omega) hk).2.1) (nm_at (c := 3) (by omega)) hown hK hP hD hS 0 rfl rfl 0 (by decide) (hw kw24) (fun _ h9 => h9) rfl hin rfl (fkOK_at (a := 3) (k := 0) (by omega) (by decide)).2.1 rfl rfl (Nat.le_of_ble_eq_true rfl) dkX3_11 (fun H locs hP hD hS => ?_)
  have hP : va_P D vwCl [(h0, .inr (3, [.ref r1, .null, .null, .long 0]))] H := hP
  have hD : va_D A [(h0, .inr (3, [.ref r1, .null, .null, .long 0]))] := hD
  refine lv_aload_n hx hb dkX3_14 rfl (lv_at hl 0 rfl) ?_
  refine lv_aload_n hx hb dkX3_15 rfl (lv_at hl 2 rfl) ?_
  refine va_putF (D := D) (ci := 3) (v := .ref r2) (ty := tyX3 1) (C := RX3) (T := TX3) (N := 4) hx hb htsL (uw_at (c := 3) (by omega)) tyX3 (fun k hk => (fkOK_at (a := 3) (by omega) hk).2.1) (nm_at (c := 3) (by omega)) hown hK hP hD hS 0 rfl rfl 1 (by decide) (hw kw25) (fun _ h9 => h9) rfl hin rfl (fkOK_at (a := 3) (k := 1) (by omega) (by decide)).2.1 rfl rfl (Nat.le_of_ble_eq_true rfl) dkX3_16 (fun H locs hP hD hS => ?_)
  have hP : va_P D vwCl [(h0, .inr (3, [.ref r1, .ref r2, .null, .long 0]))] H := hP
  have hD : va_D A [(h0, .inr (3, [.ref r1, .ref r2, .null, .long 0]))] := hD
  refine lv_aload_n hx hb dkX3_19 rfl (lv_at hl 0 rfl) ?_
  refine lv_aload_n hx hb dkX3_20 rfl (lv_at hl 3 rfl) ?_
  refine va_putF (D := D) (ci := 3) (v := .ref r3) (ty := tyX3 2) (C := RX3) (T := TX3) (N := 4) hx hb htsL (uw_at (c := 3) (by omega)) tyX3 (fun k hk => (fkOK_at (a := 3) (by omega) hk).2.1) (nm_at (c := 3) (by omega)) hown hK hP hD hS 0 rfl rfl 2 (by decide) (hw kw26) (fun _ h9 => h9) rfl hin rfl (fkOK_at (a := 3) (k := 2) (by omega) (by decide)).2.1 rfl rfl (Nat.le_of_ble_eq_true rfl) dkX3_21 (fun H locs hP hD hS => ?_)
  have hP : va_P D vwCl [(h0, .inr (3, [.ref r1, .ref r2, .ref r3, .long 0]))] H := hP
  have hD : va_D A [(h0, .inr (3, [.ref r1, .ref r2, .ref r3, .long 0]))] := hD
  have hP9 := hP.sub (ws' := [(h0, .inr (3, [.ref r1, .ref r2, .ref r3, .long 0]))]) [0] rfl
  have hD9 := hD.sub (ws' := [(h0, .inr (3, [.ref r1, .ref r2, .ref r3, .long 0]))]) [0] (by decide) rfl
  refine W.widen (k := 0) (n := 0) (by omega) (by omega) ?_
  exact W.vret hx hb hr (fun t ht hW => ⟨⟨fun k => ([] : List Nat).getD k 0, rfl, trivial, by rw [ht]; exact hP9, va_K.moved hW.alike hK, hD9⟩, hS.F ht⟩) hS.2.2 dkX3_24
set_option maxHeartbeats 4000000 in
set_option maxRecDepth 100000 in
theorem k_X4_init (l : Launch) (D : va_G) (cI cZ : ClassId) (h0 sz : Nat) : Met l yX4_init (wsC yX4_init cX4_init 1) ({ frames := 1, cells := 1, slots := 11, locals := 12 }) (va_Pc [.ref h0] (fun U => U.heap.size = sz ∧ va_P D vwCl [(h0, .inr (4, [.null]))] U.heap ∧ va_K D vwCl [(cI, .int), (cZ, .boolean)] U ∧ va_D (fun _ => True) [(h0, .inr (4, [.null]))])) (va_Qv (fun _ : Nat → Nat => True) (fun u t => va_P D vwCl [(h0, .inr (4, [.ref (u 0)])), ((u 0), .inl (cI, 11, .inl (fun _ => 0)))] t.heap ∧ va_K D vwCl [(cI, .int), (cZ, .boolean)] t ∧ va_D (va_A [(h0, .inr (4, [.null]))] sz) [(h0, .inr (4, [.ref (u 0)])), ((u 0), .inl (cI, 11, .inl (fun _ => 0)))]) (va_A [(h0, .inr (4, [.null]))] sz)) 1 11 (va_A [(h0, .inr (4, [.null]))] sz) := by
  refine Met.ofW (cc := cX4_init) (maxL := 1) (ret := none) (by decide) rfl ?_
  intro p e s m args below meth c s₁ B hml hv
  obtain ⟨rfl, hsz, hP, hK, hD0⟩ := hv
  have hx := B.exec
  have hb := B.bytes
  have hr := B.returns
  have hts0 := atoms_spec (ws := wsC yX4_init cX4_init 1) B.pre
  have htsL : ∀ w ∈ LT, w.before _ s = true := fun w h => hts0 w (List.mem_cons_of_mem _ h)
  have hw := fun {q : Nat} {w : Cond} (h : lkQ q w = true) => htsL w (List.mem_filter.mpr (lkQ_spec h))
  have hown : s.vm.findClass RX4 = some m.cls := findClass_of_methodNamed B.named
  have hlocks := B.notSynchronized
  have hin : meth.name = "<init>" := (name_of_methodNamed B.named B.method).1
  subst hsz
  have hD := hD0.self (sz := s.heap.size)
  generalize hAe : va_A [(h0, .inr (4, [.null]))] s.heap.size = A at hD ⊢
  have hA : ∀ q : Nat, s.heap.size ≤ q → A q := fun q h => by rw [← hAe]; exact Or.inr h
  have hS : va_S A s.heap s.heap [] := va_S.rf
  have hP : va_P D vwCl [(h0, .inr (4, [.null]))] s.heap := hP
  have hl := lv_entry ([.ref h0]) (n := 1) (Nat.le_of_ble_eq_true rfl)
  rw [lg_entry_eq]
  generalize (lg_sl ([.ref h0]) ++ List.replicate (1 - (lg_sl ([.ref h0])).length) Slot.unset).toArray = ls at hl ⊢
  have hl : lv_has ls 1 [(0, .ref h0)] := hl
  refine lv_aload_n hx hb dkX4_0 rfl (lv_at hl 0 rfl) ?_
  refine W.objInit hx hb hown (hw kw27) (hw kw1) (hw kw2) rfl (by rw [hml]; exact hl.1) rfl dkX4_1 (Nat.le_of_ble_eq_true rfl) (Nat.le_of_ble_eq_true rfl) ?_
  refine W.eq (g2 := F0 m 4 ls []) rfl ?_
  refine lv_aload_n hx hb dkX4_4 rfl (lv_at hl 0 rfl) ?_
  refine lv_bipush (v := 11) hx hb dkX4_5 (by decide) ?_
  refine va_newa (a0 := (11, .inl (fun _ => 0))) (N' := 11) (ty := .int) hx hb (hw kw7) rfl hK hP hD hS hA (fun _ => rfl) (by decide) (by decide) (by decide) (Nat.le_of_ble_eq_true rfl) (Nat.le_of_ble_eq_true rfl) dkX4_7 (fun q7 cA H hKa hP hD hS => ?_)
  obtain rfl : cI = cA := ka_same hKa (i := 0) (j := 2) rfl rfl
  have hP : va_P D vwCl [(h0, .inr (4, [.null])), (q7, .inl (cI, 11, .inl (fun _ => 0)))] H := hP
  have hD : va_D A [(h0, .inr (4, [.null])), (q7, .inl (cI, 11, .inl (fun _ => 0)))] := hD
  refine W.widen (k := 1) (n := 11) (by omega) (by omega) ?_
  refine va_putF (D := D) (ci := 4) (v := .ref q7) (ty := tyX4 0) (C := RX4) (T := TX4) (N := 1) hx hb htsL (uw_at (c := 4) (by omega)) tyX4 (fun k hk => (fkOK_at (a := 4) (by omega) hk).2.1) (nm_at (c := 4) (by omega)) hown hK hP hD hS 0 rfl rfl 0 (by decide) (hw kw28) (fun _ h9 => h9) rfl hin rfl (fkOK_at (a := 4) (k := 0) (by omega) (by decide)).2.1 rfl rfl (Nat.le_of_ble_eq_true rfl) dkX4_9 (fun H locs hP hD hS => ?_)
  have hP : va_P D vwCl [(h0, .inr (4, [.ref q7])), (q7, .inl (cI, 11, .inl (fun _ => 0)))] H := hP
  have hD : va_D A [(h0, .inr (4, [.ref q7])), (q7, .inl (cI, 11, .inl (fun _ => 0)))] := hD
  have hP9 := hP.sub (ws' := [(h0, .inr (4, [.ref q7])), (q7, .inl (cI, 11, .inl (fun _ => 0)))]) [0, 1] rfl
  have hD9 := hD.sub (ws' := [(h0, .inr (4, [.ref q7])), (q7, .inl (cI, 11, .inl (fun _ => 0)))]) [0, 1] (by decide) rfl
  refine W.widen (k := 1) (n := 11) (by omega) (by omega) ?_
  exact W.vret hx hb hr (fun t ht hW => ⟨⟨fun k => ([q7] : List Nat).getD k 0, rfl, trivial, by rw [ht]; exact hP9, va_K.moved hW.alike hK, hD9⟩, hS.F ht⟩) hS.2.2 dkX4_12
set_option maxHeartbeats 4000000 in
set_option maxRecDepth 100000 in
theorem k_X5_init (l : Launch) (D : va_G) (cI cZ : ClassId) (h0 sz : Nat) (r1 r2 r3 : Nat) : Met l yX5_init (wsC yX5_init cX5_init 4) ({ frames := 1, cells := 2, slots := 12, locals := 12 }) (va_Pc [.ref h0, .ref r1, .ref r2, .ref r3] (fun U => U.heap.size = sz ∧ va_P D vwCl [(h0, .inr (5, [.null, .null, .null, .null, .null]))] U.heap ∧ va_K D vwCl [(cI, .int), (cZ, .boolean)] U ∧ va_D (fun _ => True) [(h0, .inr (5, [.null, .null, .null, .null, .null]))])) (va_Qv (fun _ : Nat → Nat => True) (fun u t => va_P D vwCl [(h0, .inr (5, [.ref r1, .ref r2, .ref r3, .ref (u 0), .ref (u 1)])), ((u 0), .inl (cI, 6, .inl (fun _ => 0))), ((u 1), .inl (cI, 6, .inl (fun _ => 0)))] t.heap ∧ va_K D vwCl [(cI, .int), (cZ, .boolean)] t ∧ va_D (va_A [(h0, .inr (5, [.null, .null, .null, .null, .null]))] sz) [(h0, .inr (5, [.ref r1, .ref r2, .ref r3, .ref (u 0), .ref (u 1)])), ((u 0), .inl (cI, 6, .inl (fun _ => 0))), ((u 1), .inl (cI, 6, .inl (fun _ => 0)))]) (va_A [(h0, .inr (5, [.null, .null, .null, .null, .null]))] sz)) 2 12 (va_A [(h0, .inr (5, [.null, .null, .null, .null, .null]))] sz) := by
  refine Met.ofW (cc := cX5_init) (maxL := 4) (ret := none) (by decide) rfl ?_
  intro p e s m args below meth c s₁ B hml hv
  obtain ⟨rfl, hsz, hP, hK, hD0⟩ := hv
  have hx := B.exec
  have hb := B.bytes
  have hr := B.returns
  have hts0 := atoms_spec (ws := wsC yX5_init cX5_init 4) B.pre
  have htsL : ∀ w ∈ LT, w.before _ s = true := fun w h => hts0 w (List.mem_cons_of_mem _ h)
  have hw := fun {q : Nat} {w : Cond} (h : lkQ q w = true) => htsL w (List.mem_filter.mpr (lkQ_spec h))
  have hown : s.vm.findClass RX5 = some m.cls := findClass_of_methodNamed B.named
  have hlocks := B.notSynchronized
  have hin : meth.name = "<init>" := (name_of_methodNamed B.named B.method).1
  subst hsz
  have hD := hD0.self (sz := s.heap.size)
  generalize hAe : va_A [(h0, .inr (5, [.null, .null, .null, .null, .null]))] s.heap.size = A at hD ⊢
  have hA : ∀ q : Nat, s.heap.size ≤ q → A q := fun q h => by rw [← hAe]; exact Or.inr h
  have hS : va_S A s.heap s.heap [] := va_S.rf
  have hP : va_P D vwCl [(h0, .inr (5, [.null, .null, .null, .null, .null]))] s.heap := hP
  have hl := lv_entry ([.ref h0, .ref r1, .ref r2, .ref r3]) (n := 4) (Nat.le_of_ble_eq_true rfl)
  rw [lg_entry_eq]
  generalize (lg_sl ([.ref h0, .ref r1, .ref r2, .ref r3]) ++ List.replicate (4 - (lg_sl ([.ref h0, .ref r1, .ref r2, .ref r3])).length) Slot.unset).toArray = ls at hl ⊢
  have hl : lv_has ls 4 [(0, .ref h0), (1, .ref r1), (2, .ref r2), (3, .ref r3)] := hl
  refine lv_aload_n hx hb dkX5_0 rfl (lv_at hl 0 rfl) ?_
  refine W.objInit hx hb hown (hw kw29) (hw kw1) (hw kw2) rfl (by rw [hml]; exact hl.1) rfl dkX5_1 (Nat.le_of_ble_eq_true rfl) (Nat.le_of_ble_eq_true rfl) ?_
  refine W.eq (g2 := F0 m 4 ls []) rfl ?_
  refine lv_aload_n hx hb dkX5_4 rfl (lv_at hl 0 rfl) ?_
  refine lv_bipush (v := 6) hx hb dkX5_5 (by decide) ?_
  refine va_newa (a0 := (6, .inl (fun _ => 0))) (N' := 6) (ty := .int) hx hb (hw kw7) rfl hK hP hD hS hA (fun _ => rfl) (by decide) (by decide) (by decide) (Nat.le_of_ble_eq_true rfl) (Nat.le_of_ble_eq_true rfl) dkX5_7 (fun q7 cA H hKa hP hD hS => ?_)
  obtain rfl : cI = cA := ka_same hKa (i := 0) (j := 2) rfl rfl
  have hP : va_P D vwCl [(h0, .inr (5, [.null, .null, .null, .null, .null])), (q7, .inl (cI, 6, .inl (fun _ => 0)))] H := hP
  have hD : va_D A [(h0, .inr (5, [.null, .null, .null, .null, .null])), (q7, .inl (cI, 6, .inl (fun _ => 0)))] := hD
  refine W.widen (k := 1) (n := 6) (by omega) (by omega) ?_
  refine va_putF (D := D) (ci := 5) (v := .ref q7) (ty := tyX5 3) (C := RX5) (T := TX5) (N := 5) hx hb htsL (uw_at (c := 5) (by omega)) tyX5 (fun k hk => (fkOK_at (a := 5) (by omega) hk).2.1) (nm_at (c := 5) (by omega)) hown hK hP hD hS 0 rfl rfl 3 (by decide) (hw kw30) (fun _ h9 => h9) rfl hin rfl (fkOK_at (a := 5) (k := 3) (by omega) (by decide)).2.1 rfl rfl (Nat.le_of_ble_eq_true rfl) dkX5_9 (fun H locs hP hD hS => ?_)
  have hP : va_P D vwCl [(h0, .inr (5, [.null, .null, .null, .ref q7, .null])), (q7, .inl (cI, 6, .inl (fun _ => 0)))] H := hP
  have hD : va_D A [(h0, .inr (5, [.null, .null, .null, .ref q7, .null])), (q7, .inl (cI, 6, .inl (fun _ => 0)))] := hD
  refine lv_aload_n hx hb dkX5_12 rfl (lv_at hl 0 rfl) ?_
  refine lv_bipush (v := 6) hx hb dkX5_13 (by decide) ?_
  refine va_newa (a0 := (6, .inl (fun _ => 0))) (N' := 6) (ty := .int) hx hb (hw kw7) rfl hK hP hD hS hA (fun _ => rfl) (by decide) (by decide) (by decide) (Nat.le_of_ble_eq_true rfl) (Nat.le_of_ble_eq_true rfl) dkX5_15 (fun q15 cA H hKa hP hD hS => ?_)
  obtain rfl : cI = cA := ka_same hKa (i := 0) (j := 2) rfl rfl
  have hP : va_P D vwCl [(h0, .inr (5, [.null, .null, .null, .ref q7, .null])), (q7, .inl (cI, 6, .inl (fun _ => 0))), (q15, .inl (cI, 6, .inl (fun _ => 0)))] H := hP
  have hD : va_D A [(h0, .inr (5, [.null, .null, .null, .ref q7, .null])), (q7, .inl (cI, 6, .inl (fun _ => 0))), (q15, .inl (cI, 6, .inl (fun _ => 0)))] := hD
  refine W.widen (k := 2) (n := 12) (by omega) (by omega) ?_
  refine va_putF (D := D) (ci := 5) (v := .ref q15) (ty := tyX5 4) (C := RX5) (T := TX5) (N := 5) hx hb htsL (uw_at (c := 5) (by omega)) tyX5 (fun k hk => (fkOK_at (a := 5) (by omega) hk).2.1) (nm_at (c := 5) (by omega)) hown hK hP hD hS 0 rfl rfl 4 (by decide) (hw kw31) (fun _ h9 => h9) rfl hin rfl (fkOK_at (a := 5) (k := 4) (by omega) (by decide)).2.1 rfl rfl (Nat.le_of_ble_eq_true rfl) dkX5_17 (fun H locs hP hD hS => ?_)
  have hP : va_P D vwCl [(h0, .inr (5, [.null, .null, .null, .ref q7, .ref q15])), (q7, .inl (cI, 6, .inl (fun _ => 0))), (q15, .inl (cI, 6, .inl (fun _ => 0)))] H := hP
  have hD : va_D A [(h0, .inr (5, [.null, .null, .null, .ref q7, .ref q15])), (q7, .inl (cI, 6, .inl (fun _ => 0))), (q15, .inl (cI, 6, .inl (fun _ => 0)))] := hD
  refine lv_aload_n hx hb dkX5_20 rfl (lv_at hl 0 rfl) ?_
  refine lv_aload_n hx hb dkX5_21 rfl (lv_at hl 1 rfl) ?_
  refine va_putF (D := D) (ci := 5) (v := .ref r1) (ty := tyX5 0) (C := RX5) (T := TX5) (N := 5) hx hb htsL (uw_at (c := 5) (by omega)) tyX5 (fun k hk => (fkOK_at (a := 5) (by omega) hk).2.1) (nm_at (c := 5) (by omega)) hown hK hP hD hS 0 rfl rfl 0 (by decide) (hw kw32) (fun _ h9 => h9) rfl hin rfl (fkOK_at (a := 5) (k := 0) (by omega) (by decide)).2.1 rfl rfl (Nat.le_of_ble_eq_true rfl) dkX5_22 (fun H locs hP hD hS => ?_)
  have hP : va_P D vwCl [(h0, .inr (5, [.ref r1, .null, .null, .ref q7, .ref q15])), (q7, .inl (cI, 6, .inl (fun _ => 0))), (q15, .inl (cI, 6, .inl (fun _ => 0)))] H := hP
  have hD : va_D A [(h0, .inr (5, [.ref r1, .null, .null, .ref q7, .ref q15])), (q7, .inl (cI, 6, .inl (fun _ => 0))), (q15, .inl (cI, 6, .inl (fun _ => 0)))] := hD
  refine lv_aload_n hx hb dkX5_25 rfl (lv_at hl 0 rfl) ?_
  refine lv_aload_n hx hb dkX5_26 rfl (lv_at hl 2 rfl) ?_
  refine va_putF (D := D) (ci := 5) (v := .ref r2) (ty := tyX5 1) (C := RX5) (T := TX5) (N := 5) hx hb htsL (uw_at (c := 5) (by omega)) tyX5 (fun k hk => (fkOK_at (a := 5) (by omega) hk).2.1) (nm_at (c := 5) (by omega)) hown hK hP hD hS 0 rfl rfl 1 (by decide) (hw kw33) (fun _ h9 => h9) rfl hin rfl (fkOK_at (a := 5) (k := 1) (by omega) (by decide)).2.1 rfl rfl (Nat.le_of_ble_eq_true rfl) dkX5_27 (fun H locs hP hD hS => ?_)
  have hP : va_P D vwCl [(h0, .inr (5, [.ref r1, .ref r2, .null, .ref q7, .ref q15])), (q7, .inl (cI, 6, .inl (fun _ => 0))), (q15, .inl (cI, 6, .inl (fun _ => 0)))] H := hP
  have hD : va_D A [(h0, .inr (5, [.ref r1, .ref r2, .null, .ref q7, .ref q15])), (q7, .inl (cI, 6, .inl (fun _ => 0))), (q15, .inl (cI, 6, .inl (fun _ => 0)))] := hD
  refine lv_aload_n hx hb dkX5_30 rfl (lv_at hl 0 rfl) ?_
  refine lv_aload_n hx hb dkX5_31 rfl (lv_at hl 3 rfl) ?_
  refine va_putF (D := D) (ci := 5) (v := .ref r3) (ty := tyX5 2) (C := RX5) (T := TX5) (N := 5) hx hb htsL (uw_at (c := 5) (by omega)) tyX5 (fun k hk => (fkOK_at (a := 5) (by omega) hk).2.1) (nm_at (c := 5) (by omega)) hown hK hP hD hS 0 rfl rfl 2 (by decide) (hw kw34) (fun _ h9 => h9) rfl hin rfl (fkOK_at (a := 5) (k := 2) (by omega) (by decide)).2.1 rfl rfl (Nat.le_of_ble_eq_true rfl) dkX5_32 (fun H locs hP hD hS => ?_)
  have hP : va_P D vwCl [(h0, .inr (5, [.ref r1, .ref r2, .ref r3, .ref q7, .ref q15])), (q7, .inl (cI, 6, .inl (fun _ => 0))), (q15, .inl (cI, 6, .inl (fun _ => 0)))] H := hP
  have hD : va_D A [(h0, .inr (5, [.ref r1, .ref r2, .ref r3, .ref q7, .ref q15])), (q7, .inl (cI, 6, .inl (fun _ => 0))), (q15, .inl (cI, 6, .inl (fun _ => 0)))] := hD
  have hP9 := hP.sub (ws' := [(h0, .inr (5, [.ref r1, .ref r2, .ref r3, .ref q7, .ref q15])), (q7, .inl (cI, 6, .inl (fun _ => 0))), (q15, .inl (cI, 6, .inl (fun _ => 0)))]) [0, 1, 2] rfl
  have hD9 := hD.sub (ws' := [(h0, .inr (5, [.ref r1, .ref r2, .ref r3, .ref q7, .ref q15])), (q7, .inl (cI, 6, .inl (fun _ => 0))), (q15, .inl (cI, 6, .inl (fun _ => 0)))]) [0, 1, 2] (by decide) rfl
  refine W.widen (k := 2) (n := 12) (by omega) (by omega) ?_
  exact W.vret hx hb hr (fun t ht hW => ⟨⟨fun k => ([q7, q15] : List Nat).getD k 0, rfl, trivial, by rw [ht]; exact hP9, va_K.moved hW.alike hK, hD9⟩, hS.F ht⟩) hS.2.2 dkX5_35
set_option maxHeartbeats 4000000 in
set_option maxRecDepth 100000 in
theorem k_X6_init (l : Launch) (D : va_G) (cI cZ : ClassId) (h0 sz : Nat) : Met l yX6_init (wsC yX6_init cX6_init 1) ({ frames := 1, cells := 1, slots := 110, locals := 12 }) (va_Pc [.ref h0] (fun U => U.heap.size = sz ∧ va_P D vwCl [(h0, .inr (6, [.int 0, .int 0, .null]))] U.heap ∧ va_K D vwCl [(cI, .int), (cZ, .boolean)] U ∧ va_D (fun _ => True) [(h0, .inr (6, [.int 0, .int 0, .null]))])) (va_Qv (fun _ : Nat → Nat => True) (fun u t => va_P D vwCl [(h0, .inr (6, [.int 0, .int 0, .ref (u 0)])), ((u 0), .inl (cI, 110, .inl (fun _ => 0)))] t.heap ∧ va_K D vwCl [(cI, .int), (cZ, .boolean)] t ∧ va_D (va_A [(h0, .inr (6, [.int 0, .int 0, .null]))] sz) [(h0, .inr (6, [.int 0, .int 0, .ref (u 0)])), ((u 0), .inl (cI, 110, .inl (fun _ => 0)))]) (va_A [(h0, .inr (6, [.int 0, .int 0, .null]))] sz)) 1 110 (va_A [(h0, .inr (6, [.int 0, .int 0, .null]))] sz) := by
  refine Met.ofW (cc := cX6_init) (maxL := 1) (ret := none) (by decide) rfl ?_
  intro p e s m args below meth c s₁ B hml hv
  obtain ⟨rfl, hsz, hP, hK, hD0⟩ := hv
  have hx := B.exec
  have hb := B.bytes
  have hr := B.returns
  have hts0 := atoms_spec (ws := wsC yX6_init cX6_init 1) B.pre
  have htsL : ∀ w ∈ LT, w.before _ s = true := fun w h => hts0 w (List.mem_cons_of_mem _ h)
  have hw := fun {q : Nat} {w : Cond} (h : lkQ q w = true) => htsL w (List.mem_filter.mpr (lkQ_spec h))
  have hown : s.vm.findClass RX6 = some m.cls := findClass_of_methodNamed B.named
  have hlocks := B.notSynchronized
  have hin : meth.name = "<init>" := (name_of_methodNamed B.named B.method).1
  subst hsz
  have hD := hD0.self (sz := s.heap.size)
  generalize hAe : va_A [(h0, .inr (6, [.int 0, .int 0, .null]))] s.heap.size = A at hD ⊢
  have hA : ∀ q : Nat, s.heap.size ≤ q → A q := fun q h => by rw [← hAe]; exact Or.inr h
  have hS : va_S A s.heap s.heap [] := va_S.rf
  have hP : va_P D vwCl [(h0, .inr (6, [.int 0, .int 0, .null]))] s.heap := hP
  have hl := lv_entry ([.ref h0]) (n := 1) (Nat.le_of_ble_eq_true rfl)
  rw [lg_entry_eq]
  generalize (lg_sl ([.ref h0]) ++ List.replicate (1 - (lg_sl ([.ref h0])).length) Slot.unset).toArray = ls at hl ⊢
  have hl : lv_has ls 1 [(0, .ref h0)] := hl
  refine lv_aload_n hx hb dkX6_0 rfl (lv_at hl 0 rfl) ?_
  refine W.objInit hx hb hown (hw kw35) (hw kw1) (hw kw2) rfl (by rw [hml]; exact hl.1) rfl dkX6_1 (Nat.le_of_ble_eq_true rfl) (Nat.le_of_ble_eq_true rfl) ?_
  refine W.eq (g2 := F0 m 4 ls []) rfl ?_
  refine lv_aload_n hx hb dkX6_4 rfl (lv_at hl 0 rfl) ?_
  refine lv_iconst (v := 0) hx hb dkX6_5 (by decide) ?_
  refine va_put (D := D) (ci := 6) (v := .int 0) (ty := tyX6 0) (C := RX6) (T := TX6) (N := 3) hx hb htsL (uw_at (c := 6) (by omega)) tyX6 (fun k hk => (fkOK_at (a := 6) (by omega) hk).2.1) (nm_at (c := 6) (by omega)) hown hK hP hD hS 0 rfl rfl 0 (by decide) (hw kw36) (fun _ h9 => h9) rfl (fkOK_at (a := 6) (k := 0) (by omega) (by decide)).2.1 rfl rfl (Nat.le_of_ble_eq_true rfl) dkX6_6 (fun H locs hP hD hS => ?_)
  have hP : va_P D vwCl [(h0, .inr (6, [.int 0, .int 0, .null]))] H := hP
  have hD : va_D A [(h0, .inr (6, [.int 0, .int 0, .null]))] := hD
  refine lv_aload_n hx hb dkX6_9 rfl (lv_at hl 0 rfl) ?_
  refine lv_iconst (v := 0) hx hb dkX6_10 (by decide) ?_
  refine va_put (D := D) (ci := 6) (v := .int 0) (ty := tyX6 1) (C := RX6) (T := TX6) (N := 3) hx hb htsL (uw_at (c := 6) (by omega)) tyX6 (fun k hk => (fkOK_at (a := 6) (by omega) hk).2.1) (nm_at (c := 6) (by omega)) hown hK hP hD hS 0 rfl rfl 1 (by decide) (hw kw37) (fun _ h9 => h9) rfl (fkOK_at (a := 6) (k := 1) (by omega) (by decide)).2.1 rfl rfl (Nat.le_of_ble_eq_true rfl) dkX6_11 (fun H locs hP hD hS => ?_)
  have hP : va_P D vwCl [(h0, .inr (6, [.int 0, .int 0, .null]))] H := hP
  have hD : va_D A [(h0, .inr (6, [.int 0, .int 0, .null]))] := hD
  refine lv_aload_n hx hb dkX6_14 rfl (lv_at hl 0 rfl) ?_
  refine lv_bipush (v := 110) hx hb dkX6_15 (by decide) ?_
  refine va_newa (a0 := (110, .inl (fun _ => 0))) (N' := 110) (ty := .int) hx hb (hw kw7) rfl hK hP hD hS hA (fun _ => rfl) (by decide) (by decide) (by decide) (Nat.le_of_ble_eq_true rfl) (Nat.le_of_ble_eq_true rfl) dkX6_17 (fun q17 cA H hKa hP hD hS => ?_)
  obtain rfl : cI = cA := ka_same hKa (i := 0) (j := 2) rfl rfl
  have hP : va_P D vwCl [(h0, .inr (6, [.int 0, .int 0, .null])), (q17, .inl (cI, 110, .inl (fun _ => 0)))] H := hP
  have hD : va_D A [(h0, .inr (6, [.int 0, .int 0, .null])), (q17, .inl (cI, 110, .inl (fun _ => 0)))] := hD
  refine W.widen (k := 1) (n := 110) (by omega) (by omega) ?_
  refine va_putF (D := D) (ci := 6) (v := .ref q17) (ty := tyX6 2) (C := RX6) (T := TX6) (N := 3) hx hb htsL (uw_at (c := 6) (by omega)) tyX6 (fun k hk => (fkOK_at (a := 6) (by omega) hk).2.1) (nm_at (c := 6) (by omega)) hown hK hP hD hS 0 rfl rfl 2 (by decide) (hw kw38) (fun _ h9 => h9) rfl hin rfl (fkOK_at (a := 6) (k := 2) (by omega) (by decide)).2.1 rfl rfl (Nat.le_of_ble_eq_true rfl) dkX6_19 (fun H locs hP hD hS => ?_)
  have hP : va_P D vwCl [(h0, .inr (6, [.int 0, .int 0, .ref q17])), (q17, .inl (cI, 110, .inl (fun _ => 0)))] H := hP
  have hD : va_D A [(h0, .inr (6, [.int 0, .int 0, .ref q17])), (q17, .inl (cI, 110, .inl (fun _ => 0)))] := hD
  have hP9 := hP.sub (ws' := [(h0, .inr (6, [.int 0, .int 0, .ref q17])), (q17, .inl (cI, 110, .inl (fun _ => 0)))]) [0, 1] rfl
  have hD9 := hD.sub (ws' := [(h0, .inr (6, [.int 0, .int 0, .ref q17])), (q17, .inl (cI, 110, .inl (fun _ => 0)))]) [0, 1] (by decide) rfl
  refine W.widen (k := 1) (n := 110) (by omega) (by omega) ?_
  exact W.vret hx hb hr (fun t ht hW => ⟨⟨fun k => ([q17] : List Nat).getD k 0, rfl, trivial, by rw [ht]; exact hP9, va_K.moved hW.alike hK, hD9⟩, hS.F ht⟩) hS.2.2 dkX6_22
set_option maxHeartbeats 4000000 in
set_option maxRecDepth 100000 in
theorem k_X7_init (l : Launch) (D : va_G) (cI cZ : ClassId) (h0 sz : Nat) (r1 r2 r3 : Nat) : Met l yX7_init (wsC yX7_init cX7_init 4) ({ frames := 1, cells := 3, slots := 15, locals := 12 }) (va_Pc [.ref h0, .ref r1, .ref r2, .ref r3] (fun U => U.heap.size = sz ∧ va_P D vwCl [(h0, .inr (7, [.null, .null, .null, .int 0, .int 0, .null, .null, .null]))] U.heap ∧ va_K D vwCl [(cI, .int), (cZ, .boolean)] U ∧ va_D (fun _ => True) [(h0, .inr (7, [.null, .null, .null, .int 0, .int 0, .null, .null, .null]))])) (va_Qv (fun _ : Nat → Nat => True) (fun u t => va_P D vwCl [(h0, .inr (7, [.ref r1, .ref r2, .ref r3, .int 0, .int 0, .ref (u 0), .ref (u 1), .ref (u 2)])), ((u 0), .inl (cI, 5, .inl (fun _ => 0))), ((u 1), .inl (cI, 5, .inl (fun _ => 0))), ((u 2), .inl (cI, 5, .inl (fun _ => 0)))] t.heap ∧ va_K D vwCl [(cI, .int), (cZ, .boolean)] t ∧ va_D (va_A [(h0, .inr (7, [.null, .null, .null, .int 0, .int 0, .null, .null, .null]))] sz) [(h0, .inr (7, [.ref r1, .ref r2, .ref r3, .int 0, .int 0, .ref (u 0), .ref (u 1), .ref (u 2)])), ((u 0), .inl (cI, 5, .inl (fun _ => 0))), ((u 1), .inl (cI, 5, .inl (fun _ => 0))), ((u 2), .inl (cI, 5, .inl (fun _ => 0)))]) (va_A [(h0, .inr (7, [.null, .null, .null, .int 0, .int 0, .null, .null, .null]))] sz)) 3 15 (va_A [(h0, .inr (7, [.null, .null, .null, .int 0, .int 0, .null, .null, .null]))] sz) := by
  refine Met.ofW (cc := cX7_init) (maxL := 4) (ret := none) (by decide) rfl ?_
  intro p e s m args below meth c s₁ B hml hv
  obtain ⟨rfl, hsz, hP, hK, hD0⟩ := hv
  have hx := B.exec
  have hb := B.bytes
  have hr := B.returns
  have hts0 := atoms_spec (ws := wsC yX7_init cX7_init 4) B.pre
  have htsL : ∀ w ∈ LT, w.before _ s = true := fun w h => hts0 w (List.mem_cons_of_mem _ h)
  have hw := fun {q : Nat} {w : Cond} (h : lkQ q w = true) => htsL w (List.mem_filter.mpr (lkQ_spec h))
  have hown : s.vm.findClass RX7 = some m.cls := findClass_of_methodNamed B.named
  have hlocks := B.notSynchronized
  have hin : meth.name = "<init>" := (name_of_methodNamed B.named B.method).1
  subst hsz
  have hD := hD0.self (sz := s.heap.size)
  generalize hAe : va_A [(h0, .inr (7, [.null, .null, .null, .int 0, .int 0, .null, .null, .null]))] s.heap.size = A at hD ⊢
  have hA : ∀ q : Nat, s.heap.size ≤ q → A q := fun q h => by rw [← hAe]; exact Or.inr h
  have hS : va_S A s.heap s.heap [] := va_S.rf
  have hP : va_P D vwCl [(h0, .inr (7, [.null, .null, .null, .int 0, .int 0, .null, .null, .null]))] s.heap := hP
  have hl := lv_entry ([.ref h0, .ref r1, .ref r2, .ref r3]) (n := 4) (Nat.le_of_ble_eq_true rfl)
  rw [lg_entry_eq]
  generalize (lg_sl ([.ref h0, .ref r1, .ref r2, .ref r3]) ++ List.replicate (4 - (lg_sl ([.ref h0, .ref r1, .ref r2, .ref r3])).length) Slot.unset).toArray = ls at hl ⊢
  have hl : lv_has ls 4 [(0, .ref h0), (1, .ref r1), (2, .ref r2), (3, .ref r3)] := hl
  refine lv_aload_n hx hb dkX7_0 rfl (lv_at hl 0 rfl) ?_
  refine W.objInit hx hb hown (hw kw39) (hw kw1) (hw kw2) rfl (by rw [hml]; exact hl.1) rfl dkX7_1 (Nat.le_of_ble_eq_true rfl) (Nat.le_of_ble_eq_true rfl) ?_
  refine W.eq (g2 := F0 m 4 ls []) rfl ?_
  refine lv_aload_n hx hb dkX7_4 rfl (lv_at hl 0 rfl) ?_
  refine lv_iconst (v := 0) hx hb dkX7_5 (by decide) ?_
  refine va_put (D := D) (ci := 7) (v := .int 0) (ty := tyX7 3) (C := RX7) (T := TX7) (N := 8) hx hb htsL (uw_at (c := 7) (by omega)) tyX7 (fun k hk => (fkOK_at (a := 7) (by omega) hk).2.1) (nm_at (c := 7) (by omega)) hown hK hP hD hS 0 rfl rfl 3 (by decide) (hw kw40) (fun _ h9 => h9) rfl (fkOK_at (a := 7) (k := 3) (by omega) (by decide)).2.1 rfl rfl (Nat.le_of_ble_eq_true rfl) dkX7_6 (fun H locs hP hD hS => ?_)
  have hP : va_P D vwCl [(h0, .inr (7, [.null, .null, .null, .int 0, .int 0, .null, .null, .null]))] H := hP
  have hD : va_D A [(h0, .inr (7, [.null, .null, .null, .int 0, .int 0, .null, .null, .null]))] := hD
  refine lv_aload_n hx hb dkX7_9 rfl (lv_at hl 0 rfl) ?_
  refine lv_iconst (v := 0) hx hb dkX7_10 (by decide) ?_
  refine va_put (D := D) (ci := 7) (v := .int 0) (ty := tyX7 4) (C := RX7) (T := TX7) (N := 8) hx hb htsL (uw_at (c := 7) (by omega)) tyX7 (fun k hk => (fkOK_at (a := 7) (by omega) hk).2.1) (nm_at (c := 7) (by omega)) hown hK hP hD hS 0 rfl rfl 4 (by decide) (hw kw41) (fun _ h9 => h9) rfl (fkOK_at (a := 7) (k := 4) (by omega) (by decide)).2.1 rfl rfl (Nat.le_of_ble_eq_true rfl) dkX7_11 (fun H locs hP hD hS => ?_)
  have hP : va_P D vwCl [(h0, .inr (7, [.null, .null, .null, .int 0, .int 0, .null, .null, .null]))] H := hP
  have hD : va_D A [(h0, .inr (7, [.null, .null, .null, .int 0, .int 0, .null, .null, .null]))] := hD
  refine lv_aload_n hx hb dkX7_14 rfl (lv_at hl 0 rfl) ?_
  refine lv_iconst (v := 5) hx hb dkX7_15 (by decide) ?_
  refine va_newa (a0 := (5, .inl (fun _ => 0))) (N' := 5) (ty := .int) hx hb (hw kw7) rfl hK hP hD hS hA (fun _ => rfl) (by decide) (by decide) (by decide) (Nat.le_of_ble_eq_true rfl) (Nat.le_of_ble_eq_true rfl) dkX7_16 (fun q16 cA H hKa hP hD hS => ?_)
  obtain rfl : cI = cA := ka_same hKa (i := 0) (j := 2) rfl rfl
  have hP : va_P D vwCl [(h0, .inr (7, [.null, .null, .null, .int 0, .int 0, .null, .null, .null])), (q16, .inl (cI, 5, .inl (fun _ => 0)))] H := hP
  have hD : va_D A [(h0, .inr (7, [.null, .null, .null, .int 0, .int 0, .null, .null, .null])), (q16, .inl (cI, 5, .inl (fun _ => 0)))] := hD
  refine W.widen (k := 1) (n := 5) (by omega) (by omega) ?_
  refine va_putF (D := D) (ci := 7) (v := .ref q16) (ty := tyX7 5) (C := RX7) (T := TX7) (N := 8) hx hb htsL (uw_at (c := 7) (by omega)) tyX7 (fun k hk => (fkOK_at (a := 7) (by omega) hk).2.1) (nm_at (c := 7) (by omega)) hown hK hP hD hS 0 rfl rfl 5 (by decide) (hw kw42) (fun _ h9 => h9) rfl hin rfl (fkOK_at (a := 7) (k := 5) (by omega) (by decide)).2.1 rfl rfl (Nat.le_of_ble_eq_true rfl) dkX7_18 (fun H locs hP hD hS => ?_)
  have hP : va_P D vwCl [(h0, .inr (7, [.null, .null, .null, .int 0, .int 0, .ref q16, .null, .null])), (q16, .inl (cI, 5, .inl (fun _ => 0)))] H := hP
  have hD : va_D A [(h0, .inr (7, [.null, .null, .null, .int 0, .int 0, .ref q16, .null, .null])), (q16, .inl (cI, 5, .inl (fun _ => 0)))] := hD
  refine lv_aload_n hx hb dkX7_21 rfl (lv_at hl 0 rfl) ?_
  refine lv_iconst (v := 5) hx hb dkX7_22 (by decide) ?_
  refine va_newa (a0 := (5, .inl (fun _ => 0))) (N' := 5) (ty := .int) hx hb (hw kw7) rfl hK hP hD hS hA (fun _ => rfl) (by decide) (by decide) (by decide) (Nat.le_of_ble_eq_true rfl) (Nat.le_of_ble_eq_true rfl) dkX7_23 (fun q23 cA H hKa hP hD hS => ?_)
  obtain rfl : cI = cA := ka_same hKa (i := 0) (j := 2) rfl rfl
  have hP : va_P D vwCl [(h0, .inr (7, [.null, .null, .null, .int 0, .int 0, .ref q16, .null, .null])), (q16, .inl (cI, 5, .inl (fun _ => 0))), (q23, .inl (cI, 5, .inl (fun _ => 0)))] H := hP
  have hD : va_D A [(h0, .inr (7, [.null, .null, .null, .int 0, .int 0, .ref q16, .null, .null])), (q16, .inl (cI, 5, .inl (fun _ => 0))), (q23, .inl (cI, 5, .inl (fun _ => 0)))] := hD
  refine W.widen (k := 2) (n := 10) (by omega) (by omega) ?_
  refine va_putF (D := D) (ci := 7) (v := .ref q23) (ty := tyX7 6) (C := RX7) (T := TX7) (N := 8) hx hb htsL (uw_at (c := 7) (by omega)) tyX7 (fun k hk => (fkOK_at (a := 7) (by omega) hk).2.1) (nm_at (c := 7) (by omega)) hown hK hP hD hS 0 rfl rfl 6 (by decide) (hw kw43) (fun _ h9 => h9) rfl hin rfl (fkOK_at (a := 7) (k := 6) (by omega) (by decide)).2.1 rfl rfl (Nat.le_of_ble_eq_true rfl) dkX7_25 (fun H locs hP hD hS => ?_)
  have hP : va_P D vwCl [(h0, .inr (7, [.null, .null, .null, .int 0, .int 0, .ref q16, .ref q23, .null])), (q16, .inl (cI, 5, .inl (fun _ => 0))), (q23, .inl (cI, 5, .inl (fun _ => 0)))] H := hP
  have hD : va_D A [(h0, .inr (7, [.null, .null, .null, .int 0, .int 0, .ref q16, .ref q23, .null])), (q16, .inl (cI, 5, .inl (fun _ => 0))), (q23, .inl (cI, 5, .inl (fun _ => 0)))] := hD
  refine lv_aload_n hx hb dkX7_28 rfl (lv_at hl 0 rfl) ?_
  refine lv_iconst (v := 5) hx hb dkX7_29 (by decide) ?_
  refine va_newa (a0 := (5, .inl (fun _ => 0))) (N' := 5) (ty := .int) hx hb (hw kw7) rfl hK hP hD hS hA (fun _ => rfl) (by decide) (by decide) (by decide) (Nat.le_of_ble_eq_true rfl) (Nat.le_of_ble_eq_true rfl) dkX7_30 (fun q30 cA H hKa hP hD hS => ?_)
  obtain rfl : cI = cA := ka_same hKa (i := 0) (j := 2) rfl rfl
  have hP : va_P D vwCl [(h0, .inr (7, [.null, .null, .null, .int 0, .int 0, .ref q16, .ref q23, .null])), (q16, .inl (cI, 5, .inl (fun _ => 0))), (q23, .inl (cI, 5, .inl (fun _ => 0))), (q30, .inl (cI, 5, .inl (fun _ => 0)))] H := hP
  have hD : va_D A [(h0, .inr (7, [.null, .null, .null, .int 0, .int 0, .ref q16, .ref q23, .null])), (q16, .inl (cI, 5, .inl (fun _ => 0))), (q23, .inl (cI, 5, .inl (fun _ => 0))), (q30, .inl (cI, 5, .inl (fun _ => 0)))] := hD
  refine W.widen (k := 3) (n := 15) (by omega) (by omega) ?_
  refine va_putF (D := D) (ci := 7) (v := .ref q30) (ty := tyX7 7) (C := RX7) (T := TX7) (N := 8) hx hb htsL (uw_at (c := 7) (by omega)) tyX7 (fun k hk => (fkOK_at (a := 7) (by omega) hk).2.1) (nm_at (c := 7) (by omega)) hown hK hP hD hS 0 rfl rfl 7 (by decide) (hw kw44) (fun _ h9 => h9) rfl hin rfl (fkOK_at (a := 7) (k := 7) (by omega) (by decide)).2.1 rfl rfl (Nat.le_of_ble_eq_true rfl) dkX7_32 (fun H locs hP hD hS => ?_)
  have hP : va_P D vwCl [(h0, .inr (7, [.null, .null, .null, .int 0, .int 0, .ref q16, .ref q23, .ref q30])), (q16, .inl (cI, 5, .inl (fun _ => 0))), (q23, .inl (cI, 5, .inl (fun _ => 0))), (q30, .inl (cI, 5, .inl (fun _ => 0)))] H := hP
  have hD : va_D A [(h0, .inr (7, [.null, .null, .null, .int 0, .int 0, .ref q16, .ref q23, .ref q30])), (q16, .inl (cI, 5, .inl (fun _ => 0))), (q23, .inl (cI, 5, .inl (fun _ => 0))), (q30, .inl (cI, 5, .inl (fun _ => 0)))] := hD
  refine lv_aload_n hx hb dkX7_35 rfl (lv_at hl 0 rfl) ?_
  refine lv_aload_n hx hb dkX7_36 rfl (lv_at hl 1 rfl) ?_
  refine va_putF (D := D) (ci := 7) (v := .ref r1) (ty := tyX7 0) (C := RX7) (T := TX7) (N := 8) hx hb htsL (uw_at (c := 7) (by omega)) tyX7 (fun k hk => (fkOK_at (a := 7) (by omega) hk).2.1) (nm_at (c := 7) (by omega)) hown hK hP hD hS 0 rfl rfl 0 (by decide) (hw kw45) (fun _ h9 => h9) rfl hin rfl (fkOK_at (a := 7) (k := 0) (by omega) (by decide)).2.1 rfl rfl (Nat.le_of_ble_eq_true rfl) dkX7_37 (fun H locs hP hD hS => ?_)
  have hP : va_P D vwCl [(h0, .inr (7, [.ref r1, .null, .null, .int 0, .int 0, .ref q16, .ref q23, .ref q30])), (q16, .inl (cI, 5, .inl (fun _ => 0))), (q23, .inl (cI, 5, .inl (fun _ => 0))), (q30, .inl (cI, 5, .inl (fun _ => 0)))] H := hP
  have hD : va_D A [(h0, .inr (7, [.ref r1, .null, .null, .int 0, .int 0, .ref q16, .ref q23, .ref q30])), (q16, .inl (cI, 5, .inl (fun _ => 0))), (q23, .inl (cI, 5, .inl (fun _ => 0))), (q30, .inl (cI, 5, .inl (fun _ => 0)))] := hD
  refine lv_aload_n hx hb dkX7_40 rfl (lv_at hl 0 rfl) ?_
  refine lv_aload_n hx hb dkX7_41 rfl (lv_at hl 2 rfl) ?_
  refine va_putF (D := D) (ci := 7) (v := .ref r2) (ty := tyX7 1) (C := RX7) (T := TX7) (N := 8) hx hb htsL (uw_at (c := 7) (by omega)) tyX7 (fun k hk => (fkOK_at (a := 7) (by omega) hk).2.1) (nm_at (c := 7) (by omega)) hown hK hP hD hS 0 rfl rfl 1 (by decide) (hw kw46) (fun _ h9 => h9) rfl hin rfl (fkOK_at (a := 7) (k := 1) (by omega) (by decide)).2.1 rfl rfl (Nat.le_of_ble_eq_true rfl) dkX7_42 (fun H locs hP hD hS => ?_)
  have hP : va_P D vwCl [(h0, .inr (7, [.ref r1, .ref r2, .null, .int 0, .int 0, .ref q16, .ref q23, .ref q30])), (q16, .inl (cI, 5, .inl (fun _ => 0))), (q23, .inl (cI, 5, .inl (fun _ => 0))), (q30, .inl (cI, 5, .inl (fun _ => 0)))] H := hP
  have hD : va_D A [(h0, .inr (7, [.ref r1, .ref r2, .null, .int 0, .int 0, .ref q16, .ref q23, .ref q30])), (q16, .inl (cI, 5, .inl (fun _ => 0))), (q23, .inl (cI, 5, .inl (fun _ => 0))), (q30, .inl (cI, 5, .inl (fun _ => 0)))] := hD
  refine lv_aload_n hx hb dkX7_45 rfl (lv_at hl 0 rfl) ?_
  refine lv_aload_n hx hb dkX7_46 rfl (lv_at hl 3 rfl) ?_
  refine va_putF (D := D) (ci := 7) (v := .ref r3) (ty := tyX7 2) (C := RX7) (T := TX7) (N := 8) hx hb htsL (uw_at (c := 7) (by omega)) tyX7 (fun k hk => (fkOK_at (a := 7) (by omega) hk).2.1) (nm_at (c := 7) (by omega)) hown hK hP hD hS 0 rfl rfl 2 (by decide) (hw kw47) (fun _ h9 => h9) rfl hin rfl (fkOK_at (a := 7) (k := 2) (by omega) (by decide)).2.1 rfl rfl (Nat.le_of_ble_eq_true rfl) dkX7_47 (fun H locs hP hD hS => ?_)
  have hP : va_P D vwCl [(h0, .inr (7, [.ref r1, .ref r2, .ref r3, .int 0, .int 0, .ref q16, .ref q23, .ref q30])), (q16, .inl (cI, 5, .inl (fun _ => 0))), (q23, .inl (cI, 5, .inl (fun _ => 0))), (q30, .inl (cI, 5, .inl (fun _ => 0)))] H := hP
  have hD : va_D A [(h0, .inr (7, [.ref r1, .ref r2, .ref r3, .int 0, .int 0, .ref q16, .ref q23, .ref q30])), (q16, .inl (cI, 5, .inl (fun _ => 0))), (q23, .inl (cI, 5, .inl (fun _ => 0))), (q30, .inl (cI, 5, .inl (fun _ => 0)))] := hD
  have hP9 := hP.sub (ws' := [(h0, .inr (7, [.ref r1, .ref r2, .ref r3, .int 0, .int 0, .ref q16, .ref q23, .ref q30])), (q16, .inl (cI, 5, .inl (fun _ => 0))), (q23, .inl (cI, 5, .inl (fun _ => 0))), (q30, .inl (cI, 5, .inl (fun _ => 0)))]) [0, 1, 2, 3] rfl
  have hD9 := hD.sub (ws' := [(h0, .inr (7, [.ref r1, .ref r2, .ref r3, .int 0, .int 0, .ref q16, .ref q23, .ref q30])), (q16, .inl (cI, 5, .inl (fun _ => 0))), (q23, .inl (cI, 5, .inl (fun _ => 0))), (q30, .inl (cI, 5, .inl (fun _ => 0)))]) [0, 1, 2, 3] (by decide) rfl
  refine W.widen (k := 3) (n := 15) (by omega) (by omega) ?_
  exact W.vret hx hb hr (fun t ht hW => ⟨⟨fun k => ([q16, q23, q30] : List Nat).getD k 0, rfl, trivial, by rw [ht]; exact hP9, va_K.moved hW.alike hK, hD9⟩, hS.F ht⟩) hS.2.2 dkX7_50
set_option maxHeartbeats 4000000 in
set_option maxRecDepth 100000 in
theorem k_X8_init (l : Launch) (D : va_G) (cI cZ : ClassId) (h0 sz : Nat) : Met l yX8_init (wsC yX8_init cX8_init 1) ({ frames := 1, cells := 2, slots := 207, locals := 12 }) (va_Pc [.ref h0] (fun U => U.heap.size = sz ∧ va_P D vwCl [(h0, .inr (8, [.int 0, .null, .null, .int 0, .int 0]))] U.heap ∧ va_K D vwCl [(cI, .int), (cZ, .boolean)] U ∧ va_D (fun _ => True) [(h0, .inr (8, [.int 0, .null, .null, .int 0, .int 0]))])) (va_Qv (fun _ : Nat → Nat => True) (fun u t => va_P D vwCl [(h0, .inr (8, [.int 0, .ref (u 0), .ref (u 1), .int 0, .int 0])), ((u 0), .inl (cI, 200, .inl (fun _ => 0))), ((u 1), .inl (cI, 7, .inl (fun _ => 0)))] t.heap ∧ va_K D vwCl [(cI, .int), (cZ, .boolean)] t ∧ va_D (va_A [(h0, .inr (8, [.int 0, .null, .null, .int 0, .int 0]))] sz) [(h0, .inr (8, [.int 0, .ref (u 0), .ref (u 1), .int 0, .int 0])), ((u 0), .inl (cI, 200, .inl (fun _ => 0))), ((u 1), .inl (cI, 7, .inl (fun _ => 0)))]) (va_A [(h0, .inr (8, [.int 0, .null, .null, .int 0, .int 0]))] sz)) 2 207 (va_A [(h0, .inr (8, [.int 0, .null, .null, .int 0, .int 0]))] sz) := by
  refine Met.ofW (cc := cX8_init) (maxL := 1) (ret := none) (by decide) rfl ?_
  intro p e s m args below meth c s₁ B hml hv
  obtain ⟨rfl, hsz, hP, hK, hD0⟩ := hv
  have hx := B.exec
  have hb := B.bytes
  have hr := B.returns
  have hts0 := atoms_spec (ws := wsC yX8_init cX8_init 1) B.pre
  have htsL : ∀ w ∈ LT, w.before _ s = true := fun w h => hts0 w (List.mem_cons_of_mem _ h)
  have hw := fun {q : Nat} {w : Cond} (h : lkQ q w = true) => htsL w (List.mem_filter.mpr (lkQ_spec h))
  have hown : s.vm.findClass RX8 = some m.cls := findClass_of_methodNamed B.named
  have hlocks := B.notSynchronized
  have hin : meth.name = "<init>" := (name_of_methodNamed B.named B.method).1
  subst hsz
  have hD := hD0.self (sz := s.heap.size)
  generalize hAe : va_A [(h0, .inr (8, [.int 0, .null, .null, .int 0, .int 0]))] s.heap.size = A at hD ⊢
  have hA : ∀ q : Nat, s.heap.size ≤ q → A q := fun q h => by rw [← hAe]; exact Or.inr h
  have hS : va_S A s.heap s.heap [] := va_S.rf
  have hP : va_P D vwCl [(h0, .inr (8, [.int 0, .null, .null, .int 0, .int 0]))] s.heap := hP
  have hl := lv_entry ([.ref h0]) (n := 1) (Nat.le_of_ble_eq_true rfl)
  rw [lg_entry_eq]
  generalize (lg_sl ([.ref h0]) ++ List.replicate (1 - (lg_sl ([.ref h0])).length) Slot.unset).toArray = ls at hl ⊢
  have hl : lv_has ls 1 [(0, .ref h0)] := hl
  refine lv_aload_n hx hb dkX8_0 rfl (lv_at hl 0 rfl) ?_
  refine W.objInit hx hb hown (hw kw48) (hw kw1) (hw kw2) rfl (by rw [hml]; exact hl.1) rfl dkX8_1 (Nat.le_of_ble_eq_true rfl) (Nat.le_of_ble_eq_true rfl) ?_
  refine W.eq (g2 := F0 m 4 ls []) rfl ?_
  refine lv_aload_n hx hb dkX8_4 rfl (lv_at hl 0 rfl) ?_
  refine lv_iconst (v := 0) hx hb dkX8_5 (by decide) ?_
  refine va_put (D := D) (ci := 8) (v := .int 0) (ty := tyX8 0) (C := RX8) (T := TX8) (N := 5) hx hb htsL (uw_at (c := 8) (by omega)) tyX8 (fun k hk => (fkOK_at (a := 8) (by omega) hk).2.1) (nm_at (c := 8) (by omega)) hown hK hP hD hS 0 rfl rfl 0 (by decide) (hw kw49) (fun _ h9 => h9) rfl (fkOK_at (a := 8) (k := 0) (by omega) (by decide)).2.1 rfl rfl (Nat.le_of_ble_eq_true rfl) dkX8_6 (fun H locs hP hD hS => ?_)
  have hP : va_P D vwCl [(h0, .inr (8, [.int 0, .null, .null, .int 0, .int 0]))] H := hP
  have hD : va_D A [(h0, .inr (8, [.int 0, .null, .null, .int 0, .int 0]))] := hD
  refine lv_aload_n hx hb dkX8_9 rfl (lv_at hl 0 rfl) ?_
  refine lv_sipush (v := 200) hx hb dkX8_10 (by decide) ?_
  refine va_newa (a0 := (200, .inl (fun _ => 0))) (N' := 200) (ty := .int) hx hb (hw kw7) rfl hK hP hD hS hA (fun _ => rfl) (by decide) (by decide) (by decide) (Nat.le_of_ble_eq_true rfl) (Nat.le_of_ble_eq_true rfl) dkX8_13 (fun q13 cA H hKa hP hD hS => ?_)
  obtain rfl : cI = cA := ka_same hKa (i := 0) (j := 2) rfl rfl
  have hP : va_P D vwCl [(h0, .inr (8, [.int 0, .null, .null, .int 0, .int 0])), (q13, .inl (cI, 200, .inl (fun _ => 0)))] H := hP
  have hD : va_D A [(h0, .inr (8, [.int 0, .null, .null, .int 0, .int 0])), (q13, .inl (cI, 200, .inl (fun _ => 0)))] := hD
  refine W.widen (k := 1) (n := 200) (by omega) (by omega) ?_
  refine va_putF (D := D) (ci := 8) (v := .ref q13) (ty := tyX8 1) (C := RX8) (T := TX8) (N := 5) hx hb htsL (uw_at (c := 8) (by omega)) tyX8 (fun k hk => (fkOK_at (a := 8) (by omega) hk).2.1) (nm_at (c := 8) (by omega)) hown hK hP hD hS 0 rfl rfl 1 (by decide) (hw kw50) (fun _ h9 => h9) rfl hin rfl (fkOK_at (a := 8) (k := 1) (by omega) (by decide)).2.1 rfl rfl (Nat.le_of_ble_eq_true rfl) dkX8_15 (fun H locs hP hD hS => ?_)
  have hP : va_P D vwCl [(h0, .inr (8, [.int 0, .ref q13, .null, .int 0, .int 0])), (q13, .inl (cI, 200, .inl (fun _ => 0)))] H := hP
  have hD : va_D A [(h0, .inr (8, [.int 0, .ref q13, .null, .int 0, .int 0])), (q13, .inl (cI, 200, .inl (fun _ => 0)))] := hD
  refine lv_aload_n hx hb dkX8_18 rfl (lv_at hl 0 rfl) ?_
  refine lv_bipush (v := 7) hx hb dkX8_19 (by decide) ?_
  refine va_newa (a0 := (7, .inl (fun _ => 0))) (N' := 7) (ty := .int) hx hb (hw kw7) rfl hK hP hD hS hA (fun _ => rfl) (by decide) (by decide) (by decide) (Nat.le_of_ble_eq_true rfl) (Nat.le_of_ble_eq_true rfl) dkX8_21 (fun q21 cA H hKa hP hD hS => ?_)
  obtain rfl : cI = cA := ka_same hKa (i := 0) (j := 2) rfl rfl
  have hP : va_P D vwCl [(h0, .inr (8, [.int 0, .ref q13, .null, .int 0, .int 0])), (q13, .inl (cI, 200, .inl (fun _ => 0))), (q21, .inl (cI, 7, .inl (fun _ => 0)))] H := hP
  have hD : va_D A [(h0, .inr (8, [.int 0, .ref q13, .null, .int 0, .int 0])), (q13, .inl (cI, 200, .inl (fun _ => 0))), (q21, .inl (cI, 7, .inl (fun _ => 0)))] := hD
  refine W.widen (k := 2) (n := 207) (by omega) (by omega) ?_
  refine va_putF (D := D) (ci := 8) (v := .ref q21) (ty := tyX8 2) (C := RX8) (T := TX8) (N := 5) hx hb htsL (uw_at (c := 8) (by omega)) tyX8 (fun k hk => (fkOK_at (a := 8) (by omega) hk).2.1) (nm_at (c := 8) (by omega)) hown hK hP hD hS 0 rfl rfl 2 (by decide) (hw kw51) (fun _ h9 => h9) rfl hin rfl (fkOK_at (a := 8) (k := 2) (by omega) (by decide)).2.1 rfl rfl (Nat.le_of_ble_eq_true rfl) dkX8_23 (fun H locs hP hD hS => ?_)
  have hP : va_P D vwCl [(h0, .inr (8, [.int 0, .ref q13, .ref q21, .int 0, .int 0])), (q13, .inl (cI, 200, .inl (fun _ => 0))), (q21, .inl (cI, 7, .inl (fun _ => 0)))] H := hP
  have hD : va_D A [(h0, .inr (8, [.int 0, .ref q13, .ref q21, .int 0, .int 0])), (q13, .inl (cI, 200, .inl (fun _ => 0))), (q21, .inl (cI, 7, .inl (fun _ => 0)))] := hD
  refine lv_aload_n hx hb dkX8_26 rfl (lv_at hl 0 rfl) ?_
  refine lv_iconst (v := 0) hx hb dkX8_27 (by decide) ?_
  refine va_put (D := D) (ci := 8) (v := .int 0) (ty := tyX8 3) (C := RX8) (T := TX8) (N := 5) hx hb htsL (uw_at (c := 8) (by omega)) tyX8 (fun k hk => (fkOK_at (a := 8) (by omega) hk).2.1) (nm_at (c := 8) (by omega)) hown hK hP hD hS 0 rfl rfl 3 (by decide) (hw kw52) (fun _ h9 => h9) rfl (fkOK_at (a := 8) (k := 3) (by omega) (by decide)).2.1 rfl rfl (Nat.le_of_ble_eq_true rfl) dkX8_28 (fun H locs hP hD hS => ?_)
  have hP : va_P D vwCl [(h0, .inr (8, [.int 0, .ref q13, .ref q21, .int 0, .int 0])), (q13, .inl (cI, 200, .inl (fun _ => 0))), (q21, .inl (cI, 7, .inl (fun _ => 0)))] H := hP
  have hD : va_D A [(h0, .inr (8, [.int 0, .ref q13, .ref q21, .int 0, .int 0])), (q13, .inl (cI, 200, .inl (fun _ => 0))), (q21, .inl (cI, 7, .inl (fun _ => 0)))] := hD
  refine lv_aload_n hx hb dkX8_31 rfl (lv_at hl 0 rfl) ?_
  refine lv_iconst (v := 0) hx hb dkX8_32 (by decide) ?_
  refine va_put (D := D) (ci := 8) (v := .int 0) (ty := tyX8 4) (C := RX8) (T := TX8) (N := 5) hx hb htsL (uw_at (c := 8) (by omega)) tyX8 (fun k hk => (fkOK_at (a := 8) (by omega) hk).2.1) (nm_at (c := 8) (by omega)) hown hK hP hD hS 0 rfl rfl 4 (by decide) (hw kw53) (fun _ h9 => h9) rfl (fkOK_at (a := 8) (k := 4) (by omega) (by decide)).2.1 rfl rfl (Nat.le_of_ble_eq_true rfl) dkX8_33 (fun H locs hP hD hS => ?_)
  have hP : va_P D vwCl [(h0, .inr (8, [.int 0, .ref q13, .ref q21, .int 0, .int 0])), (q13, .inl (cI, 200, .inl (fun _ => 0))), (q21, .inl (cI, 7, .inl (fun _ => 0)))] H := hP
  have hD : va_D A [(h0, .inr (8, [.int 0, .ref q13, .ref q21, .int 0, .int 0])), (q13, .inl (cI, 200, .inl (fun _ => 0))), (q21, .inl (cI, 7, .inl (fun _ => 0)))] := hD
  have hP9 := hP.sub (ws' := [(h0, .inr (8, [.int 0, .ref q13, .ref q21, .int 0, .int 0])), (q13, .inl (cI, 200, .inl (fun _ => 0))), (q21, .inl (cI, 7, .inl (fun _ => 0)))]) [0, 1, 2] rfl
  have hD9 := hD.sub (ws' := [(h0, .inr (8, [.int 0, .ref q13, .ref q21, .int 0, .int 0])), (q13, .inl (cI, 200, .inl (fun _ => 0))), (q21, .inl (cI, 7, .inl (fun _ => 0)))]) [0, 1, 2] (by decide) rfl
  refine W.widen (k := 2) (n := 207) (by omega) (by omega) ?_
  exact W.vret hx hb hr (fun t ht hW => ⟨⟨fun k => ([q13, q21] : List Nat).getD k 0, rfl, trivial, by rw [ht]; exact hP9, va_K.moved hW.alike hK, hD9⟩, hS.F ht⟩) hS.2.2 dkX8_36
