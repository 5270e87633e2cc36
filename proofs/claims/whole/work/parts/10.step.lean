-- one instruction: A behind it gives A ahead of it
theorem isB_nar {x : Int32} (h : isB x) : narrow .boolean (.int x) = .int x := by
  rcases h with rfl | rfl <;> rfl
theorem isB_fits {x : Int32} (h : isB x) : fits .boolean (.int x) = true := by
  rcases h with rfl | rfl <;> rfl
section STEP
variable {G : GG} {d j pc : Nat} {L : LC} {st : List Value} {M : WM} {Q : Option Value → WM → Prop}
theorem A_aload_n {k : Fin 4} {x : Nat} (hd : decode (MB j) pc = .ok (.aload_n k, 1)) (hL : L[k.val]? = some (some (.ref x))) (K : A G d j (pc + 1) L (.ref x :: st) M Q) : A G d j pc L st M Q := by
  intro p e R s m args below meth c H0 A0 cells slots QQ E H locs ls hP hS hl
  exact lv_aload_n E.1 E.2.1 hd rfl (hl.2.2.2 _ _ hL).2 (K p e R s m args below meth c H0 A0 cells slots QQ E H locs ls hP hS hl)
theorem A_aload {k : Nat} {x : Nat} (hd : decode (MB j) pc = .ok (.aload k, 2)) (hL : L[k]? = some (some (.ref x))) (K : A G d j (pc + 2) L (.ref x :: st) M Q) : A G d j pc L st M Q := by
  intro p e R s m args below meth c H0 A0 cells slots QQ E H locs ls hP hS hl
  exact lv_aload E.1 E.2.1 hd (hl.2.2.2 _ _ hL).2 (K p e R s m args below meth c H0 A0 cells slots QQ E H locs ls hP hS hl)
theorem A_iload_n {k : Fin 4} {x : Int32} (hd : decode (MB j) pc = .ok (.iload_n k, 1)) (hL : L[k.val]? = some (some (.int x))) (K : A G d j (pc + 1) L (.int x :: st) M Q) : A G d j pc L st M Q := by
  intro p e R s m args below meth c H0 A0 cells slots QQ E H locs ls hP hS hl
  exact lv_iload_n E.1 E.2.1 hd rfl (hl.2.2.2 _ _ hL).2 (K p e R s m args below meth c H0 A0 cells slots QQ E H locs ls hP hS hl)
theorem A_iload {k : Nat} {x : Int32} (hd : decode (MB j) pc = .ok (.iload k, 2)) (hL : L[k]? = some (some (.int x))) (K : A G d j (pc + 2) L (.int x :: st) M Q) : A G d j pc L st M Q := by
  intro p e R s m args below meth c H0 A0 cells slots QQ E H locs ls hP hS hl
  exact lv_iload E.1 E.2.1 hd (hl.2.2.2 _ _ hL).2 (K p e R s m args below meth c H0 A0 cells slots QQ E H locs ls hP hS hl)
theorem A_istore_n {k : Fin 4} {x : Int32} (hd : decode (MB j) pc = .ok (.istore_n k, 1)) (hk : k.val < L.length) (K : A G d j (pc + 1) (L.set k.val (some (.int x))) st M Q) : A G d j pc L (.int x :: st) M Q := by
  intro p e R s m args below meth c H0 A0 cells slots QQ E H locs ls hP hS hl
  have hi : k.val < ML j := by rw [← hl.2.2.1]; exact hk
  exact lv_istore_n (x := x) E.1 E.2.1 hd rfl hl.has hi rfl (fun ls' h' => K p e R s m args below meth c H0 A0 cells slots QQ E H locs ls' hP hS (hl.set (v := .int x) rfl hi h'))
theorem A_istore {k : Nat} {x : Int32} (hd : decode (MB j) pc = .ok (.istore k, 2)) (hk : k < L.length) (K : A G d j (pc + 2) (L.set k (some (.int x))) st M Q) : A G d j pc L (.int x :: st) M Q := by
  intro p e R s m args below meth c H0 A0 cells slots QQ E H locs ls hP hS hl
  have hi : k < ML j := by rw [← hl.2.2.1]; exact hk
  exact lv_istore (x := x) E.1 E.2.1 hd hl.has hi rfl (fun ls' h' => K p e R s m args below meth c H0 A0 cells slots QQ E H locs ls' hP hS (hl.set (v := .int x) rfl hi h'))
theorem A_iinc {k : Nat} {z : Int} {x : Int32} (hd : decode (MB j) pc = .ok (.iinc k z, 3)) (hL : L[k]? = some (some (.int x))) {v : Int32} (hv : x + Int32.ofInt z = v) (K : A G d j (pc + 3) (L.set k (some (.int v))) st M Q) : A G d j pc L st M Q := by
  intro p e R s m args below meth c H0 A0 cells slots QQ E H locs ls hP hS hl
  have hi : k < ML j := by rw [← hl.2.2.1]; exact (List.getElem?_eq_some_iff.mp hL).1
  obtain ⟨q, hq⟩ := List.getElem?_of_mem (lvL_mem (ad := G.2.2.1) hL)
  exact lv_iinc (x := x) (v := v) E.1 E.2.1 hd hl.has hq hv hi rfl (fun ls' h' => K p e R s m args below meth c H0 A0 cells slots QQ E H locs ls' hP hS (hl.set (v := .int v) rfl hi h'))
theorem A_iconst {z : Int} {v : Int32} (hd : decode (MB j) pc = .ok (.iconst z, 1)) (hz : Int32.ofInt z = v) (K : A G d j (pc + 1) L (.int v :: st) M Q) : A G d j pc L st M Q := by
  intro p e R s m args below meth c H0 A0 cells slots QQ E H locs ls hP hS hl
  exact lv_iconst E.1 E.2.1 hd hz (K p e R s m args below meth c H0 A0 cells slots QQ E H locs ls hP hS hl)
theorem A_bipush {z : Int} {v : Int32} (hd : decode (MB j) pc = .ok (.bipush z, 2)) (hz : (Int8.ofInt z).toInt32 = v) (K : A G d j (pc + 2) L (.int v :: st) M Q) : A G d j pc L st M Q := by
  intro p e R s m args below meth c H0 A0 cells slots QQ E H locs ls hP hS hl
  exact lv_bipush E.1 E.2.1 hd hz (K p e R s m args below meth c H0 A0 cells slots QQ E H locs ls hP hS hl)
theorem A_sipush {z : Int} {v : Int32} (hd : decode (MB j) pc = .ok (.sipush z, 3)) (hz : (Int16.ofInt z).toInt32 = v) (K : A G d j (pc + 3) L (.int v :: st) M Q) : A G d j pc L st M Q := by
  intro p e R s m args below meth c H0 A0 cells slots QQ E H locs ls hP hS hl
  exact lv_sipush E.1 E.2.1 hd hz (K p e R s m args below meth c H0 A0 cells slots QQ E H locs ls hP hS hl)
theorem A_ldc {x q : Nat} {v : Int32} (hd : decode (MB j) pc = .ok (.ldc x, 2)) (hw : lkQ q (.constant (MN j).cls x v) = true) (K : A G d j (pc + 2) L (.int v :: st) M Q) : A G d j pc L st M Q := by
  intro p e R s m args below meth c H0 A0 cells slots QQ E H locs ls hP hS hl
  exact lv_ldc E.1 E.2.1 E.2.2.2.1 (E.2.2.2.2.1 _ (lkQ_spec hw).1 (lkQ_spec hw).2) hd (K p e R s m args below meth c H0 A0 cells slots QQ E H locs ls hP hS hl)
theorem A_ldc_w {x q : Nat} {v : Int32} (hd : decode (MB j) pc = .ok (.ldc_w x, 3)) (hw : lkQ q (.constant (MN j).cls x v) = true) (K : A G d j (pc + 3) L (.int v :: st) M Q) : A G d j pc L st M Q := by
  intro p e R s m args below meth c H0 A0 cells slots QQ E H locs ls hP hS hl
  exact lv_ldcw E.1 E.2.1 E.2.2.2.1 (E.2.2.2.2.1 _ (lkQ_spec hw).1 (lkQ_spec hw).2) hd (K p e R s m args below meth c H0 A0 cells slots QQ E H locs ls hP hS hl)
theorem A_ldc2_w {x q : Nat} {v : Int64} (hd : decode (MB j) pc = .ok (.ldc2_w x, 3)) (hw : lkQ q (.constantLong (MN j).cls x v) = true) (K : A G d j (pc + 3) L (.long v :: st) M Q) : A G d j pc L st M Q := by
  intro p e R s m args below meth c H0 A0 cells slots QQ E H locs ls hP hS hl
  exact lv_ldc2 E.1 E.2.1 E.2.2.2.1 (E.2.2.2.2.1 _ (lkQ_spec hw).1 (lkQ_spec hw).2) hd (K p e R s m args below meth c H0 A0 cells slots QQ E H locs ls hP hS hl)
theorem A_lconst {z : Fin 2} (hd : decode (MB j) pc = .ok (.lconst z, 1)) (K : A G d j (pc + 1) L (.long (Int64.ofNat z.val) :: st) M Q) : A G d j pc L st M Q := by
  intro p e R s m args below meth c H0 A0 cells slots QQ E H locs ls hP hS hl
  exact lv_lconst E.1 E.2.1 hd rfl (K p e R s m args below meth c H0 A0 cells slots QQ E H locs ls hP hS hl)
theorem A_dup {v : Value} (hd : decode (MB j) pc = .ok (.dup, 1)) (hv : v.category = 1) (K : A G d j (pc + 1) L (v :: v :: st) M Q) : A G d j pc L (v :: st) M Q := by
  intro p e R s m args below meth c H0 A0 cells slots QQ E H locs ls hP hS hl
  exact lv_dup E.1 E.2.1 hd (by rw [cv_cat]; exact hv) (K p e R s m args below meth c H0 A0 cells slots QQ E H locs ls hP hS hl)
theorem A_dup2 {v w : Value} (hd : decode (MB j) pc = .ok (.dup2, 1)) (hv : v.category = 1) (hw : w.category = 1) (K : A G d j (pc + 1) L (v :: w :: v :: w :: st) M Q) : A G d j pc L (v :: w :: st) M Q := by
  intro p e R s m args below meth c H0 A0 cells slots QQ E H locs ls hP hS hl
  exact lv_dup2_11 E.1 E.2.1 hd (by rw [cv_cat]; exact hv) (by rw [cv_cat]; exact hw) (K p e R s m args below meth c H0 A0 cells slots QQ E H locs ls hP hS hl)
theorem A_pop {v : Value} (hd : decode (MB j) pc = .ok (.pop, 1)) (hv : v.category = 1) (K : A G d j (pc + 1) L st M Q) : A G d j pc L (v :: st) M Q := by
  intro p e R s m args below meth c H0 A0 cells slots QQ E H locs ls hP hS hl
  exact lv_pop E.1 E.2.1 hd (by rw [cv_cat]; exact hv) (K p e R s m args below meth c H0 A0 cells slots QQ E H locs ls hP hS hl)
theorem A_iadd {x y : Int32} (hd : decode (MB j) pc = .ok (.iadd, 1)) (K : A G d j (pc + 1) L (.int (x + y) :: st) M Q) : A G d j pc L (.int y :: .int x :: st) M Q := by
  intro p e R s m args below meth c H0 A0 cells slots QQ E H locs ls hP hS hl
  exact lv_iadd E.1 E.2.1 hd (K p e R s m args below meth c H0 A0 cells slots QQ E H locs ls hP hS hl)
theorem A_isub {x y : Int32} (hd : decode (MB j) pc = .ok (.isub, 1)) (K : A G d j (pc + 1) L (.int (x - y) :: st) M Q) : A G d j pc L (.int y :: .int x :: st) M Q := by
  intro p e R s m args below meth c H0 A0 cells slots QQ E H locs ls hP hS hl
  exact lv_isub E.1 E.2.1 hd (K p e R s m args below meth c H0 A0 cells slots QQ E H locs ls hP hS hl)
theorem A_imul {x y : Int32} (hd : decode (MB j) pc = .ok (.imul, 1)) (K : A G d j (pc + 1) L (.int (x * y) :: st) M Q) : A G d j pc L (.int y :: .int x :: st) M Q := by
  intro p e R s m args below meth c H0 A0 cells slots QQ E H locs ls hP hS hl
  exact lv_imul E.1 E.2.1 hd (K p e R s m args below meth c H0 A0 cells slots QQ E H locs ls hP hS hl)
theorem A_iand {x y : Int32} (hd : decode (MB j) pc = .ok (.iand, 1)) (K : A G d j (pc + 1) L (.int (x &&& y) :: st) M Q) : A G d j pc L (.int y :: .int x :: st) M Q := by
  intro p e R s m args below meth c H0 A0 cells slots QQ E H locs ls hP hS hl
  exact lv_iand E.1 E.2.1 hd (K p e R s m args below meth c H0 A0 cells slots QQ E H locs ls hP hS hl)
theorem A_ior {x y : Int32} (hd : decode (MB j) pc = .ok (.ior, 1)) (K : A G d j (pc + 1) L (.int (x ||| y) :: st) M Q) : A G d j pc L (.int y :: .int x :: st) M Q := by
  intro p e R s m args below meth c H0 A0 cells slots QQ E H locs ls hP hS hl
  exact lv_ior E.1 E.2.1 hd (K p e R s m args below meth c H0 A0 cells slots QQ E H locs ls hP hS hl)
theorem A_ixor {x y : Int32} (hd : decode (MB j) pc = .ok (.ixor, 1)) (K : A G d j (pc + 1) L (.int (x ^^^ y) :: st) M Q) : A G d j pc L (.int y :: .int x :: st) M Q := by
  intro p e R s m args below meth c H0 A0 cells slots QQ E H locs ls hP hS hl
  exact lv_ixor E.1 E.2.1 hd (K p e R s m args below meth c H0 A0 cells slots QQ E H locs ls hP hS hl)
theorem A_ishl {x y : Int32} (hd : decode (MB j) pc = .ok (.ishl, 1)) (K : A G d j (pc + 1) L (.int (x <<< (y &&& 31)) :: st) M Q) : A G d j pc L (.int y :: .int x :: st) M Q := by
  intro p e R s m args below meth c H0 A0 cells slots QQ E H locs ls hP hS hl
  exact lv_ishl E.1 E.2.1 hd (K p e R s m args below meth c H0 A0 cells slots QQ E H locs ls hP hS hl)
theorem A_ishr {x y : Int32} (hd : decode (MB j) pc = .ok (.ishr, 1)) (K : A G d j (pc + 1) L (.int (x >>> (y &&& 31)) :: st) M Q) : A G d j pc L (.int y :: .int x :: st) M Q := by
  intro p e R s m args below meth c H0 A0 cells slots QQ E H locs ls hP hS hl
  exact lv_ishr E.1 E.2.1 hd (K p e R s m args below meth c H0 A0 cells slots QQ E H locs ls hP hS hl)
theorem A_iushr {x y : Int32} (hd : decode (MB j) pc = .ok (.iushr, 1)) (K : A G d j (pc + 1) L (.int ((x.toUInt32 >>> (y.toUInt32 &&& Int32.toUInt32 31)).toInt32) :: st) M Q) : A G d j pc L (.int y :: .int x :: st) M Q := by
  intro p e R s m args below meth c H0 A0 cells slots QQ E H locs ls hP hS hl
  exact lv_iushr E.1 E.2.1 hd rfl (K p e R s m args below meth c H0 A0 cells slots QQ E H locs ls hP hS hl)
theorem A_idiv {x y : Int32} (hd : decode (MB j) pc = .ok (.idiv, 1)) (hy : ¬ y = 0) (K : A G d j (pc + 1) L (.int (x / y) :: st) M Q) : A G d j pc L (.int y :: .int x :: st) M Q := by
  intro p e R s m args below meth c H0 A0 cells slots QQ E H locs ls hP hS hl
  exact lv_idiv E.1 E.2.1 hd hy (K p e R s m args below meth c H0 A0 cells slots QQ E H locs ls hP hS hl)
theorem A_irem {x y : Int32} (hd : decode (MB j) pc = .ok (.irem, 1)) (hy : ¬ y = 0) (K : A G d j (pc + 1) L (.int (x - x / y * y) :: st) M Q) : A G d j pc L (.int y :: .int x :: st) M Q := by
  intro p e R s m args below meth c H0 A0 cells slots QQ E H locs ls hP hS hl
  exact lv_irem E.1 E.2.1 hd hy (K p e R s m args below meth c H0 A0 cells slots QQ E H locs ls hP hS hl)
theorem A_ladd {x y : Int64} (hd : decode (MB j) pc = .ok (.ladd, 1)) (K : A G d j (pc + 1) L (.long (x + y) :: st) M Q) : A G d j pc L (.long y :: .long x :: st) M Q := by
  intro p e R s m args below meth c H0 A0 cells slots QQ E H locs ls hP hS hl
  exact lv_ladd E.1 E.2.1 hd (K p e R s m args below meth c H0 A0 cells slots QQ E H locs ls hP hS hl)
theorem A_lcmp {x y : Int64} (hd : decode (MB j) pc = .ok (.lcmp, 1)) (K : A G d j (pc + 1) L (.int (lg_cmp x y) :: st) M Q) : A G d j pc L (.long y :: .long x :: st) M Q := by
  intro p e R s m args below meth c H0 A0 cells slots QQ E H locs ls hP hS hl
  exact W.lcmp E.1 E.2.1 hd (K p e R s m args below meth c H0 A0 cells slots QQ E H locs ls hP hS hl)
theorem A_goto {off : Int} {t : Nat} (hd : decode (MB j) pc = .ok (.goto off, 3)) (ht : (pc : Int) + off = (t : Int)) (K : A G d j t L st M Q) : A G d j pc L st M Q := by
  intro p e R s m args below meth c H0 A0 cells slots QQ E H locs ls hP hS hl
  exact lv_goto E.1 E.2.1 hd ht (K p e R s m args below meth c H0 A0 cells slots QQ E H locs ls hP hS hl)
theorem A_icmp {k : ClassFile.Cond} {x y : Int32} {off : Int} {t : Nat} (hd : decode (MB j) pc = .ok (.if_icmp k off, 3)) (ht : (pc : Int) + off = (t : Int)) (K : brK k x y (A G d j t L st M Q) (A G d j (pc + 3) L st M Q)) : A G d j pc L (.int y :: .int x :: st) M Q := by
  intro p e R s m args below meth c H0 A0 cells slots QQ E H locs ls hP hS hl
  have k1 := fun (h : A G d j t L st M Q) => h p e R s m args below meth c H0 A0 cells slots QQ E H locs ls hP hS hl
  have k2 := fun (h : A G d j (pc + 3) L st M Q) => h p e R s m args below meth c H0 A0 cells slots QQ E H locs ls hP hS hl
  cases k with
  | eq => exact lv_icmp_eq E.1 E.2.1 hd ht (fun h => k1 (K.1 h)) (fun h => k2 (K.2 h))
  | ne => exact lv_icmp_ne E.1 E.2.1 hd ht (fun h => k1 (K.1 h)) (fun h => k2 (K.2 h))
  | lt => exact lv_icmp_lt E.1 E.2.1 hd ht (fun h => k1 (K.1 h)) (fun h => k2 (K.2 h))
  | ge => exact lv_icmp_ge E.1 E.2.1 hd ht (fun h => k1 (K.1 h)) (fun h => k2 (K.2 h))
  | gt => exact lv_icmp_gt E.1 E.2.1 hd ht (fun h => k1 (K.1 h)) (fun h => k2 (K.2 h))
  | le => exact lv_icmp_le E.1 E.2.1 hd ht (fun h => k1 (K.1 h)) (fun h => k2 (K.2 h))
theorem A_if {k : ClassFile.Cond} {x : Int32} {off : Int} {t : Nat} (hd : decode (MB j) pc = .ok (.ifCond k off, 3)) (ht : (pc : Int) + off = (t : Int)) (K : brK k x (nI 0) (A G d j t L st M Q) (A G d j (pc + 3) L st M Q)) : A G d j pc L (.int x :: st) M Q := by
  intro p e R s m args below meth c H0 A0 cells slots QQ E H locs ls hP hS hl
  have k1 := fun (h : A G d j t L st M Q) => h p e R s m args below meth c H0 A0 cells slots QQ E H locs ls hP hS hl
  have k2 := fun (h : A G d j (pc + 3) L st M Q) => h p e R s m args below meth c H0 A0 cells slots QQ E H locs ls hP hS hl
  cases k with
  | eq => exact lv_if_eq E.1 E.2.1 hd ht (fun h => k1 (K.1 h)) (fun h => k2 (K.2 h))
  | ne => exact lv_if_ne E.1 E.2.1 hd ht (fun h => k1 (K.1 h)) (fun h => k2 (K.2 h))
  | lt => exact lv_if_lt E.1 E.2.1 hd ht (fun h => k1 (K.1 h)) (fun h => k2 (K.2 h))
  | ge => exact lv_if_ge E.1 E.2.1 hd ht (fun h => k1 (K.1 h)) (fun h => k2 (K.2 h))
  | gt => exact lv_if_gt E.1 E.2.1 hd ht (fun h => k1 (K.1 h)) (fun h => k2 (K.2 h))
  | le => exact lv_if_le E.1 E.2.1 hd ht (fun h => k1 (K.1 h)) (fun h => k2 (K.2 h))
theorem hts_LT {args : Array Value} {s : State} (h : ∀ w ∈ lw_tbl, goodWord w = true → w.before args s = true) : ∀ w ∈ LT, w.before args s = true := fun w hw => h w (List.mem_filter.mp hw).1 (List.mem_filter.mp hw).2
theorem fs_at {M : WM} {ad : Nat → Nat} {o b n : Nat} (hb : b < n) : ((List.range n).map (fun k => cv ad (fv M o k)))[b]? = some (cv ad (fv M o b)) := by simp [List.getElem?_range hb]
theorem A_getfield {x a b q o : Nat} (hd : decode (MB j) pc = .ok (.getfield x, 3)) (hw : lkQ q (.fieldLink (MN j).cls x (RR a) (TT a b).2.1 (TT a b).2.2.1) = true) (hb : b < NF a) (ha : a < 11) (h0 : (kd o).1 = 0) (h1 : (kd o).2.1 = a) (K : A G d j (pc + 3) L (fv M o b :: st) M Q) : A G d j pc L (.ref o :: st) M Q := by
  intro p e R s m args below meth c H0 A0 cells slots QQ E H locs ls hP hS hl
  subst h1
  have hk := K p e R s m args below meth c H0 A0 cells slots QQ E H locs ls hP hS hl
  obtain ⟨hx, hbb, hml, hown, hts, hK, hR, hcs, hDi, hA, hX, hret⟩ := E
  have hat := simW_at (G := G) (M := M) (kd_lt (i := o) (by rw [h0]; decide))
  rw [cellE_obj h0] at hat
  refine va_get hx hbb (hts_LT hts) (uw_at ha) hown hK hP o hat (vwCl_at ha) b hb (hts _ (lkQ_spec hw).1 (lkQ_spec hw).2) (fun z hz => ?_) (fs_at hb) hd hk
  rw [(fkOK_at ha hb).1] at hz
  exact hz
theorem A_putI {x a b q o : Nat} {v : Int32} (hd : decode (MB j) pc = .ok (.putfield x, 3)) (hw : lkQ q (.fieldLink (MN j).cls x (RR a) (TT a b).2.1 (TT a b).2.2.1) = true) (hb : b < NF a) (ha : a < 11) (hfin : (TT a b).2.2.2 = false) (h0 : (kd o).1 = 0) (h1 : (kd o).2.1 = a) (hf : fkd a b = 0 ∨ (fkd a b = 3 ∧ isB v)) (K : A G d j (pc + 3) L st (wset M o b v) Q) : A G d j pc L (.int v :: .ref o :: st) M Q := by
  intro p e R s m args below meth c H0 A0 cells slots QQ E H locs ls hP hS hl
  subst h1
  have hk := K p e R s m args below meth c H0 A0 cells slots QQ E
  obtain ⟨hx, hbb, hml, hown, hts, hK, hR, hcs, hDi, hA, hX, hret⟩ := E
  have hat := simW_at (G := G) (M := M) (kd_lt (i := o) (by rw [h0]; decide))
  rw [cellE_obj h0] at hat
  have hT := fkOK_at ha hb
  have hn : narrow (TY (kd o).2.1 b) (.int v) = .int v ∧ fits (TY (kd o).2.1 b) (.int v) = true := by
    rcases hf with h | ⟨h, hz⟩
    · rw [hT.2.2.1 h]; exact ⟨rfl, rfl⟩
    · rw [hT.2.2.2.1 h]
      exact ⟨isB_nar hz, isB_fits hz⟩
  refine va_put hx hbb (hts_LT hts) (uw_at ha) (TY (kd o).2.1) (fun k hk => (fkOK_at ha hk).2.1) (nm_at ha) hown hK hP (simW_D hDi hA) hS o hat (vwCl_at ha) b hb (hts _ (lkQ_spec hw).1 (lkQ_spec hw).2) (fun z hz => ?_) hfin hT.2.1 hn.1 hn.2 (by simpa using hb) hd (fun H1 locs1 hP1 hD1 hS1 => ?_)
  · rw [(fkOK_at ha hb).1] at hz
    exact hz
  · have e := put_int (G := G) (M := M) (v := v) h0 (hf.elim Or.inl (fun q => Or.inr q.1))
    have hP1 : va_P G.2.1 vwCl _ H1 := e ▸ hP1
    exact hk H1 locs1 ls hP1 hS1 hl
theorem A_putL {x a b q o : Nat} {v : Int64} (hd : decode (MB j) pc = .ok (.putfield x, 3)) (hw : lkQ q (.fieldLink (MN j).cls x (RR a) (TT a b).2.1 (TT a b).2.2.1) = true) (hb : b < NF a) (ha : a < 11) (hfin : (TT a b).2.2.2 = false) (h0 : (kd o).1 = 0) (h1 : (kd o).2.1 = a) (hf : fkd a b = 1) (K : A G d j (pc + 3) L st (wsetL M o v) Q) : A G d j pc L (.long v :: .ref o :: st) M Q := by
  intro p e R s m args below meth c H0 A0 cells slots QQ E H locs ls hP hS hl
  subst h1
  have hk := K p e R s m args below meth c H0 A0 cells slots QQ E
  obtain ⟨hx, hbb, hml, hown, hts, hK, hR, hcs, hDi, hA, hX, hret⟩ := E
  have hat := simW_at (G := G) (M := M) (kd_lt (i := o) (by rw [h0]; decide))
  rw [cellE_obj h0] at hat
  have hT := fkOK_at ha hb
  have hn : narrow (TY (kd o).2.1 b) (.long v) = .long v ∧ fits (TY (kd o).2.1 b) (.long v) = true := by
    rw [hT.2.2.2.2 hf]; exact ⟨rfl, rfl⟩
  have hb50 : b < 50 := by
    rcases Nat.lt_or_ge b 50 with z | z
    · exact z
    · exact absurd hf (fkd_big ha z)
  refine va_put hx hbb (hts_LT hts) (uw_at ha) (TY (kd o).2.1) (fun k hk => (fkOK_at ha hk).2.1) (nm_at ha) hown hK hP (simW_D hDi hA) hS o hat (vwCl_at ha) b hb (hts _ (lkQ_spec hw).1 (lkQ_spec hw).2) (fun z hz => ?_) hfin hT.2.1 hn.1 hn.2 (by simpa using hb) hd (fun H1 locs1 hP1 hD1 hS1 => ?_)
  · rw [(fkOK_at ha hb).1] at hz
    exact hz
  · have e := put_long (G := G) (M := M) (v := v) h0 hf (oneLong_at ha hb50 hf)
    have hP1 : va_P G.2.1 vwCl _ H1 := e ▸ hP1
    exact hk H1 locs1 ls hP1 hS1 hl
theorem A_iaload {o : Nat} {x : Int32} (hd : decode (MB j) pc = .ok (.iaload, 1)) (h0 : (kd o).1 = 1) (hx : vp_in x (kd o).2.2) (K : A G d j (pc + 1) L (.int (wg M o x.toNatClampNeg) :: st) M Q) : A G d j pc L (.int x :: .ref o :: st) M Q := by
  intro p e R s m args below meth c H0 A0 cells slots QQ E H locs ls hP hS hl
  have hat := simW_at (G := G) (M := M) (kd_lt (i := o) (by rw [h0]; decide))
  rw [cellE_int h0] at hat
  exact va_iald E.1 E.2.1 E.2.2.2.2.2.1 hP o 0 hat rfl hx hd (K p e R s m args below meth c H0 A0 cells slots QQ E H locs ls hP hS hl)
theorem A_saload {x : Int32} (hd : decode (MB j) pc = .ok (.iaload, 1)) (hx : vp_in x G.2.2.2.2.2.1) (K : A G d j (pc + 1) L (.int (G.2.2.2.2.2.2 x.toNatClampNeg) :: st) M Q) : A G d j pc L (.int x :: .ref 61 :: st) M Q := by
  intro p e R s m args below meth c H0 A0 cells slots QQ E H locs ls hP hS hl
  have hk := K p e R s m args below meth c H0 A0 cells slots QQ E H locs ls hP hS hl
  obtain ⟨hxx, hbb, hml, hown, hts, hK, hR, hcs, hDi, hA, hX, hret⟩ := E
  exact va_sld hxx hbb hX.1 hX.2.1 hX.2.2 hS hx hd hk
theorem A_baload {o : Nat} {x : Int32} (hd : decode (MB j) pc = .ok (.baload, 1)) (h0 : (kd o).1 = 2) (hx : vp_in x (kd o).2.2) (K : A G d j (pc + 1) L (.int (wg M o x.toNatClampNeg) :: st) M Q) : A G d j pc L (.int x :: .ref o :: st) M Q := by
  intro p e R s m args below meth c H0 A0 cells slots QQ E H locs ls hP hS hl
  have hat := simW_at (G := G) (M := M) (kd_lt (i := o) (by rw [h0]; decide))
  rw [cellE_bool h0] at hat
  exact va_zald E.1 E.2.1 E.2.2.2.2.2.1 hP o 1 hat rfl hx hd (K p e R s m args below meth c H0 A0 cells slots QQ E H locs ls hP hS hl)
theorem A_iastore {o : Nat} {x v : Int32} (hd : decode (MB j) pc = .ok (.iastore, 1)) (h0 : (kd o).1 = 1) (hx : vp_in x (kd o).2.2) (K : A G d j (pc + 1) L st (wset M o x.toNatClampNeg v) Q) : A G d j pc L (.int v :: .int x :: .ref o :: st) M Q := by
  intro p e R s m args below meth c H0 A0 cells slots QQ E H locs ls hP hS hl
  have hk := K p e R s m args below meth c H0 A0 cells slots QQ E
  have hat := simW_at (G := G) (M := M) (kd_lt (i := o) (by rw [h0]; decide))
  rw [cellE_int h0] at hat
  obtain ⟨hxx, hbb, hml, hown, hts, hK, hR, hcs, hDi, hA, hX, hret⟩ := E
  refine va_iast hxx hbb hK hP (simW_D hDi hA) hS o 0 hat rfl hx hd (fun H1 locs1 hP1 hD1 hS1 => ?_)
  rw [put_arr h0] at hP1
  exact hk H1 locs1 ls hP1 hS1 hl
theorem A_bastore {o : Nat} {x v : Int32} (hd : decode (MB j) pc = .ok (.bastore, 1)) (h0 : (kd o).1 = 2) (hx : vp_in x (kd o).2.2) (K : A G d j (pc + 1) L st (wset M o x.toNatClampNeg (vp_nar .boolean v)) Q) : A G d j pc L (.int v :: .int x :: .ref o :: st) M Q := by
  intro p e R s m args below meth c H0 A0 cells slots QQ E H locs ls hP hS hl
  have hk := K p e R s m args below meth c H0 A0 cells slots QQ E
  have hat := simW_at (G := G) (M := M) (kd_lt (i := o) (by rw [h0]; decide))
  rw [cellE_bool h0] at hat
  obtain ⟨hxx, hbb, hml, hown, hts, hK, hR, hcs, hDi, hA, hX, hret⟩ := E
  refine va_zast hxx hbb hK hP (simW_D hDi hA) hS o 1 hat rfl hx hd (fun H1 locs1 hP1 hD1 hS1 => ?_)
  rw [put_arrZ h0] at hP1
  exact hk H1 locs1 ls hP1 hS1 hl
theorem A_alen {o : Nat} (hd : decode (MB j) pc = .ok (.arraylength, 1)) (h0 : (kd o).1 = 1) (K : A G d j (pc + 1) L (.int (nI (kd o).2.2) :: st) M Q) : A G d j pc L (.ref o :: st) M Q := by
  intro p e R s m args below meth c H0 A0 cells slots QQ E H locs ls hP hS hl
  have hat := simW_at (G := G) (M := M) (kd_lt (i := o) (by rw [h0]; decide))
  rw [cellE_int h0] at hat
  exact va_alen E.1 E.2.1 E.2.2.2.2.2.1 hP o 0 hat rfl rfl hd (K p e R s m args below meth c H0 A0 cells slots QQ E H locs ls hP hS hl)
theorem A_slen (hd : decode (MB j) pc = .ok (.arraylength, 1)) (K : A G d j (pc + 1) L (.int (nI G.2.2.2.2.2.1) :: st) M Q) : A G d j pc L (.ref 61 :: st) M Q := by
  intro p e R s m args below meth c H0 A0 cells slots QQ E H locs ls hP hS hl
  have hk := K p e R s m args below meth c H0 A0 cells slots QQ E H locs ls hP hS hl
  obtain ⟨hxx, hbb, hml, hown, hts, hK, hR, hcs, hDi, hA, hX, hret⟩ := E
  exact va_slen hxx hbb hX.1 hX.2.1 hX.2.2 hS hd hk
theorem A_ret {v : Option Value} (hd : retD (MB j) pc v) (ht : retT (MR j) v) (hq : Q v M) : A G d j pc L v.toList M Q := by
  intro p e R s m args below meth c H0 A0 cells slots QQ E H locs ls hP hS hl
  obtain ⟨hxx, hbb, hml, hown, hts, hK, hR, hcs, hDi, hA, hX, hret⟩ := E
  exact hret pc H locs ls v M hq hd ht hP hS
theorem catS_eq (l : List Value) (ad : Nat → Nat) : ((l.map (cv ad)).map fun v => v.category).sum = catS l := by
  induction l with
  | nil => rfl
  | cons v l ih =>
    simp only [List.map_cons, List.sum_cons, catS, cv_cat]
    rw [ih]
theorem A_max {x y : Int32} {i q : Nat} (hd : decode (MB j) pc = .ok (.invokestatic i, 3)) (hw : lkQ q (.methodLink (MN j).cls i Lib.Math.max.name) = true) (hc8 : catS st ≤ 8) (K : A G d j (pc + 3) L (.int (if x < y then y else x) :: st) M Q) : A G d j pc L (.int y :: .int x :: st) M Q := by
  intro p e R s m args below meth c H0 A0 cells slots QQ E H locs ls hP hS hl
  have hk := K p e R s m args below meth c H0 A0 cells slots QQ E H locs ls hP hS hl
  obtain ⟨hxx, hbb, hml, hown, hts, hK, hR, hcs, hDi, hA, hX, hret⟩ := E
  have ok := ok_max
  simp only [Bool.and_eq_true] at ok
  exact va_mmax hxx hbb (by rw [hml, hl.1]) hown (hts _ (lkQ_spec hw).1 (lkQ_spec hw).2) (hts _ (lkQ_spec ok.1.1).1 (lkQ_spec ok.1.1).2) (hts _ (lkQ_spec ok.1.2).1 (lkQ_spec ok.1.2).2) (hts _ (lkQ_spec ok.2).1 (lkQ_spec ok.2).2) (by omega) (by rw [catS_eq]; omega) hcs.1 hcs.2 hd hk
theorem A_min {x y : Int32} {i q : Nat} (hd : decode (MB j) pc = .ok (.invokestatic i, 3)) (hw : lkQ q (.methodLink (MN j).cls i Lib.Math.min.name) = true) (hc8 : catS st ≤ 8) (K : A G d j (pc + 3) L (.int (if y < x then y else x) :: st) M Q) : A G d j pc L (.int y :: .int x :: st) M Q := by
  intro p e R s m args below meth c H0 A0 cells slots QQ E H locs ls hP hS hl
  have hk := K p e R s m args below meth c H0 A0 cells slots QQ E H locs ls hP hS hl
  obtain ⟨hxx, hbb, hml, hown, hts, hK, hR, hcs, hDi, hA, hX, hret⟩ := E
  have ok := ok_min
  simp only [Bool.and_eq_true] at ok
  exact va_mmin hxx hbb (by rw [hml, hl.1]) hown (hts _ (lkQ_spec hw).1 (lkQ_spec hw).2) (hts _ (lkQ_spec ok.1.1).1 (lkQ_spec ok.1.1).2) (hts _ (lkQ_spec ok.1.2).1 (lkQ_spec ok.1.2).2) (hts _ (lkQ_spec ok.2).1 (lkQ_spec ok.2).2) (by omega) (by rw [catS_eq]; omega) hcs.1 hcs.2 hd hk
theorem A_copy {x y z : Int32} {i q o0 o1 : Nat} (hd : decode (MB j) pc = .ok (.invokestatic i, 3)) (hw : lkQ q (.methodLink (MN j).cls i arraycopyName) = true) (hc8 : catS st ≤ 8) (h0 : (kd o0).1 = 1) (h1 : (kd o1).1 = 1) (g1 : ¬ x < 0) (g2 : ¬ y < 0) (g3 : ¬ z < 0) (g4 : x.toNatClampNeg + z.toNatClampNeg ≤ (kd o0).2.2) (g5 : y.toNatClampNeg + z.toNatClampNeg ≤ (kd o1).2.2)
    (K : A G d j (pc + 3) L st (wcpy M o0 o1 x.toNatClampNeg y.toNatClampNeg z.toNatClampNeg) Q) : A G d j pc L (.int z :: .int y :: .ref o1 :: .int x :: .ref o0 :: st) M Q := by
  intro p e R s m args below meth c H0 A0 cells slots QQ E H locs ls hP hS hl
  have hk := K p e R s m args below meth c H0 A0 cells slots QQ E
  have hat0 := simW_at (G := G) (M := M) (kd_lt (i := o0) (by rw [h0]; decide))
  rw [cellE_int h0] at hat0
  have hat1 := simW_at (G := G) (M := M) (kd_lt (i := o1) (by rw [h1]; decide))
  rw [cellE_int h1] at hat1
  obtain ⟨hxx, hbb, hml, hown, hts, hK, hR, hcs, hDi, hA, hX, hret⟩ := E
  have ok := ok_cpy
  simp only [Bool.and_eq_true] at ok
  refine va_copyi hxx hbb (by rw [hml, hl.1]) hown (hts _ (lkQ_spec hw).1 (lkQ_spec hw).2) (hts _ (lkQ_spec ok.1.1).1 (lkQ_spec ok.1.1).2) (hts _ (lkQ_spec ok.1.2).1 (lkQ_spec ok.1.2).2) (hts _ (lkQ_spec ok.2).1 (lkQ_spec ok.2).2) hK hP (simW_D hDi hA) hS o0 o1 0 0 hat0 hat1 rfl rfl rfl g1 g2 g3 g4 g5 (fun _ _ => rfl) (by omega) ?_ hd (fun H1 locs1 hP1 hD1 hS1 => ?_)
  · rw [catS_eq]
    have : nativeFrameWords "java/lang/System" "arraycopy" 5 ≤ 50 := by decide
    omega
  · rw [put_cpy h1] at hP1
    exact hk H1 locs1 ls hP1 hS1 hl
end STEP
