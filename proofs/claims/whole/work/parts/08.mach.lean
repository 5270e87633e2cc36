abbrev WM : Type := (Nat → Nat → Int32) × (Nat → Int64)
abbrev LC : Type := List (Option Value)
/-- launch; the tables' numbers; the addresses; the array classes; the script -/
abbrev GG : Type := Launch × va_G × (Nat → Nat) × ClassId × ClassId × Nat × (Nat → Int32)
def wg (M : WM) (i k : Nat) : Int32 := M.1 i k
def wl (M : WM) (i : Nat) : Int64 := M.2 i
def wset (M : WM) (i k : Nat) (v : Int32) : WM := (fun a b => if a = i ∧ b = k then v else M.1 a b, M.2)
def wsetL (M : WM) (i : Nat) (v : Int64) : WM := (M.1, fun a => if a = i then v else M.2 a)
def wcpy (M : WM) (i0 i1 sp dp n : Nat) : WM := (fun a b => if a = i1 then va_cpy (M.1 i0) (M.1 i1) sp dp n b else M.1 a b, M.2)
theorem wg_set (M : WM) (i k : Nat) (v : Int32) (a b : Nat) : wg (wset M i k v) a b = if a = i ∧ b = k then v else wg M a b := rfl
theorem wl_set (M : WM) (i k : Nat) (v : Int32) (a : Nat) : wl (wset M i k v) a = wl M a := rfl
theorem wg_setL (M : WM) (i : Nat) (v : Int64) (a b : Nat) : wg (wsetL M i v) a b = wg M a b := rfl
theorem wl_setL (M : WM) (i : Nat) (v : Int64) (a : Nat) : wl (wsetL M i v) a = if a = i then v else wl M a := rfl
theorem wg_cpy (M : WM) (i0 i1 sp dp n a b : Nat) : wg (wcpy M i0 i1 sp dp n) a b = if a = i1 then (if dp ≤ b ∧ b < dp + n then wg M i0 (sp + (b - dp)) else wg M i1 b) else wg M a b := rfl
theorem wl_cpy (M : WM) (i0 i1 sp dp n a : Nat) : wl (wcpy M i0 i1 sp dp n) a = wl M a := rfl
def cv (ad : Nat → Nat) : Value → Value
  | .ref i => .ref (ad i)
  | v => v
theorem cv_cat (ad : Nat → Nat) (v : Value) : (cv ad v).category = v.category := by cases v <;> rfl
def fkd (c k : Nat) : Nat := (FK c).getD k 9
def fv (M : WM) (i k : Nat) : Value := match fkd (kd i).2.1 k with
  | 1 => .long (wl M i)
  | 2 => (RT i).getD k .null
  | _ => .int (wg M i k)
def cellE (G : GG) (M : WM) (i : Nat) : va_E := match (kd i).1 with
  | 0 => .inr ((kd i).2.1, (List.range (NF (kd i).2.1)).map (fun k => cv G.2.2.1 (fv M i k)))
  | 1 => .inl (G.2.2.2.1, (kd i).2.2, .inl (wg M i))
  | _ => .inl (G.2.2.2.2.1, (kd i).2.2, .inl (wg M i))
def simW (G : GG) (M : WM) : va_W := (List.range 61).map (fun i => (G.2.2.1 i, cellE G M i))
def tysG (G : GG) : List (ClassId × FieldType) := [(G.2.2.2.1, .int), (G.2.2.2.2.1, .boolean)]
/-- the locals: all of one word -/
def lvR (ad : Nat → Nat) (ls : Array Slot) (nL : Nat) (L : LC) : Prop := ls.size = nL ∧ lv_wf ls ∧ L.length = nL ∧ ∀ (i : Nat) (v : Value), L[i]? = some (some v) → v.category = 1 ∧ ls[i]? = some (.val (cv ad v))
/-- which return instruction gives this answer -/
def retD (bytes : ByteArray) (pc : Nat) (v : Option Value) : Prop := match v with
  | none => decode bytes pc = .ok (.return_, 1)
  | some (.int _) => decode bytes pc = .ok (.ireturn, 1)
  | some (.long _) => decode bytes pc = .ok (.lreturn, 1)
  | _ => False
def retT (rt : Option FieldType) (v : Option Value) : Prop := match rt, v with
  | none, none => True
  | some .int, some (.int _) => True
  | some .boolean, some (.int x) => narrow .boolean (.int x) = .int x
  | some .long, some (.long _) => True
  | _, _ => False
def EnvOK (G : GG) (d j : Nat) (Q : Option Value → WM → Prop) (p : Program) (e : Env) (R : Room) (s : State) (m : MethodId) (args : Array Value) (below : List Frame) (meth : Method) (c : Code) (H0 : Heap) (A0 : Nat → Prop) (cells slots : Nat) (QQ : State → Prop) : Prop :=
  p.tables.exec = Jvm.exec ∧ c.code = MB j ∧ c.maxLocals = ML j ∧ s.vm.findClass (MN j).cls = some m.cls ∧ (∀ w ∈ lw_tbl, goodWord w = true → w.before args s = true) ∧ va_K G.2.1 vwCl (tysG G) s ∧
  (d + 1 ≤ R.frames ∧ 80 * (d + 1) ≤ R.locals) ∧ (cells ≤ R.cells ∧ slots ≤ R.slots) ∧ (∀ i k, i < 61 → k < 61 → G.2.2.1 i = G.2.2.1 k → i = k) ∧ (∀ i, i < 61 → A0 (G.2.2.1 i)) ∧ (va_X (G.2.2.1 61) G.2.2.2.2.2.1 G.2.2.2.2.2.2 s H0 ∧ G.2.2.1 61 < H0.size ∧ ¬ A0 (G.2.2.1 61)) ∧
  ∀ (pc : Nat) (H : Heap) (locs : List Loc) (ls : Array Slot) (v : Option Value) (M : WM), Q v M → retD (MB j) pc v → retT (MR j) v → va_P G.2.1 vwCl (simW G M) H → va_S A0 H0 H locs → W p G.1 e R s m args below meth c H locs cells slots QQ (F0 m pc ls (v.toList.map (cv G.2.2.1)))
/-- from here the method comes to its end with Q -/
def A (G : GG) (d j pc : Nat) (L : LC) (st : List Value) (M : WM) (Q : Option Value → WM → Prop) : Prop :=
  ∀ (p : Program) (e : Env) (R : Room) (s : State) (m : MethodId) (args : Array Value) (below : List Frame) (meth : Method) (c : Code) (H0 : Heap) (A0 : Nat → Prop) (cells slots : Nat) (QQ : State → Prop),
    EnvOK G d j Q p e R s m args below meth c H0 A0 cells slots QQ → ∀ (H : Heap) (locs : List Loc) (ls : Array Slot), va_P G.2.1 vwCl (simW G M) H → va_S A0 H0 H locs → lvR G.2.2.1 ls (ML j) L →
      W p G.1 e R s m args below meth c H locs cells slots QQ (F0 m pc ls (st.map (cv G.2.2.1)))
/-- a method called: from the arguments As in the world M it answers r and leaves the world M' -/
def Fr (G : GG) (d j : Nat) (As : List Value) (M : WM) (P : Option Value → WM → Prop) : Prop := A G d j 0 (As.map some ++ List.replicate (ML j - As.length) none) [] M P
def Fn (G : GG) (d j : Nat) (As : List Value) (M : WM) (r : Option Value) (M' : WM) : Prop := Fr G d j As M (fun r' M2 => r' = r ∧ M2 = M')
def memN (x : Nat) : List Nat → Bool
  | [] => false
  | y :: l => bif Nat.beq x y then true else memN x l
def gp (cuts : List Nat) (pc : Nat) (K1 K2 : Prop) : Prop := bif memN pc cuts then (True ∧ K1) else K2
def swT (x : Int32) (K : Nat → Prop) : Int → List Nat → Prop
  | _, [] => True
  | lo, t :: ts => (x = ci lo → K t) ∧ swT x K (lo + 1) ts
def lkT (x : Int32) (K : Nat → Prop) (d : Nat) : List (Int × Nat) → Prop
  | [] => K d
  | (k, t) :: r => (x = ci k → K t) ∧ (¬ x = ci k → lkT x K d r)
def catS : List Value → Nat
  | [] => 0
  | v :: l => v.category + catS l
def c1L : List Value → Bool
  | [] => true
  | v :: l => Nat.beq v.category 1 && c1L l
def isB (x : Int32) : Prop := x = nI 0 ∨ x = nI 1
def brK (k : ClassFile.Cond) (x y : Int32) (K1 K2 : Prop) : Prop := match k with
  | .eq => (x = y → K1) ∧ (¬ x = y → K2)
  | .ne => (¬ x = y → K1) ∧ (x = y → K2)
  | .lt => (x < y → K1) ∧ (¬ x < y → K2)
  | .ge => (y ≤ x → K1) ∧ (¬ y ≤ x → K2)
  | .gt => (y < x → K1) ∧ (¬ y < x → K2)
  | .le => (x ≤ y → K1) ∧ (¬ x ≤ y → K2)
/-- what is left to show at (pc, L, st, M): the code is run as far as it goes without a cut -/
def wp1 (G : GG) (d j : Nat) (cd : Nat → Leaf) (cuts : List Nat) (Q : Option Value → WM → Prop) (W : Nat → LC → List Value → WM → Prop) (pc : Nat) (L : LC) (st : List Value) (M : WM) : Prop := match cd pc with
    | (i, a, b, _) => match i with
      | .aload_n k => match L[k.val]? with
        | some (some (.ref x)) => gp cuts (pc + 1) (A G d j (pc + 1) L (.ref x :: st) M Q) (W (pc + 1) L (.ref x :: st) M)
        | _ => False
      | .aload k => match L[k]? with
        | some (some (.ref x)) => gp cuts (pc + 2) (A G d j (pc + 2) L (.ref x :: st) M Q) (W (pc + 2) L (.ref x :: st) M)
        | _ => False
      | .iload_n k => match L[k.val]? with
        | some (some (.int x)) => gp cuts (pc + 1) (A G d j (pc + 1) L (.int x :: st) M Q) (W (pc + 1) L (.int x :: st) M)
        | _ => False
      | .iload k => match L[k]? with
        | some (some (.int x)) => gp cuts (pc + 2) (A G d j (pc + 2) L (.int x :: st) M Q) (W (pc + 2) L (.int x :: st) M)
        | _ => False
      | .istore_n k => match st with
        | .int x :: st => bif Nat.blt k.val L.length then gp cuts (pc + 1) (A G d j (pc + 1) (L.set k.val (some (.int x))) st M Q) (W (pc + 1) (L.set k.val (some (.int x))) st M) else False
        | _ => False
      | .istore k => match st with
        | .int x :: st => bif Nat.blt k L.length then gp cuts (pc + 2) (A G d j (pc + 2) (L.set k (some (.int x))) st M Q) (W (pc + 2) (L.set k (some (.int x))) st M) else False
        | _ => False
      | .iinc k _ => match L[k]? with
        | some (some (.int x)) => bif Nat.beq b 0 then gp cuts (pc + 3) (A G d j (pc + 3) (L.set k (some (.int (x + nI a)))) st M Q) (W (pc + 3) (L.set k (some (.int (x + nI a)))) st M) else gp cuts (pc + 3) (A G d j (pc + 3) (L.set k (some (.int (x - nI b)))) st M Q) (W (pc + 3) (L.set k (some (.int (x - nI b)))) st M)
        | _ => False
      | .iconst _ => bif Nat.beq b 0 then gp cuts (pc + 1) (A G d j (pc + 1) L (.int (nI a) :: st) M Q) (W (pc + 1) L (.int (nI a) :: st) M) else gp cuts (pc + 1) (A G d j (pc + 1) L (.int (mI b) :: st) M Q) (W (pc + 1) L (.int (mI b) :: st) M)
      | .bipush _ => bif Nat.beq b 0 then gp cuts (pc + 2) (A G d j (pc + 2) L (.int (nI a) :: st) M Q) (W (pc + 2) L (.int (nI a) :: st) M) else gp cuts (pc + 2) (A G d j (pc + 2) L (.int (mI b) :: st) M Q) (W (pc + 2) L (.int (mI b) :: st) M)
      | .sipush _ => bif Nat.beq b 0 then gp cuts (pc + 3) (A G d j (pc + 3) L (.int (nI a) :: st) M Q) (W (pc + 3) L (.int (nI a) :: st) M) else gp cuts (pc + 3) (A G d j (pc + 3) L (.int (mI b) :: st) M Q) (W (pc + 3) L (.int (mI b) :: st) M)
      | .ldc _ => bif Nat.beq b 0 then gp cuts (pc + 2) (A G d j (pc + 2) L (.int (nI a) :: st) M Q) (W (pc + 2) L (.int (nI a) :: st) M) else gp cuts (pc + 2) (A G d j (pc + 2) L (.int (mI b) :: st) M Q) (W (pc + 2) L (.int (mI b) :: st) M)
      | .ldc_w _ => bif Nat.beq b 0 then gp cuts (pc + 3) (A G d j (pc + 3) L (.int (nI a) :: st) M Q) (W (pc + 3) L (.int (nI a) :: st) M) else gp cuts (pc + 3) (A G d j (pc + 3) L (.int (mI b) :: st) M Q) (W (pc + 3) L (.int (mI b) :: st) M)
      | .ldc2_w _ => gp cuts (pc + 3) (A G d j (pc + 3) L (.long (Int64.ofNat a) :: st) M Q) (W (pc + 3) L (.long (Int64.ofNat a) :: st) M)
      | .lconst z => gp cuts (pc + 1) (A G d j (pc + 1) L (.long (Int64.ofNat z.val) :: st) M Q) (W (pc + 1) L (.long (Int64.ofNat z.val) :: st) M)
      | .dup => match st with
        | .int x :: st => gp cuts (pc + 1) (A G d j (pc + 1) L (.int x :: .int x :: st) M Q) (W (pc + 1) L (.int x :: .int x :: st) M)
        | .ref x :: st => gp cuts (pc + 1) (A G d j (pc + 1) L (.ref x :: .ref x :: st) M Q) (W (pc + 1) L (.ref x :: .ref x :: st) M)
        | _ => False
      | .dup2 => match st with
        | .int x :: .ref y :: st => gp cuts (pc + 1) (A G d j (pc + 1) L (.int x :: .ref y :: .int x :: .ref y :: st) M Q) (W (pc + 1) L (.int x :: .ref y :: .int x :: .ref y :: st) M)
        | _ => False
      | .pop => match st with
        | .int _ :: st => gp cuts (pc + 1) (A G d j (pc + 1) L st M Q) (W (pc + 1) L st M)
        | _ => False
      | .iadd => match st with
        | .int y :: .int x :: st => gp cuts (pc + 1) (A G d j (pc + 1) L (.int (x + y) :: st) M Q) (W (pc + 1) L (.int (x + y) :: st) M)
        | _ => False
      | .isub => match st with
        | .int y :: .int x :: st => gp cuts (pc + 1) (A G d j (pc + 1) L (.int (x - y) :: st) M Q) (W (pc + 1) L (.int (x - y) :: st) M)
        | _ => False
      | .imul => match st with
        | .int y :: .int x :: st => gp cuts (pc + 1) (A G d j (pc + 1) L (.int (x * y) :: st) M Q) (W (pc + 1) L (.int (x * y) :: st) M)
        | _ => False
      | .iand => match st with
        | .int y :: .int x :: st => gp cuts (pc + 1) (A G d j (pc + 1) L (.int (x &&& y) :: st) M Q) (W (pc + 1) L (.int (x &&& y) :: st) M)
        | _ => False
      | .ior => match st with
        | .int y :: .int x :: st => gp cuts (pc + 1) (A G d j (pc + 1) L (.int (x ||| y) :: st) M Q) (W (pc + 1) L (.int (x ||| y) :: st) M)
        | _ => False
      | .ixor => match st with
        | .int y :: .int x :: st => gp cuts (pc + 1) (A G d j (pc + 1) L (.int (x ^^^ y) :: st) M Q) (W (pc + 1) L (.int (x ^^^ y) :: st) M)
        | _ => False
      | .ishl => match st with
        | .int y :: .int x :: st => gp cuts (pc + 1) (A G d j (pc + 1) L (.int (x <<< (y &&& 31)) :: st) M Q) (W (pc + 1) L (.int (x <<< (y &&& 31)) :: st) M)
        | _ => False
      | .ishr => match st with
        | .int y :: .int x :: st => gp cuts (pc + 1) (A G d j (pc + 1) L (.int (x >>> (y &&& 31)) :: st) M Q) (W (pc + 1) L (.int (x >>> (y &&& 31)) :: st) M)
        | _ => False
      | .iushr => match st with
        | .int y :: .int x :: st => gp cuts (pc + 1) (A G d j (pc + 1) L (.int ((x.toUInt32 >>> (y.toUInt32 &&& Int32.toUInt32 31)).toInt32) :: st) M Q) (W (pc + 1) L (.int ((x.toUInt32 >>> (y.toUInt32 &&& Int32.toUInt32 31)).toInt32) :: st) M)
        | _ => False
      | .idiv => match st with
        | .int y :: .int x :: st => ¬ y = 0 ∧ gp cuts (pc + 1) (A G d j (pc + 1) L (.int (x / y) :: st) M Q) (W (pc + 1) L (.int (x / y) :: st) M)
        | _ => False
      | .irem => match st with
        | .int y :: .int x :: st => ¬ y = 0 ∧ gp cuts (pc + 1) (A G d j (pc + 1) L (.int (x - x / y * y) :: st) M Q) (W (pc + 1) L (.int (x - x / y * y) :: st) M)
        | _ => False
      | .ladd => match st with
        | .long y :: .long x :: st => gp cuts (pc + 1) (A G d j (pc + 1) L (.long (x + y) :: st) M Q) (W (pc + 1) L (.long (x + y) :: st) M)
        | _ => False
      | .lcmp => match st with
        | .long y :: .long x :: st => gp cuts (pc + 1) (A G d j (pc + 1) L (.int (lg_cmp x y) :: st) M Q) (W (pc + 1) L (.int (lg_cmp x y) :: st) M)
        | _ => False
      | .getfield _ => match st with
        | .ref o :: st => bif Nat.beq (kd o).1 0 && Nat.beq (kd o).2.1 a then (match fv M o b with
          | .int x => gp cuts (pc + 3) (A G d j (pc + 3) L (.int x :: st) M Q) (W (pc + 3) L (.int x :: st) M)
          | .long x => gp cuts (pc + 3) (A G d j (pc + 3) L (.long x :: st) M Q) (W (pc + 3) L (.long x :: st) M)
          | .ref x => gp cuts (pc + 3) (A G d j (pc + 3) L (.ref x :: st) M Q) (W (pc + 3) L (.ref x :: st) M)
          | _ => False) else False
        | _ => False
      | .putfield _ => match st with
        | .int x :: .ref o :: st => bif Nat.beq (kd o).1 0 && Nat.beq (kd o).2.1 a then (bif Nat.beq (fkd a b) 0 then gp cuts (pc + 3) (A G d j (pc + 3) L st (wset M o b x) Q) (W (pc + 3) L st (wset M o b x))
            else bif Nat.beq (fkd a b) 3 then (isB x ∧ gp cuts (pc + 3) (A G d j (pc + 3) L st (wset M o b x) Q) (W (pc + 3) L st (wset M o b x))) else False) else False
        | .long x :: .ref o :: st => bif Nat.beq (kd o).1 0 && Nat.beq (kd o).2.1 a && Nat.beq (fkd a b) 1 then gp cuts (pc + 3) (A G d j (pc + 3) L st (wsetL M o x) Q) (W (pc + 3) L st (wsetL M o x)) else False
        | _ => False
      | .iaload => match st with
        | .int x :: .ref o :: st => bif Nat.beq o 61 then (vp_in x G.2.2.2.2.2.1 ∧ gp cuts (pc + 1) (A G d j (pc + 1) L (.int (G.2.2.2.2.2.2 x.toNatClampNeg) :: st) M Q) (W (pc + 1) L (.int (G.2.2.2.2.2.2 x.toNatClampNeg) :: st) M))
            else match kd o with | (k, _, z) => bif Nat.beq k 1 then (vp_in x z ∧ gp cuts (pc + 1) (A G d j (pc + 1) L (.int (wg M o x.toNatClampNeg) :: st) M Q) (W (pc + 1) L (.int (wg M o x.toNatClampNeg) :: st) M)) else False
        | _ => False
      | .baload => match st with
        | .int x :: .ref o :: st => match kd o with | (k, _, z) => bif Nat.beq k 2 then (vp_in x z ∧ gp cuts (pc + 1) (A G d j (pc + 1) L (.int (wg M o x.toNatClampNeg) :: st) M Q) (W (pc + 1) L (.int (wg M o x.toNatClampNeg) :: st) M)) else False
        | _ => False
      | .iastore => match st with
        | .int v :: .int x :: .ref o :: st => match kd o with | (k, _, z) => bif Nat.beq k 1 then (vp_in x z ∧ gp cuts (pc + 1) (A G d j (pc + 1) L st (wset M o x.toNatClampNeg v) Q) (W (pc + 1) L st (wset M o x.toNatClampNeg v))) else False
        | _ => False
      | .bastore => match st with
        | .int v :: .int x :: .ref o :: st => match kd o with | (k, _, z) => bif Nat.beq k 2 then (vp_in x z ∧ gp cuts (pc + 1) (A G d j (pc + 1) L st (wset M o x.toNatClampNeg (vp_nar .boolean v)) Q) (W (pc + 1) L st (wset M o x.toNatClampNeg (vp_nar .boolean v)))) else False
        | _ => False
      | .arraylength => match st with
        | .ref o :: st => bif Nat.beq o 61 then gp cuts (pc + 1) (A G d j (pc + 1) L (.int (nI G.2.2.2.2.2.1) :: st) M Q) (W (pc + 1) L (.int (nI G.2.2.2.2.2.1) :: st) M)
            else match kd o with | (k, _, z) => bif Nat.beq k 1 then gp cuts (pc + 1) (A G d j (pc + 1) L (.int (nI z) :: st) M Q) (W (pc + 1) L (.int (nI z) :: st) M) else False
        | _ => False
      | .if_icmp k _ => match st with
        | .int y :: .int x :: st => brK k x y (gp cuts (a) (A G d j (a) L st M Q) (W (a) L st M)) (gp cuts (pc + 3) (A G d j (pc + 3) L st M Q) (W (pc + 3) L st M))
        | _ => False
      | .ifCond k _ => match st with
        | .int x :: st => brK k x (nI 0) (gp cuts (a) (A G d j (a) L st M Q) (W (a) L st M)) (gp cuts (pc + 3) (A G d j (pc + 3) L st M Q) (W (pc + 3) L st M))
        | _ => False
      | .goto _ => gp cuts a (A G d j a L st M Q) (W a L st M)
      | .tableswitch dflt lo hi offs => match st with
        | .int x :: st => swT x (fun t => gp cuts t (A G d j t L st M Q) (W t L st M)) lo (offs.toList.map (fun o => ((pc : Int) + o).toNat)) ∧
            (x.toInt < lo ∨ hi < x.toInt → gp cuts ((pc : Int) + dflt).toNat (A G d j ((pc : Int) + dflt).toNat L st M Q) (W ((pc : Int) + dflt).toNat L st M))
        | _ => False
      | .lookupswitch dflt ps => match st with
        | .int x :: st => lkT x (fun t => gp cuts t (A G d j t L st M Q) (W t L st M)) ((pc : Int) + dflt).toNat (ps.toList.map (fun o => (o.1, ((pc : Int) + o.2).toNat)))
        | _ => False
      | .invokevirtual _ => match d with
        | 0 => False
        | d2 + 1 => match st.drop b with
          | .ref o :: rest => bif Nat.beq (kd o).1 0 && Nat.beq (kd o).2.1 (MK a) && Nat.ble (catS rest) 8 && c1L (st.take b) then
              ∃ (P : Option Value → WM → Prop), Fr G d2 a (.ref o :: (st.take b).reverse) M P ∧ ∀ (r : Option Value) (M' : WM), P r M' → gp cuts (pc + 3) (A G d j (pc + 3) L (r.toList ++ rest) M' Q) (W (pc + 3) L (r.toList ++ rest) M') else False
          | _ => False
      | .invokestatic _ => bif Nat.beq a 999 then (match st with
          | .int z :: .int y :: .ref o1 :: .int x :: .ref o0 :: st => match kd o0, kd o1 with | (k0, _, z0), (k1, _, z1) => bif Nat.beq k0 1 && Nat.beq k1 1 && Nat.ble (catS st) 8 then
              (¬ x < nI 0 ∧ ¬ y < nI 0 ∧ ¬ z < nI 0 ∧ x.toNatClampNeg + z.toNatClampNeg ≤ z0 ∧ y.toNatClampNeg + z.toNatClampNeg ≤ z1) ∧ gp cuts (pc + 3) (A G d j (pc + 3) L st (wcpy M o0 o1 x.toNatClampNeg y.toNatClampNeg z.toNatClampNeg) Q) (W (pc + 3) L st (wcpy M o0 o1 x.toNatClampNeg y.toNatClampNeg z.toNatClampNeg)) else False
          | _ => False) else bif Nat.beq a 998 then (match st with
          | .int y :: .int x :: st => bif Nat.ble (catS st) 8 then gp cuts (pc + 3) (A G d j (pc + 3) L (.int (if x < y then y else x) :: st) M Q) (W (pc + 3) L (.int (if x < y then y else x) :: st) M) else False
          | _ => False) else bif Nat.beq a 997 then (match st with
          | .int y :: .int x :: st => bif Nat.ble (catS st) 8 then gp cuts (pc + 3) (A G d j (pc + 3) L (.int (if y < x then y else x) :: st) M Q) (W (pc + 3) L (.int (if y < x then y else x) :: st) M) else False
          | _ => False) else (match d with
        | 0 => False
        | d2 + 1 => bif Nat.ble (catS (st.drop b)) 8 && c1L (st.take b) && Nat.beq (st.take b).length b then
              ∃ (P : Option Value → WM → Prop), Fr G d2 a (st.take b).reverse M P ∧ ∀ (r : Option Value) (M' : WM), P r M' → gp cuts (pc + 3) (A G d j (pc + 3) L (r.toList ++ st.drop b) M' Q) (W (pc + 3) L (r.toList ++ st.drop b) M') else False)
      | .ireturn => match st with
        | [.int x] => (match MR j with
          | some .int => Q (some (.int x)) M
          | some .boolean => isB x ∧ Q (some (.int x)) M
          | _ => False)
        | _ => False
      | .lreturn => match st with
        | [.long x] => (match MR j with
          | some .long => Q (some (.long x)) M
          | _ => False)
        | _ => False
      | .return_ => match st with
        | [] => (match MR j with
          | none => Q none M
          | _ => False)
        | _ => False
      | _ => False
def wp (G : GG) (d j : Nat) (cd : Nat → Leaf) (cuts : List Nat) (Q : Option Value → WM → Prop) : Nat → Nat → LC → List Value → WM → Prop
  | 0 => fun pc L st M => A G d j pc L st M Q
  | n + 1 => wp1 G d j cd cuts Q (wp G d j cd cuts Q n)
