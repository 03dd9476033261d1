/-! EV: bytecode run over a world of places. Cell k of the world lies at address b + k of the heap; a reference in the world is a place. -/
def ev_fld (own x : Nat) : Option (Nat × Nat × Nat) := if x < 1000 then ev_look (own * 1000 + x) ev_fldL else none
def ev_mth (own x : Nat) : Option (Nat × Nat × Nat × Nat × Nat × Nat) := if x < 1000 then ev_look (own * 1000 + x) ev_mthL else none
def ev_cls (own x : Nat) : Option (Nat × Nat) := if x < 1000 then ev_look (own * 1000 + x) ev_clsL else none
def ev_con (own x : Nat) : Option (Value × Nat) := if x < 1000 then ev_look (own * 1000 + x) ev_conL else none
abbrev ev_W : Type := List va_E
/-- locals by place; .retAddr 0 where nothing is known -/
abbrev ev_L : Type := List Value
/-- pc, locals, stack, world, cells made, slots made -/
abbrev ev_F : Type := Nat × ev_L × List Value × ev_W × Nat × Nat
/-- answer, world, cells made, slots made -/
abbrev ev_R : Type := Option Value × ev_W × Nat × Nat
/-- calls, by the number of the method -/
abbrev ev_K : Type := Nat → List Value → ev_W → Option ev_R
def ev_kill (i : Nat) (lv : ev_L) : ev_L := match i with
  | 0 => lv
  | j + 1 => (match lv[j]? with
    | some (.long _) => lv.set j (.retAddr 0)
    | some (.double _) => lv.set j (.retAddr 0)
    | _ => lv)
def ev_put1 (i : Nat) (v : Value) (lv : ev_L) : ev_L := (ev_kill i lv).set i v
def ev_put2 (i : Nat) (v : Value) (lv : ev_L) : ev_L := ((ev_kill i lv).set i v).set (i + 1) (.retAddr 0)
/-- arithmetic -/
def ev_ibin (i : Instr) (x y : Int32) : Option Int32 := match i with
  | .iadd => some (x + y)
  | .isub => some (x - y)
  | .imul => some (x * y)
  | .iand => some (x &&& y)
  | .ior => some (x ||| y)
  | .ixor => some (x ^^^ y)
  | .ishl => some (x <<< (y &&& 31))
  | .iushr => some (x.toUInt32 >>> (y.toUInt32 &&& Int32.toUInt32 31)).toInt32
  | .idiv => if y = 0 then none else some (x / y)
  | .irem => if y = 0 then none else some (x - x / y * y)
  | _ => none
def ev_lbin (i : Instr) (x y : Int64) : Option Int64 := match i with
  | .ladd => some (x + y)
  | .lsub => some (x - y)
  | .lmul => some (x * y)
  | .land => some (x &&& y)
  | .lor => some (x ||| y)
  | .lxor => some (x ^^^ y)
  | .ldiv => if y = 0 then none else some (x / y)
  | _ => none
def ev_lsh (i : Instr) (x : Int64) (y : Int32) : Option Int64 := match i with
  | .lshl => some (x <<< (y.toInt64 &&& 63))
  | .lshr => some (x >>> (y.toInt64 &&& 63))
  | .lushr => some (x.toUInt64 >>> (y.toInt64.toUInt64 &&& Int64.toUInt64 63)).toInt64
  | _ => none
def ev_cond (c : Jvm.ClassFile.Cond) (x y : Int32) : Bool := match c with
  | .eq => decide (x = y)
  | .ne => decide (¬ x = y)
  | .lt => decide (x < y)
  | .ge => decide (y ≤ x)
  | .gt => decide (y < x)
  | .le => decide (x ≤ y)
/-- a value that a field of a type takes as it is -/
def ev_fit (ty : FieldType) (v : Value) : Bool := match ty, v with
  | .int, .int _ => true
  | .long, .long _ => true
  | .boolean, .int x => decide (x = 0) || decide (x = 1)
  | .object _, .null => true
  | .object _, .ref _ => true
  | .array _, .null => true
  | .array _, .ref _ => true
  | _, _ => false
/-- n values of a stack's top, the deepest first, and the rest -/
def ev_pop : Nat → List Value → List Value → Option (List Value × List Value)
  | 0, acc, st => some (acc, st)
  | n + 1, acc, v :: st => ev_pop n (v :: acc) st
  | _ + 1, _, [] => none
def ev_cat (st : List Value) : Nat := (st.map fun v => v.category).sum
def ev_ldi (j : Nat) (lv : ev_L) (st : List Value) : Option (ev_L × List Value) := match lv[j]? with
  | some (.int x) => some (lv, .int x :: st)
  | _ => none
def ev_ldl (j : Nat) (lv : ev_L) (st : List Value) : Option (ev_L × List Value) := match lv[j]? with
  | some (.long x) => some (lv, .long x :: st)
  | _ => none
def ev_lda (j : Nat) (lv : ev_L) (st : List Value) : Option (ev_L × List Value) := match lv[j]? with
  | some (.ref x) => some (lv, .ref x :: st)
  | _ => none
def ev_sti (nL j : Nat) (lv : ev_L) (st : List Value) : Option (ev_L × List Value) := match st with
  | .int x :: st => if j < nL then some (ev_put1 j (.int x) lv, st) else none
  | _ => none
def ev_stl (nL j : Nat) (lv : ev_L) (st : List Value) : Option (ev_L × List Value) := match st with
  | .long x :: st => if j + 1 < nL then some (ev_put2 j (.long x) lv, st) else none
  | _ => none
def ev_sta (nL j : Nat) (lv : ev_L) (st : List Value) : Option (ev_L × List Value) := match st with
  | .ref x :: st => if j < nL then some (ev_put1 j (.ref x) lv, st) else none
  | _ => none
def ev_inc (nL j : Nat) (z : Int) (lv : ev_L) (st : List Value) : Option (ev_L × List Value) := match lv[j]? with
  | some (.int x) => if j < nL then some (ev_put1 j (.int (x + Int32.ofInt z)) lv, st) else none
  | _ => none
def ev_bin (i : Instr) (lv : ev_L) (st : List Value) : Option (ev_L × List Value) := match st with
  | .int y :: .int x :: st => (ev_ibin i x y).map (fun z => (lv, .int z :: st))
  | .long y :: .long x :: st => (ev_lbin i x y).map (fun z => (lv, .long z :: st))
  | .int y :: .long x :: st => (ev_lsh i x y).map (fun z => (lv, .long z :: st))
  | _ => none
/-- a step on locals and stack alone; it goes on behind itself -/
def ev_p (own nL : Nat) (i : Instr) (len : Nat) (lv : ev_L) (st : List Value) : Option (ev_L × List Value) := match i with
  | .iconst z => if len = 1 then some (lv, .int (Int32.ofInt z) :: st) else none
  | .bipush z => if len = 2 then some (lv, .int (Int8.ofInt z).toInt32 :: st) else none
  | .sipush z => if len = 3 then some (lv, .int (Int16.ofInt z).toInt32 :: st) else none
  | .lconst z => if len = 1 then some (lv, .long (Int64.ofNat (z : Nat)) :: st) else none
  | .ldc x => if len = 2 then (match ev_con own x with
    | some (.int v, _) => some (lv, .int v :: st)
    | _ => none) else none
  | .ldc_w x => if len = 3 then (match ev_con own x with
    | some (.int v, _) => some (lv, .int v :: st)
    | _ => none) else none
  | .ldc2_w x => if len = 3 then (match ev_con own x with
    | some (.long v, _) => some (lv, .long v :: st)
    | _ => none) else none
  | .iload j => if len = 2 then ev_ldi j lv st else none
  | .iload_n j => if len = 1 then ev_ldi j lv st else none
  | .lload j => if len = 2 then ev_ldl j lv st else none
  | .lload_n j => if len = 1 then ev_ldl j lv st else none
  | .aload j => if len = 2 then ev_lda j lv st else none
  | .aload_n j => if len = 1 then ev_lda j lv st else none
  | .istore j => if len = 2 then ev_sti nL j lv st else none
  | .istore_n j => if len = 1 then ev_sti nL j lv st else none
  | .lstore j => if len = 2 then ev_stl nL j lv st else none
  | .lstore_n j => if len = 1 then ev_stl nL j lv st else none
  | .astore j => if len = 2 then ev_sta nL j lv st else none
  | .astore_n j => if len = 1 then ev_sta nL j lv st else none
  | .iinc j z => if len = 3 then ev_inc nL j z lv st else none
  | .lcmp => if len = 1 then (match st with
    | .long y :: .long x :: st => some (lv, .int (lg_cmp x y) :: st)
    | _ => none) else none
  | .i2l => if len = 1 then (match st with
    | .int x :: st => some (lv, .long x.toInt64 :: st)
    | _ => none) else none
  | .l2i => if len = 1 then (match st with
    | .long x :: st => some (lv, .int x.toInt32 :: st)
    | _ => none) else none
  | .dup => if len = 1 then (match st with
    | v :: st => if v.category = 1 then some (lv, v :: v :: st) else none
    | _ => none) else none
  | .dup2 => if len = 1 then (match st with
    | v :: u :: st => if v.category = 1 ∧ u.category = 1 then some (lv, v :: u :: v :: u :: st) else none
    | _ => none) else none
  | .pop => if len = 1 then (match st with
    | v :: st => if v.category = 1 then some (lv, st) else none
    | _ => none) else none
  | i => if len = 1 then ev_bin i lv st else none
/-- a branch: where it goes on -/
def ev_b (i : Instr) (len pc : Nat) (st : List Value) : Option (Nat × List Value) := match i with
  | .goto o => if len = 3 ∧ 0 ≤ (pc : Int) + o then some (((pc : Int) + o).toNat, st) else none
  | .ifCond c o => if len = 3 ∧ 0 ≤ (pc : Int) + o then (match st with
    | .int x :: st => some (if ev_cond c x 0 = true then ((pc : Int) + o).toNat else pc + 3, st)
    | _ => none) else none
  | .if_icmp c o => if len = 3 ∧ 0 ≤ (pc : Int) + o then (match st with
    | .int y :: .int x :: st => some (if ev_cond c x y = true then ((pc : Int) + o).toNat else pc + 3, st)
    | _ => none) else none
  | .tableswitch d lo hi os => (match st with
    | .int x :: st => if x.toInt < lo ∨ hi < x.toInt then (if 0 ≤ (pc : Int) + d then some (((pc : Int) + d).toNat, st) else none) else (match os[(x.toInt - lo).toNat]? with
      | some o => if 0 ≤ (pc : Int) + o then some (((pc : Int) + o).toNat, st) else none
      | none => none)
    | _ => none)
  | .lookupswitch d ps => (match st with
    | .int x :: st => if (ps.toList.zip (ps.toList.drop 1)).all (fun (a, next) => a.1 < next.1) = true ∧ 0 ≤ (pc : Int) + Op.lookupswitch.offset ps.toList d x.toInt then some (((pc : Int) + Op.lookupswitch.offset ps.toList d x.toInt).toNat, st) else none
    | _ => none)
  | _ => none
def ev_in (i : Int32) (n : Nat) : Bool := decide (¬ (i < 0 ∨ n ≤ i.toNatClampNeg))
/-- a field that the table names, of a cell -/
def ev_get (own x a : Nat) (w : ev_W) : Option Value := match ev_fld own x with
  | some (ci, k, _) => (match w[a]? with
    | some (.inr (cj, fs)) => if cj = ci then fs[k]? else none
    | _ => none)
  | none => none
def ev_set (own : Nat) (ini : Bool) (x a : Nat) (v : Value) (w : ev_W) : Option ev_W := match ev_fld own x with
  | some (ci, k, _) => (match w[a]?, (ev_cty ci)[k]? with
    | some (.inr (cj, fs)), some ty => if cj = ci ∧ k < fs.length ∧ ev_fit ty v = true ∧ (ev_fin ci k = true → ini = true ∧ own = ci) then some (w.set a (.inr (ci, fs.set k v))) else none
    | _, _ => none)
  | none => none
/-- an element of an array: of ints or booleans, of longs, of references -/
def ev_ai (ty : FieldType) (st : List Value) (w : ev_W) : Option (Value × List Value) := match st with
  | .int i :: .ref a :: st => (match w[a]? with
    | some (.inl (t, n, .inl f)) => if ev_atyL[t]? = some ty ∧ ev_in i n = true then some (.int (f i.toNatClampNeg), st) else none
    | _ => none)
  | _ => none
def ev_al (st : List Value) (w : ev_W) : Option (Value × List Value) := match st with
  | .int i :: .ref a :: st => (match w[a]? with
    | some (.inl (t, n, .inr (.inl f))) => if ev_atyL[t]? = some .long ∧ ev_in i n = true then some (.long (f i.toNatClampNeg), st) else none
    | _ => none)
  | _ => none
def ev_aa (st : List Value) (w : ev_W) : Option (Value × List Value) := match st with
  | .int i :: .ref a :: st => (match w[a]? with
    | some (.inl (t, n, .inr (.inr (.inr (.inr f))))) => (match ev_atyL[t]?, f i.toNatClampNeg with
      | some (.object _), some v => if ev_in i n = true then some (.ref v, st) else none
      | _, _ => none)
    | _ => none)
  | _ => none
def ev_si (ty : FieldType) (st : List Value) (w : ev_W) : Option (List Value × ev_W) := match st with
  | .int x :: .int i :: .ref a :: st => (match w[a]? with
    | some (.inl (t, n, .inl f)) => if ev_atyL[t]? = some ty ∧ ev_in i n = true then some (st, w.set a (.inl (t, n, .inl (upd f i.toNatClampNeg (vp_nar ty x))))) else none
    | _ => none)
  | _ => none
def ev_sl (st : List Value) (w : ev_W) : Option (List Value × ev_W) := match st with
  | .long x :: .int i :: .ref a :: st => (match w[a]? with
    | some (.inl (t, n, .inr (.inl f))) => if ev_atyL[t]? = some .long ∧ ev_in i n = true then some (st, w.set a (.inl (t, n, .inr (.inl (vp_updL f i.toNatClampNeg x))))) else none
    | _ => none)
  | _ => none
def ev_sa (st : List Value) (w : ev_W) : Option (List Value × ev_W) := match st with
  | .ref v :: .int i :: .ref a :: st => (match w[a]?, w[v]? with
    | some (.inl (t, n, .inr (.inr (.inr (.inr f))))), some (.inr (ci, _)) => (match ev_cl[ci]? with
      | some q => if ev_atyL[t]? = some (.object q.1) ∧ ev_in i n = true then some (st, w.set a (.inl (t, n, .inr (.inr (.inr (.inr (va_up f i.toNatClampNeg (some v)))))))) else none
      | none => none)
    | _, _ => none)
  | _ => none
def ev_alen (st : List Value) (w : ev_W) : Option (List Value) := match st with
  | .ref a :: st => (match w[a]? with
    | some (.inl (t, x)) => if t < ev_atyL.length then some (.int (Int32.ofNat x.1) :: st) else none
    | _ => none)
  | _ => none
/-- System.arraycopy, of ints or of longs -/
def ev_cpy (st : List Value) (w : ev_W) : Option (List Value × ev_W) := match st with
  | .int n :: .int dp :: .ref a1 :: .int sp :: .ref a0 :: st => if ¬ sp < 0 ∧ ¬ dp < 0 ∧ ¬ n < 0 ∧ ev_cat st ≤ 8 then (match w[a0]?, w[a1]? with
    | some (.inl (t0, n0, .inl f)), some (.inl (t1, n1, .inl g)) => if ev_atyL[t0]? = some .int ∧ ev_atyL[t1]? = some .int ∧ sp.toNatClampNeg + n.toNatClampNeg ≤ n0 ∧ dp.toNatClampNeg + n.toNatClampNeg ≤ n1 then some (st, w.set a1 (.inl (t1, n1, .inl (va_cpy f g sp.toNatClampNeg dp.toNatClampNeg n.toNatClampNeg)))) else none
    | some (.inl (t0, n0, .inr (.inl f))), some (.inl (t1, n1, .inr (.inl g))) => if ev_atyL[t0]? = some .long ∧ ev_atyL[t1]? = some .long ∧ sp.toNatClampNeg + n.toNatClampNeg ≤ n0 ∧ dp.toNatClampNeg + n.toNatClampNeg ≤ n1 then some (st, w.set a1 (.inl (t1, n1, .inr (.inl (va_cpy f g sp.toNatClampNeg dp.toNatClampNeg n.toNatClampNeg))))) else none
    | _, _ => none) else none
  | _ => none
/-- new cells -/
def ev_newa (t : Option Nat) (z : (Nat → Int32) ⊕ (Nat → Int64) ⊕ (Nat → UInt32) ⊕ (Nat → UInt64) ⊕ (Nat → Option Nat)) (st : List Value) (w : ev_W) : Option (List Value × ev_W × Nat × Nat) := match st, t with
  | .int n :: st, some t => if ¬ n < 0 ∧ n.toNatClampNeg ≤ 1000000 then some (.ref w.length :: st, w ++ [.inl (t, n.toNatClampNeg, z)], 1, n.toNatClampNeg) else none
  | _, _ => none
def ev_zero (ty : ArrayType) : Option (Nat × ((Nat → Int32) ⊕ (Nat → Int64) ⊕ (Nat → UInt32) ⊕ (Nat → UInt64) ⊕ (Nat → Option Nat))) := match ty with
  | .int => some (0, .inl (fun _ => 0))
  | .long => some (1, .inr (.inl (fun _ => 0)))
  | .boolean => some (2, .inl (fun _ => 0))
  | _ => none
def ev_new (own x : Nat) (st : List Value) (w : ev_W) : Option (List Value × ev_W × Nat × Nat) := match ev_cls own x with
  | some (ci, _) => if ci < ev_cl.length then some (.ref w.length :: st, w ++ [.inr (ci, (ev_cty ci).map defaultValue)], 1, (ev_cty ci).length) else none
  | none => none
def ev_arrT (ci : Nat) : Option Nat := match ci with
  | 5 => some 3
  | 9 => some 4
  | _ => none
/-- Math.max, Math.min -/
def ev_math (kd : Nat) (st : List Value) : Option (List Value) := match st with
  | .int y :: .int x :: st => if ev_cat st ≤ 8 then (if kd = 8 then some (.int (if x < y then y else x) :: st) else if kd = 9 then some (.int (if y < x then y else x) :: st) else none) else none
  | .long y :: .long x :: st => if ev_cat st ≤ 8 ∧ kd = 10 then some (.long (if y < x then y else x) :: st) else none
  | _ => none
/-- what a call leaves -/
def ev_back (st : List Value) (r : Option ev_R) : Option (List Value × ev_W × Nat × Nat) := r.map (fun r => (r.1.toList ++ st, r.2.1, r.2.2.1, r.2.2.2))
def ev_stat (K : ev_K) (own x : Nat) (st : List Value) (w : ev_W) : Option (List Value × ev_W × Nat × Nat) := match ev_mth own x with
  | some (kd, j, n, _) => if kd = 2 then (ev_cpy st w).map (fun q => (q.1, q.2, 0, 0)) else if 8 ≤ kd then (ev_math kd st).map (fun q => (q, w, 0, 0)) else if kd = 0 ∨ kd = 5 then (match ev_pop n [] st with
    | some (As, st) => if ev_cat st ≤ 8 then ev_back st (K j As w) else none
    | none => none) else none
  | none => none
def ev_virt (K : ev_K) (own x : Nat) (st : List Value) (w : ev_W) : Option (List Value × ev_W × Nat × Nat) := match ev_mth own x with
  | some (kd, j, n, _) => if kd = 3 ∨ kd = 6 then (match ev_pop n [] st with
    | some (As, .ref b :: st) => (match w[b]?, ev_mL[j]? with
      | some (.inr (ci, _)), some q => if ev_cat st ≤ 8 ∧ ci = q.1 then ev_back st (K j (.ref b :: As) w) else none
      | _, _ => none)
    | _ => none) else none
  | none => none
def ev_spec (K : ev_K) (own x : Nat) (st : List Value) (w : ev_W) : Option (List Value × ev_W × Nat × Nat) := match ev_mth own x with
  | some (kd, j, n, _) => if kd = 1 then (match st with
    | .ref _ :: st => if ev_cat st ≤ 8 then some (st, w, 0, 0) else none
    | _ => none) else if kd = 4 ∨ kd = 7 then (match ev_pop n [] st with
    | some (As, .ref b :: st) => if ev_cat st ≤ 8 then ev_back st (K j (.ref b :: As) w) else none
    | _ => none) else none
  | none => none
/-- a step on the heap; it goes on behind itself: stack, world, cells and slots made -/
def ev_h (K : ev_K) (own : Nat) (ini : Bool) (i : Instr) (len : Nat) (st : List Value) (w : ev_W) : Option (List Value × ev_W × Nat × Nat) := match i with
  | .getfield x => if len = 3 then (match st with
    | .ref a :: st => (ev_get own x a w).map (fun v => (v :: st, w, 0, 0))
    | _ => none) else none
  | .putfield x => if len = 3 then (match st with
    | v :: .ref a :: st => (ev_set own ini x a v w).map (fun w' => (st, w', 0, 0))
    | _ => none) else none
  | .iaload => if len = 1 then (ev_ai .int st w).map (fun q => (q.1 :: q.2, w, 0, 0)) else none
  | .baload => if len = 1 then (ev_ai .boolean st w).map (fun q => (q.1 :: q.2, w, 0, 0)) else none
  | .laload => if len = 1 then (ev_al st w).map (fun q => (q.1 :: q.2, w, 0, 0)) else none
  | .aaload => if len = 1 then (ev_aa st w).map (fun q => (q.1 :: q.2, w, 0, 0)) else none
  | .iastore => if len = 1 then (ev_si .int st w).map (fun q => (q.1, q.2, 0, 0)) else none
  | .bastore => if len = 1 then (ev_si .boolean st w).map (fun q => (q.1, q.2, 0, 0)) else none
  | .lastore => if len = 1 then (ev_sl st w).map (fun q => (q.1, q.2, 0, 0)) else none
  | .aastore => if len = 1 then (ev_sa st w).map (fun q => (q.1, q.2, 0, 0)) else none
  | .arraylength => if len = 1 then (ev_alen st w).map (fun q => (q, w, 0, 0)) else none
  | .newarray ty => if len = 2 then (match ev_zero ty with
    | some (t, z) => ev_newa (some t) z st w
    | none => none) else none
  | .anewarray x => if len = 3 then (match ev_cls own x with
    | some (ci, _) => ev_newa (ev_arrT ci) (.inr (.inr (.inr (.inr (fun _ => none))))) st w
    | none => none) else none
  | .new x => if len = 3 then ev_new own x st w else none
  | .invokestatic x => if len = 3 then ev_stat K own x st w else none
  | .invokevirtual x => if len = 3 then ev_virt K own x st w else none
  | .invokespecial x => if len = 3 then ev_spec K own x st w else none
  | _ => none
/-- a return -/
def ev_ret (ret : Option FieldType) (i : Instr) (len : Nat) (st : List Value) : Option (Option Value) := match i with
  | .return_ => if len = 1 ∧ ret = none ∧ st = [] then some none else none
  | .ireturn => if len = 1 then (match st with
    | [.int v] => if ret = some .int ∨ (ret = some .boolean ∧ (v = 0 ∨ v = 1)) then some (some (.int v)) else none
    | _ => none) else none
  | .lreturn => if len = 1 then (match st with
    | [.long v] => if ret = some .long then some (some (.long v)) else none
    | _ => none) else none
  | .areturn => if len = 1 then (match st with
    | [.ref v] => (match ret with
      | some (.object _) => some (some (.ref v))
      | _ => none)
    | _ => none) else none
  | _ => none
def ev_step (K : ev_K) (own nL : Nat) (ini : Bool) (ret : Option FieldType) (i : Instr) (len : Nat) (g : ev_F) : Option (ev_F ⊕ ev_R) := match ev_p own nL i len g.2.1 g.2.2.1 with
  | some q => some (.inl (g.1 + len, q.1, q.2, g.2.2.2))
  | none => (match ev_b i len g.1 g.2.2.1 with
    | some q => some (.inl (q.1, g.2.1, q.2, g.2.2.2))
    | none => (match ev_h K own ini i len g.2.2.1 g.2.2.2.1 with
      | some q => some (.inl (g.1 + len, g.2.1, q.1, q.2.1, g.2.2.2.2.1 + q.2.2.1, g.2.2.2.2.2 + q.2.2.2))
      | none => (match ev_ret ret i len g.2.2.1 with
        | some v => some (.inr (v, g.2.2.2))
        | none => none)))
def ev_go (K : ev_K) (own nL : Nat) (ini : Bool) (ret : Option FieldType) (cc : ByteArray) : Nat → ev_F → Option ev_R
  | 0, _ => none
  | f + 1, g => (match decode cc g.1 with
    | .ok (i, len) => (match ev_step K own nL ini ret i len g with
      | some (.inl g') => ev_go K own nL ini ret cc f g'
      | some (.inr r) => some r
      | none => none)
    | .error _ => none)
def ev_ent : List Value → ev_L
  | [] => []
  | v :: r => if v.category = 2 then v :: .retAddr 0 :: ev_ent r else v :: ev_ent r
def ev_pad (nL : Nat) (l : ev_L) : ev_L := l ++ List.replicate (nL - l.length) (.retAddr 0)
/-- a method by its number, at most d calls deep, with fuel f -/
def ev_m : Nat → Nat → ev_K
  | 0, _ => fun _ _ _ => none
  | d + 1, f => fun j args w => match ev_mL[j]? with
    | some (own, _, _, cc, nL, ret, ini, _) => if (ev_ent args).length ≤ nL then ev_go (ev_m d f) own nL ini ret cc f (0, ev_pad nL (ev_ent args), [], w, 0, 0) else none
    | none => none
