/-! A SMALL MACHINE: methods run over an abstract heap (a row of tags and lengths, and three functions: ints, references, longs). Its steps are sound for the machine of the Statement (part 05). -/
abbrev mjM : Type := List (Nat × Nat)
abbrev mjI : Type := Nat → Nat → Int32
abbrev mjR : Type := Nat → Nat → Option Nat
abbrev mjJ : Type := Nat → Nat → Int64
abbrev mjH : Type := mjM × mjI × mjR × mjJ
abbrev mjC : Type := Nat × List (Option Value) × List Value × mjH
abbrev mjE : Type := Instr × Nat × List Nat
def mj_ui (f : mjI) (a i : Nat) (x : Int32) : mjI := fun b => if b = a then upd (f a) i x else f b
def mj_ur (f : mjR) (a i : Nat) (x : Option Nat) : mjR := fun b => if b = a then va_up (f a) i x else f b
def mj_uj (f : mjJ) (a i : Nat) (x : Int64) : mjJ := fun b => if b = a then vp_updL (f a) i x else f b
def mj_row (f : mjI) (a : Nat) (g : Nat → Int32) : mjI := fun b => if b = a then g else f b
def mj_rowR (f : mjR) (a : Nat) (g : Nat → Option Nat) : mjR := fun b => if b = a then g else f b
def mj_rowJ (f : mjJ) (a : Nat) (g : Nat → Int64) : mjJ := fun b => if b = a then g else f b
def mj_rows (f : mjI) (a n : Nat) : mjI := fun b => if a ≤ b ∧ b < a + n then (fun _ => 0) else f b
/-! locals -/
def mj_get : Nat → List (Option Value) → Option Value
  | _, [] => none
  | 0, x :: _ => x
  | i + 1, _ :: xs => mj_get i xs
def mj_set {α : Type} (v : Option Value) : Nat → List (Option Value) → (List (Option Value) → Option α) → Option α
  | _, [], _ => none
  | 0, _ :: xs, k => k (v :: xs)
  | i + 1, x :: xs, k => mj_set v i xs (fun ys => k (x :: ys))
def mj_lg : Option Value → Bool
  | some (.long _) => false
  | some (.double _) => false
  | _ => true
def mj_pl : Nat → List (Option Value) → Bool
  | _, [] => true
  | 0, _ => true
  | 1, x :: _ => mj_lg x
  | i + 2, _ :: xs => mj_pl (i + 1) xs
def mj_mt : Nat → mjM → Option (Nat × Nat)
  | _, [] => none
  | 0, x :: _ => some x
  | i + 1, _ :: xs => mj_mt i xs
def mj_at : Nat → List (Option mjE) → Option mjE
  | _, [] => none
  | 0, x :: _ => x
  | i + 1, _ :: xs => mj_at i xs
def mj_any (t : Nat) : List Nat → Bool
  | [] => false
  | c :: cs => match Nat.beq c t with
    | true => true
    | false => mj_any t cs
def mj_sel (t : Nat) : List Nat → Option Nat
  | c :: m :: cs => match Nat.beq c t with
    | true => some m
    | false => mj_sel t cs
  | _ => none
def mj_pop {α : Type} : Nat → List Value → List Value → (List Value → List Value → Option α) → Option α
  | 0, st, acc, k => k acc st
  | n + 1, v :: st, acc, k => mj_pop n st (v :: acc) k
  | _ + 1, [], _, _ => none
def mj_sum : List Value → Nat
  | [] => 0
  | v :: st => v.category + mj_sum st
abbrev mjO : Type := Option (Option Prop × mjC)
def mj_st1 (n i : Nat) (v : Value) (ls : List (Option Value)) (st : List Value) (m : mjM) (I : mjI) (R : mjR) (J : mjJ) : mjO := match mj_pl i ls with
  | true => mj_set (some v) i ls (fun ls' => some (none, n, ls', st, m, I, R, J))
  | false => none
def mj_st2 (n i : Nat) (v : Value) (ls : List (Option Value)) (st : List Value) (m : mjM) (I : mjI) (R : mjR) (J : mjJ) : mjO := match mj_pl i ls with
  | true => mj_set (some v) i ls (fun l1 => mj_set none (i + 1) l1 (fun l2 => some (none, n, l2, st, m, I, R, J)))
  | false => none
def mj_ild (n i : Nat) (ls : List (Option Value)) (st : List Value) (m : mjM) (I : mjI) (R : mjR) (J : mjJ) : mjO := match mj_get i ls with
  | some (.int x) => some (none, n, ls, .int x :: st, m, I, R, J)
  | _ => none
def mj_lld (n i : Nat) (ls : List (Option Value)) (st : List Value) (m : mjM) (I : mjI) (R : mjR) (J : mjJ) : mjO := match mj_get i ls with
  | some (.long x) => some (none, n, ls, .long x :: st, m, I, R, J)
  | _ => none
def mj_ald (n i : Nat) (ls : List (Option Value)) (st : List Value) (m : mjM) (I : mjI) (R : mjR) (J : mjJ) : mjO := match mj_get i ls with
  | some (.ref x) => some (none, n, ls, .ref x :: st, m, I, R, J)
  | some .null => some (none, n, ls, .null :: st, m, I, R, J)
  | _ => none
def mj_ist (n i : Nat) (ls : List (Option Value)) (st : List Value) (m : mjM) (I : mjI) (R : mjR) (J : mjJ) : mjO := match st with
  | .int x :: st => mj_st1 n i (.int x) ls st m I R J
  | _ => none
def mj_lst (n i : Nat) (ls : List (Option Value)) (st : List Value) (m : mjM) (I : mjI) (R : mjR) (J : mjJ) : mjO := match st with
  | .long x :: st => mj_st2 n i (.long x) ls st m I R J
  | _ => none
def mj_ast (n i : Nat) (ls : List (Option Value)) (st : List Value) (m : mjM) (I : mjI) (R : mjR) (J : mjJ) : mjO := match st with
  | .ref x :: st => mj_st1 n i (.ref x) ls st m I R J
  | .null :: st => mj_st1 n i .null ls st m I R J
  | _ => none
def mj_cst (n : Nat) (d : List Nat) (v : Int32) (ls : List (Option Value)) (st : List Value) (m : mjM) (I : mjI) (R : mjR) (J : mjJ) : mjO := match d with
  | [k] => some (none, n, ls, .int (nI k) :: st, m, I, R, J)
  | _ => some (none, n, ls, .int v :: st, m, I, R, J)
/-! fields: data = place, type (0 int, 1 boolean, 2 reference, 3 long), tags -/
def mj_gf (n : Nat) (d : List Nat) (ls : List (Option Value)) (st : List Value) (m : mjM) (I : mjI) (R : mjR) (J : mjJ) : mjO := match d, st with
  | k :: ty :: cs, .ref a :: st => match mj_mt a m with
    | some (t, _) => match mj_any t cs with
      | true => match ty with
        | 0 => some (none, n, ls, .int (I a k) :: st, m, I, R, J)
        | 1 => some (none, n, ls, .int (I a k) :: st, m, I, R, J)
        | 2 => match R a k with
          | some b => some (none, n, ls, .ref b :: st, m, I, R, J)
          | none => some (none, n, ls, .null :: st, m, I, R, J)
        | 3 => some (none, n, ls, .long (J a k) :: st, m, I, R, J)
        | _ => none
      | false => none
    | none => none
  | _, _ => none
def mj_pf (n : Nat) (d : List Nat) (ls : List (Option Value)) (st : List Value) (m : mjM) (I : mjI) (R : mjR) (J : mjJ) : mjO := match d, st with
  | k :: ty :: cs, v :: .ref a :: st => match mj_mt a m with
    | some (t, _) => match mj_any t cs with
      | true => match ty, v with
        | 0, .int x => some (none, n, ls, st, m, mj_ui I a k x, R, J)
        | 1, .int x => some (some (x = 0 ∨ x = 1), n, ls, st, m, mj_ui I a k x, R, J)
        | 2, .ref b => some (none, n, ls, st, m, I, mj_ur R a k (some b), J)
        | 2, .null => some (none, n, ls, st, m, I, mj_ur R a k none, J)
        | 3, .long x => some (none, n, ls, st, m, I, R, mj_uj J a k x)
        | _, _ => none
      | false => none
    | none => none
  | _, _ => none
/-! arrays: tag 0 int[], 1 byte[], 2 int[][], 3 of points; objects: 10 and the number of the kind -/
def mj_xld (tag n : Nat) (ls : List (Option Value)) (st : List Value) (m : mjM) (I : mjI) (R : mjR) (J : mjJ) : mjO := match st with
  | .int i :: .ref a :: st => match mj_mt a m with
    | some (t, q) => match Nat.beq t tag with
      | true => some (some (vp_in i q), n, ls, .int (I a i.toNatClampNeg) :: st, m, I, R, J)
      | false => none
    | none => none
  | _ => none
def mj_xst (tag n : Nat) (ls : List (Option Value)) (st : List Value) (m : mjM) (I : mjI) (R : mjR) (J : mjJ) : mjO := match st with
  | .int x :: .int i :: .ref a :: st => match mj_mt a m with
    | some (t, q) => match Nat.beq t tag with
      | true => some (some (vp_in i q ∧ 0 < a), n, ls, st, m, mj_ui I a i.toNatClampNeg x, R, J)
      | false => none
    | none => none
  | _ => none
def mj_aald (n : Nat) (ls : List (Option Value)) (st : List Value) (m : mjM) (I : mjI) (R : mjR) (J : mjJ) : mjO := match st with
  | .int i :: .ref a :: st => match mj_mt a m with
    | some (t, q) => match Nat.beq t 2 || Nat.beq t 3 with
      | true => match R a i.toNatClampNeg with
        | some b => some (some (vp_in i q), n, ls, .ref b :: st, m, I, R, J)
        | none => some (some (vp_in i q), n, ls, .null :: st, m, I, R, J)
      | false => none
    | none => none
  | _ => none
def mj_aast (n : Nat) (d : List Nat) (ls : List (Option Value)) (st : List Value) (m : mjM) (I : mjI) (R : mjR) (J : mjJ) : mjO := match st with
  | .ref v :: .int i :: .ref a :: st => match mj_mt a m, mj_mt v m with
    | some (t, q), some (tv, _) => match Nat.beq t 3 && mj_any tv d with
      | true => some (some (vp_in i q), n, ls, st, m, I, mj_ur R a i.toNatClampNeg (some v), J)
      | false => none
    | _, _ => none
  | _ => none
def mj_aln (n : Nat) (ls : List (Option Value)) (st : List Value) (m : mjM) (I : mjI) (R : mjR) (J : mjJ) : mjO := match st with
  | .ref a :: st => match mj_mt a m with
    | some (t, q) => match Nat.ble t 3 with
      | true => some (none, n, ls, .int (nI q) :: st, m, I, R, J)
      | false => none
    | none => none
  | _ => none
def mj_newa (tag n : Nat) (ls : List (Option Value)) (st : List Value) (m : mjM) (I : mjI) (R : mjR) (J : mjJ) : mjO := match st with
  | .int x :: st => some (some (¬ x < 0 ∧ x.toNatClampNeg ≤ 1000000), n, ls, .ref m.length :: st, m ++ [(tag, x.toNatClampNeg)], mj_row I m.length (fun _ => 0), R, J)
  | _ => none
def mj_newq (n : Nat) (ls : List (Option Value)) (st : List Value) (m : mjM) (I : mjI) (R : mjR) (J : mjJ) : mjO := match st with
  | .int x :: st => some (some (¬ x < 0 ∧ x.toNatClampNeg ≤ 1000000), n, ls, .ref m.length :: st, m ++ [(3, x.toNatClampNeg)], I, mj_rowR R m.length (fun _ => none), J)
  | _ => none
def mj_newm (n : Nat) (ls : List (Option Value)) (st : List Value) (m : mjM) (I : mjI) (R : mjR) (J : mjJ) : mjO := match st with
  | .int k :: .int x :: st => some (some (¬ x < 0 ∧ ¬ k < 0 ∧ x.toNatClampNeg ≤ 1000 ∧ k.toNatClampNeg ≤ 1000), n, ls, .ref m.length :: st, m ++ (2, x.toNatClampNeg) :: List.replicate x.toNatClampNeg (0, k.toNatClampNeg), mj_rows I (m.length + 1) x.toNatClampNeg, mj_rowR R m.length (fun j => if j < x.toNatClampNeg then some (m.length + 1 + j) else none), J)
  | _ => none
def mj_new (n : Nat) (d : List Nat) (ls : List (Option Value)) (st : List Value) (m : mjM) (I : mjI) (R : mjR) (J : mjJ) : mjO := match d with
  | [t, k] => some (none, n, ls, .ref m.length :: st, m ++ [(t, k)], mj_row I m.length (fun _ => 0), mj_rowR R m.length (fun _ => none), mj_rowJ J m.length (fun _ => 0))
  | _ => none
def mj_inst (n : Nat) (d : List Nat) (ls : List (Option Value)) (st : List Value) (m : mjM) (I : mjI) (R : mjR) (J : mjJ) : mjO := match st with
  | .ref a :: st => match mj_mt a m with
    | some (t, _) => match mj_sel t d with
      | some 0 => some (none, n, ls, .int (nI 0) :: st, m, I, R, J)
      | some 1 => some (none, n, ls, .int (nI 1) :: st, m, I, R, J)
      | _ => none
    | none => none
  | _ => none
def mj_copy (n : Nat) (ls : List (Option Value)) (st : List Value) (m : mjM) (I : mjI) (R : mjR) (J : mjJ) : mjO := match st with
  | .int k :: .int dp :: .ref a :: .int sp :: .ref b :: st => match mj_mt a m, mj_mt b m with
    | some (0, q), some (0, q0) => match Nat.ble (mj_sum st) 8 with
      | true => some (some (¬ sp < 0 ∧ ¬ dp < 0 ∧ ¬ k < 0 ∧ sp.toNatClampNeg + k.toNatClampNeg ≤ q0 ∧ dp.toNatClampNeg + k.toNatClampNeg ≤ q ∧ 0 < a ∧ 0 < b), n, ls, st, m, mj_row I a (va_cpy (I b) (I a) sp.toNatClampNeg dp.toNatClampNeg k.toNatClampNeg), R, J)
      | false => none
    | _, _ => none
  | _ => none
def mj_sw (lo : Int) (df : Nat) (ts : List Nat) (x : Int32) : Nat := if x.toInt < lo then df else match ts[(x.toInt - lo).toNat]? with
  | some t => t
  | none => df
def mj_lk (df : Nat) : List Nat → Int32 → Nat
  | k :: t :: ts, x => if x = nI k then t else mj_lk df ts x
  | _, _ => df
def mj_step (e : mjE) (c : mjC) : mjO := match e, c with
  | (ins, n, d), (_, ls, st, m, I, R, J) => match ins with
    | .iconst i => mj_cst n d (Int32.ofInt i) ls st m I R J
    | .bipush i => mj_cst n d (Int8.ofInt i).toInt32 ls st m I R J
    | .sipush i => mj_cst n d (Int16.ofInt i).toInt32 ls st m I R J
    | .lconst i => some (none, n, ls, .long (lN i) :: st, m, I, R, J)
    | .ldc _ => match d with
      | [v] => some (none, n, ls, .int (nI v) :: st, m, I, R, J)
      | _ => none
    | .ldc_w _ => match d with
      | [v] => some (none, n, ls, .int (nI v) :: st, m, I, R, J)
      | _ => none
    | .ldc2_w _ => match d with
      | [v] => some (none, n, ls, .long (lN v) :: st, m, I, R, J)
      | _ => none
    | .aconst_null => some (none, n, ls, .null :: st, m, I, R, J)
    | .iload i => mj_ild n i ls st m I R J
    | .iload_n i => mj_ild n i ls st m I R J
    | .lload i => mj_lld n i ls st m I R J
    | .lload_n i => mj_lld n i ls st m I R J
    | .aload i => mj_ald n i ls st m I R J
    | .aload_n i => mj_ald n i ls st m I R J
    | .istore i => mj_ist n i ls st m I R J
    | .istore_n i => mj_ist n i ls st m I R J
    | .lstore i => mj_lst n i ls st m I R J
    | .lstore_n i => mj_lst n i ls st m I R J
    | .astore i => mj_ast n i ls st m I R J
    | .astore_n i => mj_ast n i ls st m I R J
    | .iinc i k => match mj_get i ls with
      | some (.int x) => match d with
        | [d] => mj_st1 n i (.int (x + nI d)) ls st m I R J
        | _ => mj_st1 n i (.int (x + Int32.ofInt k)) ls st m I R J
      | _ => none
    | .iadd => match st with
      | .int y :: .int x :: st => some (none, n, ls, .int (x + y) :: st, m, I, R, J)
      | _ => none
    | .isub => match st with
      | .int y :: .int x :: st => some (none, n, ls, .int (x - y) :: st, m, I, R, J)
      | _ => none
    | .imul => match st with
      | .int y :: .int x :: st => some (none, n, ls, .int (x * y) :: st, m, I, R, J)
      | _ => none
    | .iand => match st with
      | .int y :: .int x :: st => some (none, n, ls, .int (x &&& y) :: st, m, I, R, J)
      | _ => none
    | .ior => match st with
      | .int y :: .int x :: st => some (none, n, ls, .int (x ||| y) :: st, m, I, R, J)
      | _ => none
    | .ixor => match st with
      | .int y :: .int x :: st => some (none, n, ls, .int (x ^^^ y) :: st, m, I, R, J)
      | _ => none
    | .ishl => match st with
      | .int y :: .int x :: st => some (none, n, ls, .int (x <<< (y &&& 31)) :: st, m, I, R, J)
      | _ => none
    | .ishr => match st with
      | .int y :: .int x :: st => some (none, n, ls, .int (x >>> (y &&& 31)) :: st, m, I, R, J)
      | _ => none
    | .iushr => match st with
      | .int y :: .int x :: st => some (none, n, ls, .int ((x.toUInt32 >>> (y.toUInt32 &&& Int32.toUInt32 31)).toInt32) :: st, m, I, R, J)
      | _ => none
    | .idiv => match st with
      | .int y :: .int x :: st => some (some (¬ y = 0), n, ls, .int (x / y) :: st, m, I, R, J)
      | _ => none
    | .irem => match st with
      | .int y :: .int x :: st => some (some (¬ y = 0), n, ls, .int (x - x / y * y) :: st, m, I, R, J)
      | _ => none
    | .ineg => match st with
      | .int x :: st => some (none, n, ls, .int (-x) :: st, m, I, R, J)
      | _ => none
    | .ladd => match st with
      | .long y :: .long x :: st => some (none, n, ls, .long (x + y) :: st, m, I, R, J)
      | _ => none
    | .lmul => match st with
      | .long y :: .long x :: st => some (none, n, ls, .long (x * y) :: st, m, I, R, J)
      | _ => none
    | .land => match st with
      | .long y :: .long x :: st => some (none, n, ls, .long (x &&& y) :: st, m, I, R, J)
      | _ => none
    | .lor => match st with
      | .long y :: .long x :: st => some (none, n, ls, .long (x ||| y) :: st, m, I, R, J)
      | _ => none
    | .lshl => match st with
      | .int y :: .long x :: st => some (none, n, ls, .long (x <<< (y.toInt64 &&& 63)) :: st, m, I, R, J)
      | _ => none
    | .lushr => match st with
      | .int y :: .long x :: st => some (none, n, ls, .long (x.toUInt64 >>> (y.toInt64.toUInt64 &&& Int64.toUInt64 63)).toInt64 :: st, m, I, R, J)
      | _ => none
    | .lcmp => match st with
      | .long y :: .long x :: st => some (none, n, ls, .int (lg_cmp x y) :: st, m, I, R, J)
      | _ => none
    | .i2l => match st with
      | .int x :: st => some (none, n, ls, .long x.toInt64 :: st, m, I, R, J)
      | _ => none
    | .l2i => match st with
      | .long x :: st => some (none, n, ls, .int x.toInt32 :: st, m, I, R, J)
      | _ => none
    | .i2b => match st with
      | .int x :: st => some (none, n, ls, .int x.toInt8.toInt32 :: st, m, I, R, J)
      | _ => none
    | .dup => match st with
      | .int x :: st => some (none, n, ls, .int x :: .int x :: st, m, I, R, J)
      | .ref x :: st => some (none, n, ls, .ref x :: .ref x :: st, m, I, R, J)
      | _ => none
    | .dup2 => match st with
      | .int x :: .ref y :: st => some (none, n, ls, .int x :: .ref y :: .int x :: .ref y :: st, m, I, R, J)
      | _ => none
    | .pop => match st with
      | .int _ :: st => some (none, n, ls, st, m, I, R, J)
      | .ref _ :: st => some (none, n, ls, st, m, I, R, J)
      | _ => none
    | .goto _ => match d with
      | [t] => some (none, t, ls, st, m, I, R, J)
      | _ => none
    | .ifnull _ => match d, st with
      | [_], .ref _ :: st => some (none, n, ls, st, m, I, R, J)
      | [t], .null :: st => some (none, t, ls, st, m, I, R, J)
      | _, _ => none
    | .ifnonnull _ => match d, st with
      | [t], .ref _ :: st => some (none, t, ls, st, m, I, R, J)
      | [_], .null :: st => some (none, n, ls, st, m, I, R, J)
      | _, _ => none
    | .tableswitch _ lo _ _ => match d, st with
      | df :: ts, .int x :: st => some (none, mj_sw lo df ts x, ls, st, m, I, R, J)
      | _, _ => none
    | .lookupswitch _ _ => match d, st with
      | df :: ts, .int x :: st => some (none, mj_lk df ts x, ls, st, m, I, R, J)
      | _, _ => none
    | .getfield _ => mj_gf n d ls st m I R J
    | .putfield _ => mj_pf n d ls st m I R J
    | .iaload => mj_xld 0 n ls st m I R J
    | .baload => mj_xld 1 n ls st m I R J
    | .iastore => mj_xst 0 n ls st m I R J
    | .bastore => match st with
      | .int x :: st => mj_xst 1 n ls (.int x.toInt8.toInt32 :: st) m I R J
      | _ => none
    | .aaload => mj_aald n ls st m I R J
    | .aastore => mj_aast n d ls st m I R J
    | .arraylength => mj_aln n ls st m I R J
    | .newarray .int => mj_newa 0 n ls st m I R J
    | .newarray .byte => mj_newa 1 n ls st m I R J
    | .anewarray _ => mj_newq n ls st m I R J
    | .multianewarray _ _ => mj_newm n ls st m I R J
    | .new _ => mj_new n d ls st m I R J
    | .instanceof _ => mj_inst n d ls st m I R J
    | .invokespecial _ => match d, st with
      | [5], .ref _ :: st => match Nat.ble (mj_sum st) 8 with
        | true => some (none, n, ls, st, m, I, R, J)
        | false => none
      | _, _ => none
    | .invokestatic _ => match d with
      | [6] => mj_copy n ls st m I R J
      | _ => none
    | _ => none
def mj_br (e : mjE) (c : mjC) : Option (Prop × mjC × mjC) := match e, c with
  | (ins, n, d), (_, ls, st, m, I, R, J) => match ins with
    | .ifCond .eq _ => match d, st with
      | [t], .int x :: st => some (x = 0, (t, ls, st, m, I, R, J), (n, ls, st, m, I, R, J))
      | _, _ => none
    | .ifCond .ne _ => match d, st with
      | [t], .int x :: st => some (¬ x = 0, (t, ls, st, m, I, R, J), (n, ls, st, m, I, R, J))
      | _, _ => none
    | .ifCond .lt _ => match d, st with
      | [t], .int x :: st => some (x < 0, (t, ls, st, m, I, R, J), (n, ls, st, m, I, R, J))
      | _, _ => none
    | .ifCond .ge _ => match d, st with
      | [t], .int x :: st => some (0 ≤ x, (t, ls, st, m, I, R, J), (n, ls, st, m, I, R, J))
      | _, _ => none
    | .ifCond .gt _ => match d, st with
      | [t], .int x :: st => some (0 < x, (t, ls, st, m, I, R, J), (n, ls, st, m, I, R, J))
      | _, _ => none
    | .ifCond .le _ => match d, st with
      | [t], .int x :: st => some (x ≤ 0, (t, ls, st, m, I, R, J), (n, ls, st, m, I, R, J))
      | _, _ => none
    | .if_icmp .eq _ => match d, st with
      | [t], .int y :: .int x :: st => some (x = y, (t, ls, st, m, I, R, J), (n, ls, st, m, I, R, J))
      | _, _ => none
    | .if_icmp .ne _ => match d, st with
      | [t], .int y :: .int x :: st => some (¬ x = y, (t, ls, st, m, I, R, J), (n, ls, st, m, I, R, J))
      | _, _ => none
    | .if_icmp .lt _ => match d, st with
      | [t], .int y :: .int x :: st => some (x < y, (t, ls, st, m, I, R, J), (n, ls, st, m, I, R, J))
      | _, _ => none
    | .if_icmp .ge _ => match d, st with
      | [t], .int y :: .int x :: st => some (y ≤ x, (t, ls, st, m, I, R, J), (n, ls, st, m, I, R, J))
      | _, _ => none
    | .if_icmp .gt _ => match d, st with
      | [t], .int y :: .int x :: st => some (y < x, (t, ls, st, m, I, R, J), (n, ls, st, m, I, R, J))
      | _, _ => none
    | .if_icmp .le _ => match d, st with
      | [t], .int y :: .int x :: st => some (x ≤ y, (t, ls, st, m, I, R, J), (n, ls, st, m, I, R, J))
      | _, _ => none
    | _ => none
/-! calls: data = 0, number of arguments, method (static); 1, number, tag, method ..; 2, number, method (a constructor) -/
abbrev mjQ : Type := Option (Nat × List Value × List Value)
def mj_inv (e : mjE) (c : mjC) : mjQ := match e, c with
  | (ins, _, d), (_, _, st, m, _, _, _) => match ins with
    | .invokestatic _ => match d with
      | [0, n, k] => mj_pop n st [] (fun as st => match Nat.ble (mj_sum st) 8 with
        | true => some (k, as, st)
        | false => none)
      | _ => none
    | .invokevirtual _ => match d with
      | 1 :: n :: ts => mj_pop n st [] (fun as st => match st with
        | .ref a :: st => match mj_mt a m with
          | some (t, _) => match mj_sel t ts, Nat.ble (mj_sum st) 8 with
            | some k, true => some (k, .ref a :: as, st)
            | _, _ => none
          | none => none
        | _ => none)
      | _ => none
    | .invokespecial _ => match d with
      | [2, n, k] => mj_pop n st [] (fun as st => match st with
        | .ref a :: st => match Nat.ble (mj_sum st) 8 with
          | true => some (k, .ref a :: as, st)
          | false => none
        | _ => none)
      | _ => none
    | _ => none
/-! ends: 0 none, 1 int, 2 boolean, 3 long, 4 reference -/
def mj_ret (rt : Nat) (e : mjE) (c : mjC) : Option (Option Prop × Option Value × mjH) := match e, c with
  | (ins, _, _), (_, _, st, h) => match ins, rt, st with
    | .return_, 0, [] => some (none, none, h)
    | .ireturn, 1, [.int x] => some (none, some (.int x), h)
    | .ireturn, 2, [.int x] => some (some (x = 0 ∨ x = 1), some (.int x), h)
    | .lreturn, 3, [.long x] => some (none, some (.long x), h)
    | .areturn, 4, [.ref a] => some (none, some (.ref a), h)
    | .areturn, 4, [.null] => some (none, some .null, h)
    | _, _, _ => none
def mj_ok : Option Prop → Prop
  | none => True
  | some p => p
def mj_psh : Option Value → List Value → List Value
  | none, st => st
  | some v, st => v :: st
abbrev mjK : Type := Nat → List Value → mjH → Option Value → mjH → Prop
def mj_go (K : mjK) (cd : List (Option mjE)) (rt : Nat) : Nat → mjC → Option Value → mjH → Prop
  | 0, _, _, _ => False
  | n + 1, c, v, h' => ∃ e, mj_at c.1 cd = some e ∧ (
      (∃ o c', mj_step e c = some (o, c') ∧ mj_ok o ∧ mj_go K cd rt n c' v h') ∨
      (∃ P c1 c2, mj_br e c = some (P, c1, c2) ∧ (P → mj_go K cd rt n c1 v h') ∧ (¬ P → mj_go K cd rt n c2 v h')) ∨
      (∃ m as st w h1, mj_inv e c = some (m, as, st) ∧ K m as c.2.2.2 w h1 ∧ mj_go K cd rt n (e.2.1, c.2.1, mj_psh w st, h1) v h') ∨
      (∃ o, mj_ret rt e c = some (o, v, h') ∧ mj_ok o))
/-- a method: its kind's number, its places for locals, what it ends with, its code -/
abbrev mjT : Type := Nat × Nat × Nat × List (Option mjE)
def mj_ent : List Value → List (Option Value)
  | [] => []
  | .long x :: vs => some (.long x) :: none :: mj_ent vs
  | .double x :: vs => some (.double x) :: none :: mj_ent vs
  | v :: vs => some v :: mj_ent vs
def mj_pad : Nat → List (Option Value) → List (Option Value)
  | 0, _ => []
  | n + 1, [] => none :: mj_pad n []
  | n + 1, x :: xs => x :: mj_pad n xs
def mj_call (P : List mjT) : Nat → mjK
  | 0 => fun _ _ _ _ _ => False
  | d + 1 => fun m as h v h' => ∃ t, P[m]? = some t ∧ (mj_ent as).length ≤ t.2.1 ∧ ∃ n, mj_go (mj_call P d) t.2.2.2 t.2.2.1 n (0, mj_pad t.2.1 (mj_ent as), [], h) v h'
