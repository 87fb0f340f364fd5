/-! An abstract machine for the instructions that class and reference use: names instead of addresses, a world of numbers; one walk of the JVM for all methods (z_main). -/
/-- a name: its group, its number there -/
abbrev z_N : Type := Nat × Nat
/-- ints, longs, references' numbers: by group, number, place -/
abbrev z_W : Type := (Nat → Nat → Nat → Int32) × (Nat → Nat → Nat → Int64) × (Nat → Nat → Nat → Nat)
/-- a side: the sort of a group (1 ints, 2 longs, 3 references, c + 4 objects of class c), lengths, fixed references, the group of what references' arrays hold, all names -/
abbrev z_S : Type := (Nat → Nat) × (Nat → Nat → Nat) × (Nat → Nat → Nat → z_N) × Nat × List z_N
/-- an int, a long, a reference or null -/
abbrev z_V : Type := Int32 ⊕ Int64 ⊕ Option z_N
abbrev z_L : Type := List (Option z_V)
abbrev z_X : Type := Nat × Nat × Nat × Nat × Int32 × Int64
abbrev z_I : Type := Jvm.ClassFile.Instr × Nat × z_X
abbrev z_F : Type := Nat × z_L × List z_V × z_W
abbrev z_O : Type := Option (z_F ⊕ (Option z_V) ⊕ (Nat × List z_V × List z_V))
/-- name, bytes, locals, answer, how many arguments (with the receiver), the receiver's sort (0: static), frames, words of locals -/
abbrev z_M : Type := MethodName × ByteArray × Nat × Option FieldType × Nat × Nat × Nat × Nat
def z_si (w : z_W) (g i k : Nat) (x : Int32) : z_W := (fun a b c => if a = g ∧ b = i ∧ c = k then x else w.1 a b c, w.2.1, w.2.2)
def z_sl (w : z_W) (g i k : Nat) (x : Int64) : z_W := (w.1, fun a b c => if a = g ∧ b = i ∧ c = k then x else w.2.1 a b c, w.2.2)
def z_sr (w : z_W) (g i k : Nat) (x : Nat) : z_W := (w.1, w.2.1, fun a b c => if a = g ∧ b = i ∧ c = k then x else w.2.2 a b c)
def z_cp (w : z_W) (g i sp g' i' dp n : Nat) : z_W := (fun a b c => if a = g' ∧ b = i' then va_cpy (w.1 g i) (w.1 g' i') sp dp n c else w.1 a b c, w.2.1, w.2.2)
def z_ct (v : z_V) : Nat := match v with
  | .inr (.inl _) => 2
  | _ => 1
def z_in (i : Int32) (n : Nat) : Bool := decide (0 ≤ i.toInt) && decide (i.toInt < (n : Int))
def z_un (L : z_L) (i : Nat) : z_L := match i with
  | 0 => L
  | j + 1 => match L[j]? with
    | some (some (.inr (.inl _))) => L.set j none
    | _ => L
def z_st1 (L : z_L) (i : Nat) (v : z_V) : z_L := (z_un L i).set i (some v)
def z_st2 (L : z_L) (i : Nat) (v : z_V) : z_L := ((z_un L i).set i (some v)).set (i + 1) none
def z_cat (st : List z_V) : Nat := (st.map z_ct).sum
def z_ld (L : z_L) (i : Nat) : Option z_V := match L[i]? with
  | some (some v) => some v
  | _ => none
def z_args : List z_V → z_L
  | [] => []
  | v :: r => some v :: (if z_ct v = 2 then none :: z_args r else z_args r)
def z_entry (n : Nat) (as : List z_V) : z_L := z_args as ++ List.replicate (n - (z_args as).length) none
def z_tgt (pc : Nat) (off : Int) : Nat := ((pc : Int) + off).toNat
def z_call (S : z_S) (k n nL mj : Nat) (st : List z_V) : z_O :=
  if n ≤ st.length ∧ z_cat (st.drop n) ≤ 8 ∧ (z_args (st.take n).reverse).length ≤ nL then
    match k with
    | 0 => some (.inr (.inr (mj, (st.take n).reverse, st.drop n)))
    | k + 1 => match (st.take n).reverse with
      | (.inr (.inr (some (g, _)))) :: _ => if S.1 g = k + 1 then some (.inr (.inr (mj, (st.take n).reverse, st.drop n))) else none
      | _ => none
  else none
def z_step (S : z_S) (M : Nat → z_M) (I : z_I) (pc : Nat) (L : z_L) (st : List z_V) (w : z_W) : z_O :=
  match I with
  | (ins, _, a, b, t, _, c, d) => match ins with
    | .iconst _ => some (.inl (pc + 1, L, (.inl c) :: st, w))
    | .bipush _ => some (.inl (pc + 2, L, (.inl c) :: st, w))
    | .sipush _ => some (.inl (pc + 3, L, (.inl c) :: st, w))
    | .lconst _ => some (.inl (pc + 1, L, (.inr (.inl d)) :: st, w))
    | .ldc2_w _ => some (.inl (pc + 3, L, (.inr (.inl d)) :: st, w))
    | .aconst_null => some (.inl (pc + 1, L, (.inr (.inr none)) :: st, w))
    | .iload_n k => match z_ld L k with
      | some ((.inl x)) => some (.inl (pc + 1, L, (.inl x) :: st, w))
      | _ => none
    | .iload k => match z_ld L k with
      | some ((.inl x)) => some (.inl (pc + 2, L, (.inl x) :: st, w))
      | _ => none
    | .lload_n k => match z_ld L k with
      | some ((.inr (.inl x))) => some (.inl (pc + 1, L, (.inr (.inl x)) :: st, w))
      | _ => none
    | .lload k => match z_ld L k with
      | some ((.inr (.inl x))) => some (.inl (pc + 2, L, (.inr (.inl x)) :: st, w))
      | _ => none
    | .aload_n k => match z_ld L k with
      | some (.inr (.inr o)) => some (.inl (pc + 1, L, (.inr (.inr o)) :: st, w))
      | _ => none
    | .aload k => match z_ld L k with
      | some (.inr (.inr o)) => some (.inl (pc + 2, L, (.inr (.inr o)) :: st, w))
      | _ => none
    | .istore_n k => match st with
      | (.inl x) :: r => if (k : Nat) < L.length then some (.inl (pc + 1, z_st1 L k ((.inl x)), r, w)) else none
      | _ => none
    | .istore k => match st with
      | (.inl x) :: r => if k < L.length then some (.inl (pc + 2, z_st1 L k ((.inl x)), r, w)) else none
      | _ => none
    | .lstore_n k => match st with
      | (.inr (.inl x)) :: r => if (k : Nat) + 1 < L.length then some (.inl (pc + 1, z_st2 L k ((.inr (.inl x))), r, w)) else none
      | _ => none
    | .lstore k => match st with
      | (.inr (.inl x)) :: r => if k + 1 < L.length then some (.inl (pc + 2, z_st2 L k ((.inr (.inl x))), r, w)) else none
      | _ => none
    | .astore_n k => match st with
      | (.inr (.inr x)) :: r => if (k : Nat) < L.length then some (.inl (pc + 1, z_st1 L k (.inr (.inr x)), r, w)) else none
      | _ => none
    | .astore k => match st with
      | (.inr (.inr x)) :: r => if k < L.length then some (.inl (pc + 2, z_st1 L k (.inr (.inr x)), r, w)) else none
      | _ => none
    | .iinc k _ => match z_ld L k with
      | some ((.inl x)) => if k < L.length then some (.inl (pc + 3, z_st1 L k ((.inl (x + c))), st, w)) else none
      | _ => none
    | .iadd => match st with
      | (.inl y) :: (.inl x) :: r => some (.inl (pc + 1, L, (.inl (x + y)) :: r, w))
      | _ => none
    | .isub => match st with
      | (.inl y) :: (.inl x) :: r => some (.inl (pc + 1, L, (.inl (x - y)) :: r, w))
      | _ => none
    | .imul => match st with
      | (.inl y) :: (.inl x) :: r => some (.inl (pc + 1, L, (.inl (x * y)) :: r, w))
      | _ => none
    | .iand => match st with
      | (.inl y) :: (.inl x) :: r => some (.inl (pc + 1, L, (.inl (x &&& y)) :: r, w))
      | _ => none
    | .ior => match st with
      | (.inl y) :: (.inl x) :: r => some (.inl (pc + 1, L, (.inl (x ||| y)) :: r, w))
      | _ => none
    | .idiv => match st with
      | (.inl y) :: (.inl x) :: r => if y = 0 then none else some (.inl (pc + 1, L, (.inl (x / y)) :: r, w))
      | _ => none
    | .irem => match st with
      | (.inl y) :: (.inl x) :: r => if y = 0 then none else some (.inl (pc + 1, L, (.inl (x - x / y * y)) :: r, w))
      | _ => none
    | .ishl => match st with
      | (.inl y) :: (.inl x) :: r => some (.inl (pc + 1, L, (.inl (x <<< (y &&& 31))) :: r, w))
      | _ => none
    | .ishr => match st with
      | (.inl y) :: (.inl x) :: r => some (.inl (pc + 1, L, (.inl (x >>> (y &&& 31))) :: r, w))
      | _ => none
    | .land => match st with
      | (.inr (.inl y)) :: (.inr (.inl x)) :: r => some (.inl (pc + 1, L, (.inr (.inl (x &&& y))) :: r, w))
      | _ => none
    | .lor => match st with
      | (.inr (.inl y)) :: (.inr (.inl x)) :: r => some (.inl (pc + 1, L, (.inr (.inl (x ||| y))) :: r, w))
      | _ => none
    | .lshl => match st with
      | (.inl y) :: (.inr (.inl x)) :: r => some (.inl (pc + 1, L, (.inr (.inl (x <<< (y.toInt64 &&& 63)))) :: r, w))
      | _ => none
    | .lshr => match st with
      | (.inl y) :: (.inr (.inl x)) :: r => some (.inl (pc + 1, L, (.inr (.inl (x >>> (y.toInt64 &&& 63)))) :: r, w))
      | _ => none
    | .lcmp => match st with
      | (.inr (.inl y)) :: (.inr (.inl x)) :: r => some (.inl (pc + 1, L, (.inl (lg_cmp x y)) :: r, w))
      | _ => none
    | .i2l => match st with
      | (.inl x) :: r => some (.inl (pc + 1, L, (.inr (.inl x.toInt64)) :: r, w))
      | _ => none
    | .l2i => match st with
      | (.inr (.inl x)) :: r => some (.inl (pc + 1, L, (.inl x.toInt32) :: r, w))
      | _ => none
    | .dup => match st with
      | (.inl x) :: r => some (.inl (pc + 1, L, (.inl x) :: (.inl x) :: r, w))
      | (.inr (.inr x)) :: r => some (.inl (pc + 1, L, (.inr (.inr x)) :: (.inr (.inr x)) :: r, w))
      | _ => none
    | .dup2 => match st with
      | (.inl x) :: (.inr (.inr y)) :: r => some (.inl (pc + 1, L, (.inl x) :: (.inr (.inr y)) :: (.inl x) :: (.inr (.inr y)) :: r, w))
      | _ => none
    | .ifCond q _ => match st with
      | (.inl x) :: r => match q with
        | .eq => some (.inl (if x = 0 then a else pc + 3, L, r, w))
        | .ne => some (.inl (if x = 0 then pc + 3 else a, L, r, w))
        | .lt => some (.inl (if x < 0 then a else pc + 3, L, r, w))
        | .ge => some (.inl (if 0 ≤ x then a else pc + 3, L, r, w))
        | .gt => some (.inl (if 0 < x then a else pc + 3, L, r, w))
        | .le => some (.inl (if x ≤ 0 then a else pc + 3, L, r, w))
      | _ => none
    | .if_icmp q _ => match st with
      | (.inl y) :: (.inl x) :: r => match q with
        | .eq => some (.inl (if x = y then a else pc + 3, L, r, w))
        | .ne => some (.inl (if x = y then pc + 3 else a, L, r, w))
        | .lt => some (.inl (if x < y then a else pc + 3, L, r, w))
        | .ge => some (.inl (if y ≤ x then a else pc + 3, L, r, w))
        | .gt => some (.inl (if y < x then a else pc + 3, L, r, w))
        | .le => some (.inl (if x ≤ y then a else pc + 3, L, r, w))
      | _ => none
    | .goto _ => some (.inl (a, L, st, w))
    | .ifnull _ => match st with
      | (.inr (.inr none)) :: r => some (.inl (a, L, r, w))
      | (.inr (.inr (some _))) :: r => some (.inl (pc + 3, L, r, w))
      | _ => none
    | .ifnonnull _ => match st with
      | (.inr (.inr none)) :: r => some (.inl (pc + 3, L, r, w))
      | (.inr (.inr (some _))) :: r => some (.inl (a, L, r, w))
      | _ => none
    | .tableswitch dflt lo hi offs => match st with
      | (.inl x) :: r => if x.toInt < lo ∨ hi < x.toInt then some (.inl (z_tgt pc dflt, L, r, w)) else match offs[(x.toInt - lo).toNat]? with
        | some off => some (.inl (z_tgt pc off, L, r, w))
        | none => none
      | _ => none
    | .lookupswitch dflt ps => match st with
      | (.inl x) :: r => some (.inl (z_tgt pc (Op.lookupswitch.offset ps.toList dflt x.toInt), L, r, w))
      | _ => none
    | .getfield _ => match st with
      | (.inr (.inr (some (g, i)))) :: r => if S.1 g = a + 4 then match t with
          | 2 => some (.inl (pc + 3, L, (.inr (.inr (some (S.2.2.1 g i b)))) :: r, w))
          | _ => some (.inl (pc + 3, L, (.inl (w.1 g i b)) :: r, w))
        else none
      | _ => none
    | .putfield _ => match st with
      | (.inl x) :: (.inr (.inr (some (g, i)))) :: r => if S.1 g = a + 4 ∧ (t = 0 ∨ (x = 0 ∨ x = 1)) then some (.inl (pc + 3, L, r, z_si w g i b x)) else none
      | _ => none
    | .iaload => match st with
      | (.inl i) :: (.inr (.inr (some (g, o)))) :: r => if S.1 g = 1 ∧ z_in i (S.2.1 g o) = true then some (.inl (pc + 1, L, (.inl (w.1 g o i.toNatClampNeg)) :: r, w)) else none
      | _ => none
    | .laload => match st with
      | (.inl i) :: (.inr (.inr (some (g, o)))) :: r => if S.1 g = 2 ∧ z_in i (S.2.1 g o) = true then some (.inl (pc + 1, L, (.inr (.inl (w.2.1 g o i.toNatClampNeg))) :: r, w)) else none
      | _ => none
    | .aaload => match st with
      | (.inl i) :: (.inr (.inr (some (g, o)))) :: r => if S.1 g = 3 ∧ z_in i (S.2.1 g o) = true then some (.inl (pc + 1, L, (.inr (.inr (some (S.2.2.2.1, w.2.2 g o i.toNatClampNeg)))) :: r, w)) else none
      | _ => none
    | .iastore => match st with
      | (.inl x) :: (.inl i) :: (.inr (.inr (some (g, o)))) :: r => if S.1 g = 1 ∧ z_in i (S.2.1 g o) = true then some (.inl (pc + 1, L, r, z_si w g o i.toNatClampNeg x)) else none
      | _ => none
    | .lastore => match st with
      | (.inr (.inl x)) :: (.inl i) :: (.inr (.inr (some (g, o)))) :: r => if S.1 g = 2 ∧ z_in i (S.2.1 g o) = true then some (.inl (pc + 1, L, r, z_sl w g o i.toNatClampNeg x)) else none
      | _ => none
    | .aastore => match st with
      | (.inr (.inr (some (g', v)))) :: (.inl i) :: (.inr (.inr (some (g, o)))) :: r => if S.1 g = 3 ∧ z_in i (S.2.1 g o) = true ∧ g' = S.2.2.2.1 ∧ S.1 g' = a + 4 then some (.inl (pc + 1, L, r, z_sr w g o i.toNatClampNeg v)) else none
      | _ => none
    | .arraylength => match st with
      | (.inr (.inr (some (g, o)))) :: r => if S.1 g = 1 then some (.inl (pc + 1, L, (.inl (Int32.ofNat (S.2.1 g o))) :: r, w)) else none
      | _ => none
    | .invokevirtual _ => z_call S (M a).2.2.2.2.2.1 (M a).2.2.2.2.1 (M a).2.2.1 a st
    | .invokestatic _ => match t with
      | 0 => z_call S 0 (M a).2.2.2.2.1 (M a).2.2.1 a st
      | _ => match st with
        | (.inl n) :: (.inl dp) :: (.inr (.inr (some (g', o')))) :: (.inl sp) :: (.inr (.inr (some (g, o)))) :: r =>
          if S.1 g = 1 ∧ S.1 g' = 1 ∧ 0 ≤ sp.toInt ∧ 0 ≤ dp.toInt ∧ 0 ≤ n.toInt ∧ sp.toInt + n.toInt ≤ (S.2.1 g o : Int) ∧ dp.toInt + n.toInt ≤ (S.2.1 g' o' : Int) ∧ z_cat r ≤ 8
          then some (.inl (pc + 3, L, r, z_cp w g o sp.toNatClampNeg g' o' dp.toNatClampNeg n.toNatClampNeg)) else none
        | _ => none
    | .ireturn => match st with
      | [(.inl x)] => if t = 0 ∨ (x = 0 ∨ x = 1) then some (.inr (.inl (some ((.inl x))))) else none
      | _ => none
    | .lreturn => match st with
      | [(.inr (.inl x))] => some (.inr (.inl (some ((.inr (.inl x))))))
      | _ => none
    | .areturn => match st with
      | [.inr (.inr x)] => some (.inr (.inl (some (.inr (.inr x)))))
      | _ => none
    | .return_ => match st with
      | [] => some (.inr (.inl none))
      | _ => none
    | _ => none
def z_run (S : z_S) (M : Nat → z_M) (C : Nat → Nat → Option z_I) : Nat → Nat → z_F → Option (z_W × Option z_V)
  | 0, _, _ => none
  | n + 1, mi, (pc, L, st, w) => match C mi pc with
    | none => none
    | some I => match z_step S M I pc L st w with
      | none => none
      | some (.inl f) => z_run S M C n mi f
      | some (.inr (.inl r)) => some (w, r)
      | some (.inr (.inr (mj, as, rest))) => match z_run S M C n mj (0, z_entry (M mj).2.2.1 as, [], w) with
        | none => none
        | some (w', r) => z_run S M C n mi (pc + 3, L, r.toList ++ rest, w')
