-- ===== the machine on rows: abstract memory, one step function, its soundness =====
def zup {α : Type} (f : Nat → Nat → α) (o k : Nat) (v : α) : Nat → Nat → α := fun a c => if a = o then (if c = k then v else f a c) else f a c
def zrow {α : Type} (f : Nat → Nat → α) (o : Nat) (g : Nat → α) : Nat → Nat → α := fun a c => if a = o then g c else f a c
abbrev zIt : Type := Instr × Nat × Nat × Nat × Nat × Nat × Value
abbrev zLv : Type := List (Option Value)
abbrev zKo : Type := Nat → zLv → List Value → Nat → zI → zL → zR → Prop
abbrev zPo : Type := Option Value → zI → zL → zR → Prop
abbrev zCo : Type := Nat → Nat → Nat → List Value → zI → zL → zR → zPo → Prop
def zck (b : Bool) (p : Prop) : Prop := match b with
  | true => p
  | false => False
def zi1 (st : List Value) (k : Int32 → List Value → Prop) : Prop := match st with
  | .int x :: r => k x r
  | _ => False
def zi2 (st : List Value) (k : Int32 → Int32 → List Value → Prop) : Prop := match st with
  | .int y :: .int x :: r => k x y r
  | _ => False
def zl1 (st : List Value) (k : Int64 → List Value → Prop) : Prop := match st with
  | .long x :: r => k x r
  | _ => False
def zl2 (st : List Value) (k : Int64 → Int64 → List Value → Prop) : Prop := match st with
  | .long y :: .long x :: r => k x y r
  | _ => False
def zli (st : List Value) (k : Int64 → Int32 → List Value → Prop) : Prop := match st with
  | .int y :: .long x :: r => k x y r
  | _ => False
def zr1 (st : List Value) (k : Nat → List Value → Prop) : Prop := match st with
  | .ref x :: r => k x r
  | _ => False
/-- an index over an array -/
def zri (st : List Value) (k : Nat → Int32 → List Value → Prop) : Prop := match st with
  | .int j :: .ref o :: r => k o j r
  | _ => False
/-- an int over an index over an array -/
def zrii (st : List Value) (k : Nat → Int32 → Int32 → List Value → Prop) : Prop := match st with
  | .int x :: .int j :: .ref o :: r => k o j x r
  | _ => False
def zril (st : List Value) (k : Nat → Int32 → Int64 → List Value → Prop) : Prop := match st with
  | .long x :: .int j :: .ref o :: r => k o j x r
  | _ => False
def zrir (st : List Value) (k : Nat → Int32 → Nat → List Value → Prop) : Prop := match st with
  | .ref v :: .int j :: .ref o :: r => k o j v r
  | _ => False
/-- a reference, or null -/
def zrn1 (st : List Value) (kr : Nat → List Value → Prop) (kn : List Value → Prop) : Prop := match st with
  | .ref x :: r => kr x r
  | .null :: r => kn r
  | _ => False
def zgl : zLv → Nat → Option Value
  | [], _ => none
  | x :: _, 0 => x
  | _ :: t, i + 1 => zgl t i
def zkill (i : Nat) (x : Option Value) : Option Value := match i, x with
  | 0, some (.long _) => none
  | 0, some (.double _) => none
  | _, x => x
def zsl1 : zLv → Nat → Value → zLv
  | [], _, _ => []
  | _ :: t, 0, v => some v :: t
  | x :: t, i + 1, v => zkill i x :: zsl1 t i v
def zn1 : zLv → zLv
  | [] => []
  | _ :: t => none :: t
def zsl2 : zLv → Nat → Value → zLv
  | [], _, _ => []
  | _ :: t, 0, v => some v :: zn1 t
  | x :: t, i + 1, v => zkill i x :: zsl2 t i v
def zgi (q : Option Value) (k : Int32 → Prop) : Prop := match q with
  | some (.int x) => k x
  | _ => False
def zgL (q : Option Value) (k : Int64 → Prop) : Prop := match q with
  | some (.long x) => k x
  | _ => False
def zga (q : Option Value) (k : Value → Prop) : Prop := match q with
  | some (.ref x) => k (.ref x)
  | some .null => k .null
  | _ => False
def zln : List Value → Nat
  | [] => 0
  | _ :: t => zln t + 1
def zlw : List Value → Nat
  | [] => 0
  | .long _ :: t => zlw t + 2
  | .double _ :: t => zlw t + 2
  | _ :: t => zlw t + 1
def zsp : Nat → List Value → List Value → (List Value → List Value → Prop) → Prop
  | 0, st, as, k => k as st
  | _ + 1, [], _, _ => False
  | n + 1, v :: st, as, k => zsp n st (v :: as) k
def zpush (q : Option Value) (r : List Value) : List Value := match q with
  | some v => v :: r
  | none => r
/-- the object o is one of those made, and of the plan -/
def zin (o N : Nat) : Bool := Nat.blt (zpos o) N && Nat.blt o zNN
/-- an object's class goes for class c: its own, or the superclass that it extends -/
def zsub (c' c : Nat) : Bool := Nat.beq c' c || (Nat.beq c' zcWays && Nat.beq c zcCont)
def zob (q : (FieldType × Nat) ⊕ Nat) (k : Nat → Prop) : Prop := match q with
  | .inr c => k c
  | .inl _ => False
def zai (q : (FieldType × Nat) ⊕ Nat) (k : Nat → Prop) : Prop := match q with
  | .inl (.int, n) => k n
  | _ => False
def zal (q : (FieldType × Nat) ⊕ Nat) (k : Nat → Prop) : Prop := match q with
  | .inl (.long, n) => k n
  | _ => False
def zac (q : (FieldType × Nat) ⊕ Nat) (k : Nat → Prop) : Prop := match q with
  | .inl (.char, n) => k n
  | _ => False
/-- bytes or booleans -/
def zab (q : (FieldType × Nat) ⊕ Nat) (kb kz : Nat → Prop) : Prop := match q with
  | .inl (.byte, n) => kb n
  | .inl (.boolean, n) => kz n
  | _ => False
def zao (q : (FieldType × Nat) ⊕ Nat) (k : String → Nat → Prop) : Prop := match q with
  | .inl (.object C, n) => k C n
  | _ => False
def zan (q : (FieldType × Nat) ⊕ Nat) (k : FieldType → Nat → Prop) : Prop := match q with
  | .inl (t, n) => k t n
  | .inr _ => False
def zrv (q : Option Nat) : Value := match q with
  | some a => .ref a
  | none => .null
/-- a field read -/
def zgf (kind : Nat) (I : zI) (L : zL) (R : zR) (o k : Nat) (f : Value → Prop) : Prop := match kind with
  | 0 => f (.int (I o k))
  | 1 => f (.long (L o k))
  | _ => match R o k with
    | some a => f (.ref a)
    | none => f .null
/-- a field written: its value under it is an int, a long, a reference, or null -/
def zpf (ty : FieldType) (kind : Nat) (st : List Value) (I : zI) (L : zL) (R : zR) (k : Nat) (f : Nat → List Value → zI → zL → zR → Prop) : Prop := match kind, st with
  | 0, .int x :: .ref o :: r => match ty with
    | .int => f o r (zup I o k x) L R
    | _ => (narrow ty (.int x) = .int x ∧ fits ty (.int x) = true) ∧ f o r (zup I o k x) L R
  | 1, .long x :: .ref o :: r => f o r I (zup L o k x) R
  | 2, .ref v :: .ref o :: r => f o r I L (zup R o k (some v))
  | 2, .null :: .ref o :: r => f o r I L (zup R o k none)
  | _, _ => False
def zret (ret : Option FieldType) (x : Int32) (p : Prop) : Prop := match ret with
  | some .int => p
  | some ty => narrow ty (.int x) = .int x ∧ p
  | none => False
/-- which method a call of method a runs on an object of class c -/
def zvt (c a : Nat) : Nat := bif Nat.beq c zcWays && Nat.beq a zyCPick then zyWPick else a
/-- the call of method a by a name in class x (e = 0: its own class; 1: Ways) on an object of class c is one that the words know -/
def zvok (c a e : Nat) : Bool := (Nat.beq c (zmc a) && Nat.beq e 0 && !Nat.beq (zxe a) 0) || (Nat.beq c zcWays && (zuw e a).isSome)
def zwp (E : Nat) (ret : Option FieldType) (K : zKo) (Cn : zCo) (Rt : zPo) : List zIt → zKo
  | [], pc, lv, st, N, I, L, R => K pc lv st N I L R
  | (i, n, a, b, d, e, v) :: is, pc, lv, st, N, I, L, R => match i with
    | .iconst _ => zwp E ret K Cn Rt is (pc + n) lv (v :: st) N I L R
    | .bipush _ => zwp E ret K Cn Rt is (pc + n) lv (v :: st) N I L R
    | .sipush _ => zwp E ret K Cn Rt is (pc + n) lv (v :: st) N I L R
    | .lconst _ => zwp E ret K Cn Rt is (pc + n) lv (v :: st) N I L R
    | .ldc _ => zwp E ret K Cn Rt is (pc + n) lv (v :: st) N I L R
    | .ldc_w _ => zwp E ret K Cn Rt is (pc + n) lv (v :: st) N I L R
    | .ldc2_w _ => zwp E ret K Cn Rt is (pc + n) lv (v :: st) N I L R
    | .aconst_null => zwp E ret K Cn Rt is (pc + n) lv (.null :: st) N I L R
    | .iload_n _ => zgi (zgl lv a) fun x => zwp E ret K Cn Rt is (pc + n) lv (.int x :: st) N I L R
    | .iload _ => zgi (zgl lv a) fun x => zwp E ret K Cn Rt is (pc + n) lv (.int x :: st) N I L R
    | .lload_n _ => zgL (zgl lv a) fun x => zwp E ret K Cn Rt is (pc + n) lv (.long x :: st) N I L R
    | .lload _ => zgL (zgl lv a) fun x => zwp E ret K Cn Rt is (pc + n) lv (.long x :: st) N I L R
    | .aload_n _ => zga (zgl lv a) fun x => zwp E ret K Cn Rt is (pc + n) lv (x :: st) N I L R
    | .aload _ => zga (zgl lv a) fun x => zwp E ret K Cn Rt is (pc + n) lv (x :: st) N I L R
    | .istore_n _ => zi1 st fun x r => zwp E ret K Cn Rt is (pc + n) (zsl1 lv a (.int x)) r N I L R
    | .istore _ => zi1 st fun x r => zwp E ret K Cn Rt is (pc + n) (zsl1 lv a (.int x)) r N I L R
    | .lstore_n _ => zl1 st fun x r => zwp E ret K Cn Rt is (pc + n) (zsl2 lv a (.long x)) r N I L R
    | .lstore _ => zl1 st fun x r => zwp E ret K Cn Rt is (pc + n) (zsl2 lv a (.long x)) r N I L R
    | .astore_n _ => zrn1 st (fun x r => zwp E ret K Cn Rt is (pc + n) (zsl1 lv a (.ref x)) r N I L R) (fun r => zwp E ret K Cn Rt is (pc + n) (zsl1 lv a .null) r N I L R)
    | .astore _ => zrn1 st (fun x r => zwp E ret K Cn Rt is (pc + n) (zsl1 lv a (.ref x)) r N I L R) (fun r => zwp E ret K Cn Rt is (pc + n) (zsl1 lv a .null) r N I L R)
    | .iinc _ _ => zgi (zgl lv a) fun x => zgi (some v) fun y => zwp E ret K Cn Rt is (pc + n) (zsl1 lv a (.int (x + y))) st N I L R
    | .iadd => zi2 st fun x y r => zwp E ret K Cn Rt is (pc + n) lv (.int (x + y) :: r) N I L R
    | .isub => zi2 st fun x y r => zwp E ret K Cn Rt is (pc + n) lv (.int (x - y) :: r) N I L R
    | .imul => zi2 st fun x y r => zwp E ret K Cn Rt is (pc + n) lv (.int (x * y) :: r) N I L R
    | .idiv => zi2 st fun x y r => (¬ y = 0) ∧ zwp E ret K Cn Rt is (pc + n) lv (.int (x / y) :: r) N I L R
    | .irem => zi2 st fun x y r => (¬ y = 0) ∧ zwp E ret K Cn Rt is (pc + n) lv (.int (x - x / y * y) :: r) N I L R
    | .ineg => zi1 st fun x r => zwp E ret K Cn Rt is (pc + n) lv (.int (-x) :: r) N I L R
    | .iand => zi2 st fun x y r => zwp E ret K Cn Rt is (pc + n) lv (.int (x &&& y) :: r) N I L R
    | .ior => zi2 st fun x y r => zwp E ret K Cn Rt is (pc + n) lv (.int (x ||| y) :: r) N I L R
    | .ixor => zi2 st fun x y r => zwp E ret K Cn Rt is (pc + n) lv (.int (x ^^^ y) :: r) N I L R
    | .ishl => zi2 st fun x y r => zwp E ret K Cn Rt is (pc + n) lv (.int (x <<< (y &&& 31)) :: r) N I L R
    | .ishr => zi2 st fun x y r => zwp E ret K Cn Rt is (pc + n) lv (.int (x >>> (y &&& 31)) :: r) N I L R
    | .iushr => zi2 st fun x y r => zwp E ret K Cn Rt is (pc + n) lv (.int ((x.toUInt32 >>> (y.toUInt32 &&& Int32.toUInt32 31)).toInt32) :: r) N I L R
    | .ladd => zl2 st fun x y r => zwp E ret K Cn Rt is (pc + n) lv (.long (x + y) :: r) N I L R
    | .lsub => zl2 st fun x y r => zwp E ret K Cn Rt is (pc + n) lv (.long (x - y) :: r) N I L R
    | .lmul => zl2 st fun x y r => zwp E ret K Cn Rt is (pc + n) lv (.long (x * y) :: r) N I L R
    | .ldiv => zl2 st fun x y r => (¬ y = 0) ∧ zwp E ret K Cn Rt is (pc + n) lv (.long (x / y) :: r) N I L R
    | .land => zl2 st fun x y r => zwp E ret K Cn Rt is (pc + n) lv (.long (x &&& y) :: r) N I L R
    | .lor => zl2 st fun x y r => zwp E ret K Cn Rt is (pc + n) lv (.long (x ||| y) :: r) N I L R
    | .lcmp => zl2 st fun x y r => zwp E ret K Cn Rt is (pc + n) lv (.int (lg_cmp x y) :: r) N I L R
    | .lshl => zli st fun x y r => zwp E ret K Cn Rt is (pc + n) lv (.long (x <<< (y.toInt64 &&& 63)) :: r) N I L R
    | .lshr => zli st fun x y r => zwp E ret K Cn Rt is (pc + n) lv (.long (x >>> (y.toInt64 &&& 63)) :: r) N I L R
    | .i2l => zi1 st fun x r => zwp E ret K Cn Rt is (pc + n) lv (.long x.toInt64 :: r) N I L R
    | .l2i => zl1 st fun x r => zwp E ret K Cn Rt is (pc + n) lv (.int x.toInt32 :: r) N I L R
    | .i2b => zi1 st fun x r => zwp E ret K Cn Rt is (pc + n) lv (.int x.toInt8.toInt32 :: r) N I L R
    | .i2s => zi1 st fun x r => zwp E ret K Cn Rt is (pc + n) lv (.int x.toInt16.toInt32 :: r) N I L R
    | .i2c => zi1 st fun x r => zwp E ret K Cn Rt is (pc + n) lv (.int (x.toUInt32 % 65536).toInt32 :: r) N I L R
    | .dup => match st with
      | w :: r => w.category = 1 ∧ zwp E ret K Cn Rt is (pc + n) lv (w :: w :: r) N I L R
      | _ => False
    | .pop => match st with
      | w :: r => w.category = 1 ∧ zwp E ret K Cn Rt is (pc + n) lv r N I L R
      | _ => False
    | .dup_x1 => match st with
      | w :: u :: r => (w.category = 1 ∧ u.category = 1) ∧ zwp E ret K Cn Rt is (pc + n) lv (w :: u :: w :: r) N I L R
      | _ => False
    | .dup2 => match st with
      | .long w :: r => zwp E ret K Cn Rt is (pc + n) lv (.long w :: .long w :: r) N I L R
      | w :: u :: r => (w.category = 1 ∧ u.category = 1) ∧ zwp E ret K Cn Rt is (pc + n) lv (w :: u :: w :: u :: r) N I L R
      | _ => False
    | .ifCond o _ => zi1 st fun x r => match o with
      | .eq => (x = 0 → K a lv r N I L R) ∧ (¬ x = 0 → zwp E ret K Cn Rt is (pc + n) lv r N I L R)
      | .ne => (¬ x = 0 → K a lv r N I L R) ∧ (x = 0 → zwp E ret K Cn Rt is (pc + n) lv r N I L R)
      | .lt => (x < 0 → K a lv r N I L R) ∧ (¬ x < 0 → zwp E ret K Cn Rt is (pc + n) lv r N I L R)
      | .ge => (0 ≤ x → K a lv r N I L R) ∧ (¬ 0 ≤ x → zwp E ret K Cn Rt is (pc + n) lv r N I L R)
      | .gt => (0 < x → K a lv r N I L R) ∧ (¬ 0 < x → zwp E ret K Cn Rt is (pc + n) lv r N I L R)
      | .le => (x ≤ 0 → K a lv r N I L R) ∧ (¬ x ≤ 0 → zwp E ret K Cn Rt is (pc + n) lv r N I L R)
    | .if_icmp o _ => zi2 st fun x y r => match o with
      | .eq => (x = y → K a lv r N I L R) ∧ (¬ x = y → zwp E ret K Cn Rt is (pc + n) lv r N I L R)
      | .ne => (¬ x = y → K a lv r N I L R) ∧ (x = y → zwp E ret K Cn Rt is (pc + n) lv r N I L R)
      | .lt => (x < y → K a lv r N I L R) ∧ (¬ x < y → zwp E ret K Cn Rt is (pc + n) lv r N I L R)
      | .ge => (y ≤ x → K a lv r N I L R) ∧ (¬ y ≤ x → zwp E ret K Cn Rt is (pc + n) lv r N I L R)
      | .gt => (y < x → K a lv r N I L R) ∧ (¬ y < x → zwp E ret K Cn Rt is (pc + n) lv r N I L R)
      | .le => (x ≤ y → K a lv r N I L R) ∧ (¬ x ≤ y → zwp E ret K Cn Rt is (pc + n) lv r N I L R)
    | .goto _ => K a lv st N I L R
    | .ifnull _ => zrn1 st (fun _ r => zwp E ret K Cn Rt is (pc + n) lv r N I L R) (fun r => K a lv r N I L R)
    | .ifnonnull _ => zrn1 st (fun _ r => K a lv r N I L R) (fun r => zwp E ret K Cn Rt is (pc + n) lv r N I L R)
    | .tableswitch dflt lo hi offs => zi1 st fun x r => ((x.toInt < lo ∨ hi < x.toInt) → K ((pc : Int) + dflt).toNat lv r N I L R) ∧ ∀ (k : Nat) (off : Int), offs[k]? = some off → x.toInt = lo + k → K ((pc : Int) + off).toNat lv r N I L R
    | .getstatic _ => zwp E ret K Cn Rt is (pc + n) lv (.ref (1000000 + a) :: st) N I L R
    | .getfield _ => zr1 st fun o r => zck (zin o N) (zob (zk o) fun c => zck (zsub c a) (zgf (zfk a b) I L R o b fun w => zwp E ret K Cn Rt is (pc + n) lv (w :: r) N I L R))
    | .putfield _ => zpf (zcy a b) (zfk a b) st I L R b fun o r I L R => zck (zin o N) (zob (zk o) fun c => zck (zsub c a) (zwp E ret K Cn Rt is (pc + n) lv r N I L R))
    | .iaload => match a with
      | 0 => zri st fun o j r => zck (zin o N) (zai (zk o) fun m => vp_in j m ∧ zwp E ret K Cn Rt is (pc + n) lv (.int (I o j.toNatClampNeg) :: r) N I L R)
      | _ + 1 => zri st fun o j r => zck (Nat.beq o (1000000 + b)) (vp_in j (zstn b) ∧ zwp E ret K Cn Rt is (pc + n) lv (.int (zstv b j.toNatClampNeg) :: r) N I L R)
    | .baload => zri st fun o j r => zck (zin o N) (zab (zk o) (fun m => vp_in j m ∧ zwp E ret K Cn Rt is (pc + n) lv (.int (I o j.toNatClampNeg) :: r) N I L R) (fun m => vp_in j m ∧ zwp E ret K Cn Rt is (pc + n) lv (.int (I o j.toNatClampNeg) :: r) N I L R))
    | .caload => zri st fun o j r => zck (zin o N) (zac (zk o) fun m => vp_in j m ∧ zwp E ret K Cn Rt is (pc + n) lv (.int (I o j.toNatClampNeg) :: r) N I L R)
    | .laload => zri st fun o j r => zck (zin o N) (zal (zk o) fun m => vp_in j m ∧ zwp E ret K Cn Rt is (pc + n) lv (.long (L o j.toNatClampNeg) :: r) N I L R)
    | .aaload => zri st fun o j r => zck (zin o N) (zao (zk o) fun C m => zck (C == zcn a && Nat.blt a zncl) (vp_in j m ∧ match R o j.toNatClampNeg with
      | some w => zwp E ret K Cn Rt is (pc + n) lv (.ref w :: r) N I L R
      | none => zwp E ret K Cn Rt is (pc + n) lv (.null :: r) N I L R))
    | .iastore => zrii st fun o j x r => zck (zin o N) (zai (zk o) fun m => vp_in j m ∧ zwp E ret K Cn Rt is (pc + n) lv r N (zup I o j.toNatClampNeg x) L R)
    | .bastore => zrii st fun o j x r => zck (zin o N) (zab (zk o) (fun m => vp_in j m ∧ zwp E ret K Cn Rt is (pc + n) lv r N (zup I o j.toNatClampNeg (vp_nar .byte x)) L R) (fun m => vp_in j m ∧ zwp E ret K Cn Rt is (pc + n) lv r N (zup I o j.toNatClampNeg (vp_nar .boolean x)) L R))
    | .castore => zrii st fun o j x r => zck (zin o N) (zac (zk o) fun m => vp_in j m ∧ zwp E ret K Cn Rt is (pc + n) lv r N (zup I o j.toNatClampNeg (vp_nar .char x)) L R)
    | .lastore => zril st fun o j x r => zck (zin o N) (zal (zk o) fun m => vp_in j m ∧ zwp E ret K Cn Rt is (pc + n) lv r N I (zup L o j.toNatClampNeg x) R)
    | .aastore => zrir st fun o j w r => zck (zin o N && zin w N) (zao (zk o) fun C m => zck (C == zcn a && Nat.blt a zncl) (zob (zk w) fun c => zck (Nat.beq c a) (vp_in j m ∧ zwp E ret K Cn Rt is (pc + n) lv r N I L (zup R o j.toNatClampNeg (some w)))))
    | .arraylength => zr1 st fun o r => zck (zin o N) (zan (zk o) fun _ m => zwp E ret K Cn Rt is (pc + n) lv (.int (Int32.ofNat m) :: r) N I L R)
    | .new _ => zck (Nat.blt N E && Nat.blt N zNN) (zob (zk (zid N)) fun c => zck (Nat.beq c a) (zwp E ret K Cn Rt is (pc + n) lv (.ref (zid N) :: st) (N + 1) (zrow I (zid N) fun _ => 0) (zrow L (zid N) fun _ => 0) (zrow R (zid N) fun _ => none)))
    | .newarray t => zi1 st fun x r => zck (Nat.blt N E && Nat.blt N zNN) (zan (zk (zid N)) fun ty m => zck (ty == newarray.typeOf t && Nat.ble m 1000000) ((¬ x < 0 ∧ x.toNatClampNeg = m) ∧ zwp E ret K Cn Rt is (pc + n) lv (.ref (zid N) :: r) (N + 1) (zrow I (zid N) fun _ => 0) (zrow L (zid N) fun _ => 0) (zrow R (zid N) fun _ => none)))
    | .anewarray _ => zi1 st fun x r => zck (Nat.blt N E && Nat.blt N zNN) (zao (zk (zid N)) fun C m => zck (C == zcn a && Nat.blt a zncl && Nat.ble m 1000000) ((¬ x < 0 ∧ x.toNatClampNeg = m) ∧ zwp E ret K Cn Rt is (pc + n) lv (.ref (zid N) :: r) (N + 1) (zrow I (zid N) fun _ => 0) (zrow L (zid N) fun _ => 0) (zrow R (zid N) fun _ => none)))
    | .invokestatic _ => match e with
      | 0 => zsp b st [] fun as r => zck (Nat.ble (zlw r) 8) (Cn a N N as I L R fun q I L R => zwp E ret K Cn Rt is (pc + n) lv (zpush q r) N I L R)
      | 2 => zsp b st [] fun as r => zck (Nat.ble (zlw r) 8) (Cn a N N as I L R fun q I L R => zwp E ret K Cn Rt is (pc + n) lv (zpush q r) N I L R)
      | 3 => zi2 st fun x y r => zck (Nat.ble (zlw r) 8) (zwp E ret K Cn Rt is (pc + n) lv (.int (if x < y then y else x) :: r) N I L R)
      | 4 => zi2 st fun x y r => zck (Nat.ble (zlw r) 8) (zwp E ret K Cn Rt is (pc + n) lv (.int (if y < x then y else x) :: r) N I L R)
      | 6 => zl2 st fun x y r => zck (Nat.ble (zlw r) 8) (zwp E ret K Cn Rt is (pc + n) lv (.long (if y < x then x else y) :: r) N I L R)
      | 7 => zl2 st fun x y r => zck (Nat.ble (zlw r) 8) (zwp E ret K Cn Rt is (pc + n) lv (.long (if y < x then y else x) :: r) N I L R)
      | 5 => match st with
        | .int x :: .int dp :: .ref o1 :: .int sp :: .ref o0 :: r => zck (zin o1 N && zin o0 N && Nat.ble (zlw r) 8) (zai (zk o0) fun m0 => zai (zk o1) fun m1 => (¬ sp < 0 ∧ ¬ dp < 0 ∧ ¬ x < 0 ∧ sp.toNatClampNeg + x.toNatClampNeg ≤ m0 ∧ dp.toNatClampNeg + x.toNatClampNeg ≤ m1) ∧ zwp E ret K Cn Rt is (pc + n) lv r N (zrow I o1 (va_cpy (I o0) (I o1) sp.toNatClampNeg dp.toNatClampNeg x.toNatClampNeg)) L R)
        | _ => False
      | _ => False
    | .invokevirtual _ => zsp b st [] fun as r => zr1 r fun o r => zck (zin o N && Nat.ble (zlw r) 8) (zob (zk o) fun c => zck (zvok c a e) (Cn (zvt c a) N N (.ref o :: as) I L R fun q I L R => zwp E ret K Cn Rt is (pc + n) lv (zpush q r) N I L R))
    | .invokespecial _ => match e with
      | 0 => zr1 st fun _ r => zck (Nat.ble (zlw r) 8) (zwp E ret K Cn Rt is (pc + n) lv r N I L R)
      | _ + 1 => zsp b st [] fun as r => zr1 r fun o r => zck (Nat.ble (zlw r) 8 && Nat.ble (N + d) E) (Cn a N (N + d) (.ref o :: as) I L R fun q I L R => zwp E ret K Cn Rt is (pc + n) lv (zpush q r) (N + d) I L R)
    | .ireturn => zi1 st fun x r => zck (Nat.beq N E && Nat.beq (zln r) 0) (zret ret x (Rt (some (.int x)) I L R))
    | .lreturn => zl1 st fun x r => zck (Nat.beq N E && Nat.beq (zln r) 0) (Rt (some (.long x)) I L R)
    | .areturn => zrn1 st (fun x r => zck (Nat.beq N E && Nat.beq (zln r) 0) (Rt (some (.ref x)) I L R)) (fun r => zck (Nat.beq N E && Nat.beq (zln r) 0) (Rt (some .null) I L R))
    | .return_ => zck (Nat.beq N E && Nat.beq (zln st) 0) (Rt none I L R)
    | _ => False
