-- what is checked of an item of a method of class own, at pc
def zokS (q : Option FieldType) (f : FieldType → Bool) : Bool := match q with
  | some t => f t
  | none => false
def zisRf (t : FieldType) : Bool := match t with
  | .object _ => true
  | .array _ => true
  | _ => false
def zisPr (t : FieldType) : Bool := match t with
  | .int => true
  | .long => true
  | .byte => true
  | .boolean => true
  | .char => true
  | _ => false
def zHost : String := "BoxesWithBeads"
def zok1 (own : String) (nL : Nat) (ret : Option FieldType) (ini : Bool) (pc : Nat) (x : zIt) : Bool := match x with
  | (i, n, a, b, d, e, v) => match i with
    | .iconst k => decide (v = .int (Int32.ofInt k)) && Nat.beq n 1
    | .bipush k => decide (v = .int (Int8.ofInt k).toInt32) && Nat.beq n 2
    | .sipush k => decide (v = .int (Int16.ofInt k).toInt32) && Nat.beq n 3
    | .lconst k => decide (v = .long (Int64.ofNat (k : Nat))) && Nat.beq n 1
    | .ldc k => Nat.beq n 2 && match v with
      | .int x => zhas d (.constant own k x)
      | _ => false
    | .ldc_w k => Nat.beq n 3 && match v with
      | .int x => zhas d (.constant own k x)
      | _ => false
    | .ldc2_w k => Nat.beq n 3 && match v with
      | .long x => zhas d (.constantLong own k x)
      | _ => false
    | .aconst_null => Nat.beq n 1
    | .iload_n k => Nat.beq n 1 && Nat.beq a (k : Nat)
    | .lload_n k => Nat.beq n 1 && Nat.beq a (k : Nat)
    | .aload_n k => Nat.beq n 1 && Nat.beq a (k : Nat)
    | .iload k => Nat.beq n 2 && Nat.beq a k
    | .lload k => Nat.beq n 2 && Nat.beq a k
    | .aload k => Nat.beq n 2 && Nat.beq a k
    | .istore_n k => Nat.beq n 1 && Nat.beq a (k : Nat) && Nat.blt a nL
    | .astore_n k => Nat.beq n 1 && Nat.beq a (k : Nat) && Nat.blt a nL
    | .lstore_n k => Nat.beq n 1 && Nat.beq a (k : Nat) && Nat.blt (a + 1) nL
    | .istore k => Nat.beq n 2 && Nat.beq a k && Nat.blt a nL
    | .astore k => Nat.beq n 2 && Nat.beq a k && Nat.blt a nL
    | .lstore k => Nat.beq n 2 && Nat.beq a k && Nat.blt (a + 1) nL
    | .iinc k c => Nat.beq n 3 && Nat.beq a k && Nat.blt a nL && decide (v = .int (Int32.ofInt c))
    | .ifCond _ off => Nat.beq n 3 && decide ((pc : Int) + off = (a : Int))
    | .if_icmp _ off => Nat.beq n 3 && decide ((pc : Int) + off = (a : Int))
    | .goto off => Nat.beq n 3 && decide ((pc : Int) + off = (a : Int))
    | .ifnull off => Nat.beq n 3 && decide ((pc : Int) + off = (a : Int))
    | .ifnonnull off => Nat.beq n 3 && decide ((pc : Int) + off = (a : Int))
    | .tableswitch dflt lo hi offs => decide (0 ≤ (pc : Int) + dflt) && decide ((offs.size : Int) = hi - lo + 1) && offs.toList.all fun o => decide (0 ≤ (pc : Int) + o)
    | .getstatic k => Nat.beq n 3 && Nat.blt a znst && match e with
      | 0 => zhas d (.fieldLink own k (zstc a) (zstm a) "[I")
      | _ + 1 => decide (zNest[d]? = some (.fieldLinkNest own k (zstc a) (zstm a) "[I" zHost))
    | .getfield k => Nat.beq n 3 && Nat.blt a zncl && Nat.blt b (zcf a) && zhas d (.fieldLink own k (zcT a b).1 (zcT a b).2.1 (zcT a b).2.2.1)
    | .putfield k => Nat.beq n 3 && Nat.blt a zncl && Nat.blt b (zcf a) && zhas d (.fieldLink own k (zcT a b).1 (zcT a b).2.1 (zcT a b).2.2.1) && (!(zcT a b).2.2.2 || (ini && own == (zcT a b).1))
    | .iaload => Nat.beq n 1 && match a with
      | 0 => true
      | _ + 1 => Nat.blt b znst
    | .newarray t => Nat.beq n 2 && zisPr (newarray.typeOf t)
    | .new k => Nat.beq n 3 && Nat.blt a zncl && zhas d (.classLink own k (zcn a))
    | .anewarray k => Nat.beq n 3 && Nat.blt a zncl && zhas d (.classLink own k (zcn a)) && zaov.any (fun q => q.1 == zcn a)
    | .invokestatic k => Nat.beq n 3 && match e with
      | 0 => Nat.blt a znm && zsta a && Nat.beq b (znar a) && zhas d (.methodLink own k (zna a))
      | 2 => Nat.blt a znm && zsta a && Nat.beq b (znar a) && decide (zNest[d]? = some (.methodLinkNest own k (zna a) zHost))
      | 3 => zhas d (.methodLink own k Lib.Math.max.name)
      | 4 => zhas d (.methodLink own k Lib.Math.min.name)
      | 5 => zhas d (.methodLink own k arraycopyName)
      | 6 => zhas d (.methodLink own k Lib.MathLoose.max_long.x)
      | 7 => zhas d (.methodLink own k Lib.MathLoose.min_long.x)
      | _ => false
    | .invokevirtual k => Nat.beq n 3 && Nat.blt a znm && !zsta a && !((zna a).name == "<init>") && Nat.beq b (znar a) && match e with
      | 0 => zhas d (.methodLink own k (zna a))
      | _ + 1 => zhas d (.methodLink own k ⟨zcn zcWays, (zna a).name, (zna a).desc⟩)
    | .invokespecial k => Nat.beq n 3 && match e with
      | 0 => zhas d (.methodLink own k objectInit)
      | 1 => Nat.blt a znm && (zna a).name == "<init>" && Nat.beq b (znar a) && decide (zrt a = none) && (match v with
        | .retAddr ix => zhas ix (.methodLink own k (zna a))
        | _ => false)
      | _ + 2 => Nat.blt a znm && (zna a).name == "<init>" && Nat.beq b (znar a) && decide (zrt a = none) && (match v with
        | .retAddr ix => decide (zNest[ix]? = some (.methodLinkNest own k (zna a) zHost))
        | _ => false)
    | .areturn => Nat.beq n 1 && zokS ret zisRf
    | .lreturn => Nat.beq n 1 && decide (ret = some .long)
    | .return_ => Nat.beq n 1 && decide (ret = none)
    | .aaload => Nat.beq n 1
    | .aastore => Nat.beq n 1
    | .ireturn => Nat.beq n 1
    | _ => Nat.beq n 1
def zok (own : String) (bytes : ByteArray) (nL : Nat) (ret : Option FieldType) (ini : Bool) : Nat → List zIt → Bool
  | _, [] => true
  | pc, x :: is => decide (decode bytes pc = .ok (x.1, x.2.1)) && zok1 own nL ret ini pc x && zok own bytes nL ret ini (pc + x.2.1) is
/-- all blocks of method y -/
def zokm (y : Nat) (bs : List (Nat × List zIt)) : Bool := bs.all fun q => zok (zna y).cls (zby y) (zml y) (zrt y) ((zna y).name == "<init>") q.1 q.2
-- the tables, decided
def zhasC (d y : Nat) : Bool := match zN (zTk (d / 256)) (d % 256) with
  | some (.code nm _ ml rt) => decide (nm = zna y) && Nat.beq ml (zml y) && decide (rt = zrt y)
  | _ => false
def zmok (y : Nat) : Bool := zhasC (zxc y) y && zhas (zxi y) (.initialized (zna y).cls) && (bif zsta y then zhas (zxs y) (.static (zna y)) else zhas (zxs y) (.instanceMethod (zna y))) && (Nat.beq (zxe y) 0 || zhas (zxe y) (.selects (zna y).cls (zna y) (zna y))) && Nat.ble (zml y) 40 && plainName (zna y).cls
def zmok2 (y : Nat) : Bool := decide ((zna y).cls ≠ "java/lang/invoke/MethodHandle") && decide ((zna y).cls ≠ "java/lang/invoke/VarHandle") && decide ((parseMethodDescriptor (zna y).desc).map (fun d => d.parameters.length) = some (znar y))
set_option maxRecDepth 100000 in
theorem zmok_0 : ((List.range 20).map (fun i => i + 0)).all zmok = true := by decide +kernel
set_option maxRecDepth 100000 in
theorem zmok_1 : ((List.range 20).map (fun i => i + 20)).all zmok = true := by decide +kernel
set_option maxRecDepth 100000 in
theorem zmok_2 : ((List.range 20).map (fun i => i + 40)).all zmok = true := by decide +kernel
set_option maxRecDepth 100000 in
theorem zmok_3 : ((List.range 20).map (fun i => i + 60)).all zmok = true := by decide +kernel
set_option maxRecDepth 100000 in
theorem zmok_4 : ((List.range 20).map (fun i => i + 80)).all zmok = true := by decide +kernel
set_option maxRecDepth 100000 in
theorem zmok_5 : ((List.range 20).map (fun i => i + 100)).all zmok = true := by decide +kernel
set_option maxRecDepth 100000 in
theorem zmok_6 : ((List.range 20).map (fun i => i + 120)).all zmok = true := by decide +kernel
set_option maxRecDepth 100000 in
theorem zmok_7 : ((List.range 20).map (fun i => i + 140)).all zmok = true := by decide +kernel
set_option maxRecDepth 100000 in
theorem zmok_8 : ((List.range 20).map (fun i => i + 160)).all zmok = true := by decide +kernel
set_option maxRecDepth 100000 in
theorem zmok_9 : ((List.range 20).map (fun i => i + 180)).all zmok = true := by decide +kernel
set_option maxRecDepth 100000 in
theorem zmok_10 : ((List.range 20).map (fun i => i + 200)).all zmok = true := by decide +kernel
set_option maxRecDepth 100000 in
theorem zmok_11 : ((List.range 20).map (fun i => i + 220)).all zmok = true := by decide +kernel
set_option maxRecDepth 100000 in
theorem zmok_12 : ((List.range 20).map (fun i => i + 240)).all zmok = true := by decide +kernel
set_option maxRecDepth 100000 in
theorem zmok_13 : ((List.range 20).map (fun i => i + 260)).all zmok = true := by decide +kernel
set_option maxRecDepth 100000 in
theorem zmok_14 : ((List.range 20).map (fun i => i + 280)).all zmok = true := by decide +kernel
set_option maxRecDepth 100000 in
theorem zmok_15 : ((List.range 8).map (fun i => i + 300)).all zmok = true := by decide +kernel
theorem zmok_all : ∀ y, y < znm → zmok y = true := by
  intro y hy
  have hn : y < 308 := hy
  by_cases h0 : y < 20
  · exact List.all_eq_true.mp zmok_0 y (List.mem_map.mpr ⟨y - 0, List.mem_range.mpr (by omega), by omega⟩)
  by_cases h1 : y < 40
  · exact List.all_eq_true.mp zmok_1 y (List.mem_map.mpr ⟨y - 20, List.mem_range.mpr (by omega), by omega⟩)
  by_cases h2 : y < 60
  · exact List.all_eq_true.mp zmok_2 y (List.mem_map.mpr ⟨y - 40, List.mem_range.mpr (by omega), by omega⟩)
  by_cases h3 : y < 80
  · exact List.all_eq_true.mp zmok_3 y (List.mem_map.mpr ⟨y - 60, List.mem_range.mpr (by omega), by omega⟩)
  by_cases h4 : y < 100
  · exact List.all_eq_true.mp zmok_4 y (List.mem_map.mpr ⟨y - 80, List.mem_range.mpr (by omega), by omega⟩)
  by_cases h5 : y < 120
  · exact List.all_eq_true.mp zmok_5 y (List.mem_map.mpr ⟨y - 100, List.mem_range.mpr (by omega), by omega⟩)
  by_cases h6 : y < 140
  · exact List.all_eq_true.mp zmok_6 y (List.mem_map.mpr ⟨y - 120, List.mem_range.mpr (by omega), by omega⟩)
  by_cases h7 : y < 160
  · exact List.all_eq_true.mp zmok_7 y (List.mem_map.mpr ⟨y - 140, List.mem_range.mpr (by omega), by omega⟩)
  by_cases h8 : y < 180
  · exact List.all_eq_true.mp zmok_8 y (List.mem_map.mpr ⟨y - 160, List.mem_range.mpr (by omega), by omega⟩)
  by_cases h9 : y < 200
  · exact List.all_eq_true.mp zmok_9 y (List.mem_map.mpr ⟨y - 180, List.mem_range.mpr (by omega), by omega⟩)
  by_cases h10 : y < 220
  · exact List.all_eq_true.mp zmok_10 y (List.mem_map.mpr ⟨y - 200, List.mem_range.mpr (by omega), by omega⟩)
  by_cases h11 : y < 240
  · exact List.all_eq_true.mp zmok_11 y (List.mem_map.mpr ⟨y - 220, List.mem_range.mpr (by omega), by omega⟩)
  by_cases h12 : y < 260
  · exact List.all_eq_true.mp zmok_12 y (List.mem_map.mpr ⟨y - 240, List.mem_range.mpr (by omega), by omega⟩)
  by_cases h13 : y < 280
  · exact List.all_eq_true.mp zmok_13 y (List.mem_map.mpr ⟨y - 260, List.mem_range.mpr (by omega), by omega⟩)
  by_cases h14 : y < 300
  · exact List.all_eq_true.mp zmok_14 y (List.mem_map.mpr ⟨y - 280, List.mem_range.mpr (by omega), by omega⟩)
  by_cases h15 : y < 308
  · exact List.all_eq_true.mp zmok_15 y (List.mem_map.mpr ⟨y - 300, List.mem_range.mpr (by omega), by omega⟩)
  omega

set_option maxRecDepth 100000 in
theorem zmok2_0 : ((List.range 40).map (fun i => i + 0)).all zmok2 = true := by decide +kernel
set_option maxRecDepth 100000 in
theorem zmok2_1 : ((List.range 40).map (fun i => i + 40)).all zmok2 = true := by decide +kernel
set_option maxRecDepth 100000 in
theorem zmok2_2 : ((List.range 40).map (fun i => i + 80)).all zmok2 = true := by decide +kernel
set_option maxRecDepth 100000 in
theorem zmok2_3 : ((List.range 40).map (fun i => i + 120)).all zmok2 = true := by decide +kernel
set_option maxRecDepth 100000 in
theorem zmok2_4 : ((List.range 40).map (fun i => i + 160)).all zmok2 = true := by decide +kernel
set_option maxRecDepth 100000 in
theorem zmok2_5 : ((List.range 40).map (fun i => i + 200)).all zmok2 = true := by decide +kernel
set_option maxRecDepth 100000 in
theorem zmok2_6 : ((List.range 40).map (fun i => i + 240)).all zmok2 = true := by decide +kernel
set_option maxRecDepth 100000 in
theorem zmok2_7 : ((List.range 28).map (fun i => i + 280)).all zmok2 = true := by decide +kernel
theorem zmok2_all : ∀ y, y < znm → zmok2 y = true := by
  intro y hy
  have hn : y < 308 := hy
  by_cases h0 : y < 40
  · exact List.all_eq_true.mp zmok2_0 y (List.mem_map.mpr ⟨y - 0, List.mem_range.mpr (by omega), by omega⟩)
  by_cases h1 : y < 80
  · exact List.all_eq_true.mp zmok2_1 y (List.mem_map.mpr ⟨y - 40, List.mem_range.mpr (by omega), by omega⟩)
  by_cases h2 : y < 120
  · exact List.all_eq_true.mp zmok2_2 y (List.mem_map.mpr ⟨y - 80, List.mem_range.mpr (by omega), by omega⟩)
  by_cases h3 : y < 160
  · exact List.all_eq_true.mp zmok2_3 y (List.mem_map.mpr ⟨y - 120, List.mem_range.mpr (by omega), by omega⟩)
  by_cases h4 : y < 200
  · exact List.all_eq_true.mp zmok2_4 y (List.mem_map.mpr ⟨y - 160, List.mem_range.mpr (by omega), by omega⟩)
  by_cases h5 : y < 240
  · exact List.all_eq_true.mp zmok2_5 y (List.mem_map.mpr ⟨y - 200, List.mem_range.mpr (by omega), by omega⟩)
  by_cases h6 : y < 280
  · exact List.all_eq_true.mp zmok2_6 y (List.mem_map.mpr ⟨y - 240, List.mem_range.mpr (by omega), by omega⟩)
  by_cases h7 : y < 308
  · exact List.all_eq_true.mp zmok2_7 y (List.mem_map.mpr ⟨y - 280, List.mem_range.mpr (by omega), by omega⟩)
  omega

def zclok (c : Nat) : Bool := zhas (zxn c) (.instantiable (zcn c) (zcf c)) && zhas (zxm c) (.initialized (zcn c)) && (List.range (zcf c)).all fun k => zhas (zxl c k) (u_lay (zcn c) (zcT c) k) && decide (parseFieldDescriptor (zcT c k).2.2.1 = some (zcy c k)) && (List.range (zcf c)).all fun j => Nat.beq j k || decide ((zcT c j).2.1 ≠ (zcT c k).2.1)
set_option maxRecDepth 100000 in
theorem zclok_all : (List.range zncl).all zclok = true := by decide +kernel
/-- Ways has the fields of Contest at their places -/
theorem zsub_fields : (List.range (zcf zcCont)).all (fun k => decide (zcT zcWays k = zcT zcCont k) && decide (zcy zcWays k = zcy zcCont k)) = true := by decide +kernel
theorem zsub_len : zcf zcCont ≤ zcf zcWays := by decide +kernel
def zuwok (e a : Nat) : Bool := match zuw e a with
  | none => true
  | some q => Nat.blt a znm && Nat.beq (zmc a) zcCont && Nat.blt (zvt zcWays a) znm && decide ((zna a).cls = zcn zcCont) && !zsta (zvt zcWays a) && zhas q.1 (.sameMethod (bif Nat.beq e 0 then zcn zcCont else zcn zcWays) (zcn zcCont) (zna a).name (zna a).desc) && zhas q.2 (.selects (zcn zcWays) ⟨bif Nat.beq e 0 then zcn zcCont else zcn zcWays, (zna a).name, (zna a).desc⟩ (zna (zvt zcWays a)))
set_option maxRecDepth 100000 in
theorem zuwok_all : (List.range 2).all (fun e => (List.range znm).all fun a => zuwok e a) = true := by decide +kernel
/-- fields are of the kinds that rows hold -/
theorem zcy_pr : (List.range zncl).all (fun c => (List.range (zcf c)).all fun k => zisPr (zcy c k) || zisRf (zcy c k)) = true := by decide +kernel
theorem zmc_cls : (List.range znm).all (fun a => !(Nat.blt (zmc a) zncl) || decide (zcn (zmc a) = (zna a).cls)) = true := by decide +kernel
