/-! THE WALK: values as a walk names them: a number, a reference by its object's number, a long, a double, an address outside the world (an exception that was caught) -/
abbrev zV : Type := Int32 ⊕ Nat ⊕ Int64 ⊕ UInt64 ⊕ Nat
def zv (E : zE) : zV → Value
  | .inl x => .int x
  | .inr (.inl r) => zrv E r
  | .inr (.inr (.inl x)) => .long x
  | .inr (.inr (.inr (.inl x))) => .double x
  | .inr (.inr (.inr (.inr a))) => .ref a
abbrev zLV : Type := List (Option zV)
/-- the locals that are known, by their places -/
def zlv (E : zE) : Nat → zLV → List (Nat × Value)
  | _, [] => []
  | i, none :: t => zlv E (i + 1) t
  | i, some v :: t => (i, zv E v) :: zlv E (i + 1) t
def zget : zLV → Nat → Option zV
  | [], _ => none
  | a :: _, 0 => a
  | _ :: t, k + 1 => zget t k
def zwide : Option zV → Bool
  | some (.inr (.inr (.inl _))) => true
  | some (.inr (.inr (.inr (.inl _)))) => true
  | _ => false
def zset : zLV → Nat → zV → Option zLV
  | [], _, _ => none
  | _ :: t, 0, v => some (some v :: t)
  | a :: t, k + 1, v => match zwide a with
    | true => none
    | false => match zset t k v with
      | some t' => some (a :: t')
      | none => none
/-- locals left out, by a mask -/
def zmask : zLV → List Bool → zLV
  | [], _ => []
  | a :: t, [] => a :: t
  | a :: t, b :: m => (match b with | true => a | false => none) :: zmask t m
def zcst : Int → Int32
  | .ofNat k => Int32.ofNat k
  | .negSucc k => -(Int32.ofNat (k + 1))
def zfit (b : Nat) : Int → Bool
  | .ofNat k => Nat.ble (k + 1) b
  | .negSucc k => Nat.ble (k + 1) b
/-- the instructions that touch neither heap nor branch -/
def zp1 : Instr → Nat → zLV → List zV → Option (Nat × zLV × List zV)
  | .iconst n, pc, lv, st => some (pc + 1, lv, .inl (zcst n) :: st)
  | .bipush n, pc, lv, st => match zfit 128 n with
    | true => some (pc + 2, lv, .inl (zcst n) :: st)
    | false => none
  | .sipush n, pc, lv, st => match zfit 32768 n with
    | true => some (pc + 3, lv, .inl (zcst n) :: st)
    | false => none
  | .iload_n k, pc, lv, st => match zget lv k with
    | some (.inl x) => some (pc + 1, lv, .inl x :: st)
    | _ => none
  | .iload k, pc, lv, st => match zget lv k with
    | some (.inl x) => some (pc + 2, lv, .inl x :: st)
    | _ => none
  | .aload_n k, pc, lv, st => match zget lv k with
    | some (.inr (.inl r)) => some (pc + 1, lv, .inr (.inl r) :: st)
    | _ => none
  | .aload k, pc, lv, st => match zget lv k with
    | some (.inr (.inl r)) => some (pc + 2, lv, .inr (.inl r) :: st)
    | _ => none
  | .dload k, pc, lv, st => match zget lv k with
    | some (.inr (.inr (.inr (.inl r)))) => some (pc + 2, lv, .inr (.inr (.inr (.inl r))) :: st)
    | _ => none
  | .istore_n k, pc, lv, .inl x :: st => match zset lv k (.inl x) with
    | some lv' => some (pc + 1, lv', st)
    | none => none
  | .istore k, pc, lv, .inl x :: st => match zset lv k (.inl x) with
    | some lv' => some (pc + 2, lv', st)
    | none => none
  | .astore_n k, pc, lv, .inr (.inl r) :: st => match zset lv k (.inr (.inl r)) with
    | some lv' => some (pc + 1, lv', st)
    | none => none
  | .astore k, pc, lv, .inr (.inl r) :: st => match zset lv k (.inr (.inl r)) with
    | some lv' => some (pc + 2, lv', st)
    | none => none
  | .astore_n k, pc, lv, .inr (.inr (.inr (.inr r))) :: st => match zset lv k (.inr (.inr (.inr (.inr r)))) with
    | some lv' => some (pc + 1, lv', st)
    | none => none
  | .astore k, pc, lv, .inr (.inr (.inr (.inr r))) :: st => match zset lv k (.inr (.inr (.inr (.inr r)))) with
    | some lv' => some (pc + 2, lv', st)
    | none => none
  | .iinc k n, pc, lv, st => match zget lv k with
    | some (.inl x) => match zset lv k (.inl (x + zcst n)) with
      | some lv' => some (pc + 3, lv', st)
      | none => none
    | _ => none
  | .iadd, pc, lv, .inl y :: .inl x :: st => some (pc + 1, lv, .inl (x + y) :: st)
  | .isub, pc, lv, .inl y :: .inl x :: st => some (pc + 1, lv, .inl (x - y) :: st)
  | .imul, pc, lv, .inl y :: .inl x :: st => some (pc + 1, lv, .inl (x * y) :: st)
  | .iand, pc, lv, .inl y :: .inl x :: st => some (pc + 1, lv, .inl (x &&& y) :: st)
  | .i2l, pc, lv, .inl x :: st => some (pc + 1, lv, .inr (.inr (.inl x.toInt64)) :: st)
  | .l2i, pc, lv, .inr (.inr (.inl x)) :: st => some (pc + 1, lv, .inl x.toInt32 :: st)
  | .i2c, pc, lv, .inl x :: st => some (pc + 1, lv, .inl (x.toUInt32 % 65536).toInt32 :: st)
  | .i2d, pc, lv, .inl x :: st => some (pc + 1, lv, .inr (.inr (.inr (.inl (FP.i2d x)))) :: st)
  | .lmul, pc, lv, .inr (.inr (.inl y)) :: .inr (.inr (.inl x)) :: st => some (pc + 1, lv, .inr (.inr (.inl (x * y))) :: st)
  | .lcmp, pc, lv, .inr (.inr (.inl y)) :: .inr (.inr (.inl x)) :: st => some (pc + 1, lv, .inl (lg_cmp x y) :: st)
  | .dcmp op, pc, lv, .inr (.inr (.inr (.inl y))) :: .inr (.inr (.inr (.inl x))) :: st => some (pc + 1, lv, .inl (Op.cmpValue (FP.dcmp x y) op) :: st)
  | .dstore k, pc, lv, .inr (.inr (.inr (.inl x))) :: st => match zget lv (k + 1) with
    | none => match zset lv (k + 1) (.inl 0) with
      | some _ => match zset lv k (.inr (.inr (.inr (.inl x)))) with
        | some lv' => some (pc + 2, lv', st)
        | none => none
      | none => none
    | _ => none
  | .dup, pc, lv, .inl x :: st => some (pc + 1, lv, .inl x :: .inl x :: st)
  | .dup, pc, lv, .inr (.inl x) :: st => some (pc + 1, lv, .inr (.inl x) :: .inr (.inl x) :: st)
  | .dup2, pc, lv, .inl y :: .inr (.inl x) :: st => some (pc + 1, lv, .inl y :: .inr (.inl x) :: .inl y :: .inr (.inl x) :: st)
  | _, _, _, _ => none
def zrun : List jI → Nat → zLV → List zV → Option (Nat × zLV × List zV)
  | [], pc, lv, st => some (pc, lv, st)
  | r :: t, pc, lv, st => match Nat.beq r.1 pc with
    | true => match zp1 r.2.1 pc lv st with
      | some (pc', lv', st') => match Nat.beq pc' (pc + r.2.2) with
        | true => zrun t pc' lv' st'
        | false => none
      | none => none
    | false => none
