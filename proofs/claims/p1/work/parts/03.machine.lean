/-! THE ABSTRACT MACHINE: a method's steps, over a heap that is a function of addresses -/
abbrev AE : Type := (Nat × vp_A) ⊕ (Nat × List Value)
abbrev AH : Type := Nat → Option AE
abbrev LV : Type := List (Nat × Value)
/-- a row of code: pc, the instruction, the next pc, three numbers, two constants -/
abbrev CE : Type := Nat × Instr × Nat × Nat × Nat × Nat × Int32 × Int64
/-- classes and slots, the array classes, whose cells, what stays, where the text constants are -/
abbrev GG : Type := va_G × (Nat → ClassId) × (Nat → Prop) × (State → Prop) × (Nat → Nat)
def uph (h : AH) (a : Nat) (e : AE) : AH := fun b => if b = a then some e else h b
def TY : Nat → FieldType := fun i => match i with
  | 0 => .int
  | 1 => .long
  | 2 => .byte
  | 3 => .boolean
  | _ => .object "RelayHut$Drawing"
abbrev tysOf (t : Nat → ClassId) : List (ClassId × FieldType) := [(t 0, .int), (t 1, .long), (t 2, .byte), (t 3, .boolean), (t 4, .object "RelayHut$Drawing")]
def conc (t : Nat → ClassId) (e : AE) : va_E := match e with
  | .inl x => .inl (t x.1, x.2)
  | .inr o => .inr o
def Rep (G : GG) (h : AH) (nx : Nat) (H : Heap) : Prop := H.size = nx ∧ ∀ a e, h a = some e → G.2.2.1 a ∧ va_at G.1 classes (a, conc G.2.1 e) H
def fetch : List CE → Nat → Option (Instr × Nat × Nat × Nat × Nat × Int32 × Int64)
  | [], _ => none
  | e :: r, pc => bif Nat.beq e.1 pc then some e.2 else fetch r pc
def lk : LV → Nat → Option Value
  | [], _ => none
  | q :: r, i => bif Nat.beq q.1 i then some q.2 else lk r i
def cat2 : Value → Bool
  | .long _ => true
  | .double _ => true
  | _ => false
def csum : List Value → Nat
  | [] => 0
  | x :: r => (bif cat2 x then 2 else 1) + csum r
def rm1 (i : Nat) : LV → LV
  | [] => []
  | q :: r => bif (Nat.beq q.1 i || (Nat.beq (q.1 + 1) i && cat2 q.2)) then rm1 i r else q :: rm1 i r
def rm2 (i : Nat) : LV → LV
  | [] => []
  | q :: r => bif (Nat.beq q.1 i || (Nat.beq q.1 (i + 1) || (Nat.beq (q.1 + 1) i && cat2 q.2))) then rm2 i r else q :: rm2 i r
def popN : Nat → List Value → List Value → Option (List Value × List Value)
  | 0, acc, st => some (acc, st)
  | _ + 1, _, [] => none
  | n + 1, acc, x :: st => popN n (x :: acc) st
def newA (t : ArrayType) (N : Nat) : Option AE := match t with
  | .int => some (.inl (0, N, .inl (fun _ => 0)))
  | .long => some (.inl (1, N, .inr (.inl (fun _ => 0))))
  | .byte => some (.inl (2, N, .inl (fun _ => 0)))
  | .boolean => some (.inl (3, N, .inl (fun _ => 0)))
  | _ => none
/-- a table's jumps -/
def tsw (x : Int32) (pc : Nat) (K : Nat → Prop) : Int → List Int → Prop
  | _, [] => True
  | v, o :: os => (x = Int32.ofInt v → K ((pc : Int) + o).toNat) ∧ tsw x pc K (v + 1) os
def byS : Nat → List Int32 := fun i => match i with
  | 0 => [107, 101, 121]
  | 1 => [116, 114, 97, 99, 107]
  | 2 => [114, 101, 108, 97, 121]
  | 3 => [115, 108, 111, 119]
  | 4 => [108, 97, 109, 112]
  | 5 => [103, 114, 101, 101, 110]
  | 6 => [110, 101, 118, 101, 114]
  | 7 => [105, 102]
  | _ => [59, 61, 33, 38, 124, 40, 41]
/-- indexOf on what is left of a text, from place k on -/
def ixF (c : Int32) : List Int32 → Nat → Int32
  | [], _ => -1
  | b :: l, k => if b = c then nI k else ixF c l (k + 1)
/-- what is no method of ours: Math.min, Math.max, System.arraycopy (ints, longs), length, charAt and indexOf of a text constant -/
def stpS (ad : Nat → Nat) (c : Nat) (st : List Value) (h : AH) (K : List Value → AH → Prop) : Prop := match c with
  | 78 => (match st with | .int y :: .int x :: r => Nat.ble (csum r) 8 = true ∧ K (.int (if y < x then y else x) :: r) h | _ => False)
  | 79 => (match st with | .int y :: .int x :: r => Nat.ble (csum r) 8 = true ∧ K (.int (if x < y then y else x) :: r) h | _ => False)
  | 80 => (match st with | .int z :: .int dp :: .ref d :: .int sp :: .ref s :: r => (∃ n0 n1 f g, Nat.ble (csum r) 8 = true ∧ h s = some (.inl (0, n0, .inl f)) ∧ h d = some (.inl (0, n1, .inl g)) ∧ ¬ sp < 0 ∧ ¬ dp < 0 ∧ ¬ z < 0 ∧ sp.toNatClampNeg + z.toNatClampNeg ≤ n0 ∧ dp.toNatClampNeg + z.toNatClampNeg ≤ n1 ∧ K r (uph h d (.inl (0, n1, .inl (va_cpy f g sp.toNatClampNeg dp.toNatClampNeg z.toNatClampNeg))))) | _ => False)
  | 81 => (match st with | .int z :: .int dp :: .ref d :: .int sp :: .ref s :: r => (∃ n0 n1 f g, Nat.ble (csum r) 8 = true ∧ h s = some (.inl (1, n0, .inr (.inl f))) ∧ h d = some (.inl (1, n1, .inr (.inl g))) ∧ ¬ sp < 0 ∧ ¬ dp < 0 ∧ ¬ z < 0 ∧ sp.toNatClampNeg + z.toNatClampNeg ≤ n0 ∧ dp.toNatClampNeg + z.toNatClampNeg ≤ n1 ∧ K r (uph h d (.inl (1, n1, .inr (.inl (va_cpy f g sp.toNatClampNeg dp.toNatClampNeg z.toNatClampNeg)))))) | _ => False)
  | 82 => (match st with | .ref q :: r => (∃ i, Nat.ble (csum r) 8 = true ∧ i < 9 ∧ q = ad i ∧ K (.int (nI (byS i).length) :: r) h) | _ => False)
  | 83 => (match st with | .int j :: .ref q :: r => (∃ i k, Nat.ble (csum r) 8 = true ∧ i < 9 ∧ q = ad i ∧ j = nI k ∧ k < (byS i).length ∧ K (.int ((byS i).getD k 0) :: r) h) | _ => False)
  | 84 => (match st with | .int x :: .ref q :: r => (∃ i, Nat.ble (csum r) 8 = true ∧ i < 9 ∧ q = ad i ∧ K (.int (ixF x (byS i) 0) :: r) h) | _ => False)
  | _ => False
def stp (ad : Nat → Nat) (R : Nat → Nat → Nat → List Value → AH → Nat → (Option Value → AH → Nat → Prop) → Prop) (es : List CE) (Ret : Instr → List Value → AH → Nat → Prop) (mc ms : Nat) (K : Nat → LV → List Value → AH → Nat → Nat → Nat → Prop) (pc : Nat) (lv : LV) (st : List Value) (h : AH) (nx k n : Nat) : Prop :=
  match fetch es pc with
  | none => False
  | some (ins, nxt, a, b, c, v, w) => match ins with
    | .iconst _ => K nxt lv (.int v :: st) h nx k n
    | .bipush _ => K nxt lv (.int v :: st) h nx k n
    | .sipush _ => K nxt lv (.int v :: st) h nx k n
    | .ldc _ => match b with | 0 => K nxt lv (.int v :: st) h nx k n | _ => K nxt lv (.ref (ad a) :: st) h nx k n
    | .ldc_w _ => match b with | 0 => K nxt lv (.int v :: st) h nx k n | _ => False
    | .lconst _ => K nxt lv (.long w :: st) h nx k n
    | .ldc2_w _ => K nxt lv (.long w :: st) h nx k n
    | .iload_n _ => match lk lv a with | some (.int x) => K nxt lv (.int x :: st) h nx k n | _ => False
    | .iload _ => match lk lv a with | some (.int x) => K nxt lv (.int x :: st) h nx k n | _ => False
    | .lload_n _ => match lk lv a with | some (.long x) => K nxt lv (.long x :: st) h nx k n | _ => False
    | .lload _ => match lk lv a with | some (.long x) => K nxt lv (.long x :: st) h nx k n | _ => False
    | .aload_n _ => match lk lv a with | some (.ref x) => K nxt lv (.ref x :: st) h nx k n | _ => False
    | .aload _ => match lk lv a with | some (.ref x) => K nxt lv (.ref x :: st) h nx k n | _ => False
    | .istore_n _ => match st with | .int x :: r => K nxt ((a, .int x) :: rm1 a lv) r h nx k n | _ => False
    | .istore _ => match st with | .int x :: r => K nxt ((a, .int x) :: rm1 a lv) r h nx k n | _ => False
    | .astore_n _ => match st with | .ref x :: r => K nxt ((a, .ref x) :: rm1 a lv) r h nx k n | _ => False
    | .astore _ => match st with | .ref x :: r => K nxt ((a, .ref x) :: rm1 a lv) r h nx k n | _ => False
    | .lstore_n _ => match st with | .long x :: r => K nxt ((a, .long x) :: rm2 a lv) r h nx k n | _ => False
    | .lstore _ => match st with | .long x :: r => K nxt ((a, .long x) :: rm2 a lv) r h nx k n | _ => False
    | .iinc _ _ => match lk lv a with | some (.int x) => K nxt ((a, .int (x + v)) :: rm1 a lv) st h nx k n | _ => False
    | .dup => match st with | .int x :: r => K nxt lv (.int x :: .int x :: r) h nx k n | .ref x :: r => K nxt lv (.ref x :: .ref x :: r) h nx k n | _ => False
    | .dup2 => match st with | .long x :: r => K nxt lv (.long x :: .long x :: r) h nx k n | .int x :: .ref y :: r => K nxt lv (.int x :: .ref y :: .int x :: .ref y :: r) h nx k n | _ => False
    | .pop => match st with | .int _ :: r => K nxt lv r h nx k n | .ref _ :: r => K nxt lv r h nx k n | _ => False
    | .iadd => match st with | .int y :: .int x :: r => K nxt lv (.int (x + y) :: r) h nx k n | _ => False
    | .isub => match st with | .int y :: .int x :: r => K nxt lv (.int (x - y) :: r) h nx k n | _ => False
    | .imul => match st with | .int y :: .int x :: r => K nxt lv (.int (x * y) :: r) h nx k n | _ => False
    | .iand => match st with | .int y :: .int x :: r => K nxt lv (.int (x &&& y) :: r) h nx k n | _ => False
    | .ior => match st with | .int y :: .int x :: r => K nxt lv (.int (x ||| y) :: r) h nx k n | _ => False
    | .ixor => match st with | .int y :: .int x :: r => K nxt lv (.int (x ^^^ y) :: r) h nx k n | _ => False
    | .ishl => match st with | .int y :: .int x :: r => K nxt lv (.int (x <<< (y &&& 31)) :: r) h nx k n | _ => False
    | .ishr => match st with | .int y :: .int x :: r => K nxt lv (.int (x >>> (y &&& 31)) :: r) h nx k n | _ => False
    | .iushr => match st with | .int y :: .int x :: r => K nxt lv (.int ((x.toUInt32 >>> (y.toUInt32 &&& Int32.toUInt32 31)).toInt32) :: r) h nx k n | _ => False
    | .idiv => match st with | .int y :: .int x :: r => ¬ y = 0 ∧ K nxt lv (.int (x / y) :: r) h nx k n | _ => False
    | .irem => match st with | .int y :: .int x :: r => ¬ y = 0 ∧ K nxt lv (.int (x - x / y * y) :: r) h nx k n | _ => False
    | .ineg => match st with | .int x :: r => K nxt lv (.int (-x) :: r) h nx k n | _ => False
    | .ladd => match st with | .long y :: .long x :: r => K nxt lv (.long (x + y) :: r) h nx k n | _ => False
    | .lsub => match st with | .long y :: .long x :: r => K nxt lv (.long (x - y) :: r) h nx k n | _ => False
    | .lmul => match st with | .long y :: .long x :: r => K nxt lv (.long (x * y) :: r) h nx k n | _ => False
    | .land => match st with | .long y :: .long x :: r => K nxt lv (.long (x &&& y) :: r) h nx k n | _ => False
    | .lor => match st with | .long y :: .long x :: r => K nxt lv (.long (x ||| y) :: r) h nx k n | _ => False
    | .lxor => match st with | .long y :: .long x :: r => K nxt lv (.long (x ^^^ y) :: r) h nx k n | _ => False
    | .lshl => match st with | .int y :: .long x :: r => K nxt lv (.long (x <<< (y.toInt64 &&& 63)) :: r) h nx k n | _ => False
    | .lshr => match st with | .int y :: .long x :: r => K nxt lv (.long (x >>> (y.toInt64 &&& 63)) :: r) h nx k n | _ => False
    | .lushr => match st with | .int y :: .long x :: r => K nxt lv (.long ((x.toUInt64 >>> (y.toInt64.toUInt64 &&& Int64.toUInt64 63)).toInt64) :: r) h nx k n | _ => False
    | .lcmp => match st with | .long y :: .long x :: r => K nxt lv (.int (lg_cmp x y) :: r) h nx k n | _ => False
    | .i2l => match st with | .int x :: r => K nxt lv (.long x.toInt64 :: r) h nx k n | _ => False
    | .l2i => match st with | .long x :: r => K nxt lv (.int x.toInt32 :: r) h nx k n | _ => False
    | .i2b => match st with | .int x :: r => K nxt lv (.int x.toInt8.toInt32 :: r) h nx k n | _ => False
    | .i2c => match st with | .int x :: r => K nxt lv (.int (x.toUInt32 % 65536).toInt32 :: r) h nx k n | _ => False
    | .ifCond cd _ => match st with | .int x :: r => (match cd with | .eq => (x = 0 → K a lv r h nx k n) ∧ (¬ x = 0 → K nxt lv r h nx k n) | .ne => (¬ x = 0 → K a lv r h nx k n) ∧ (x = 0 → K nxt lv r h nx k n) | .lt => (x < 0 → K a lv r h nx k n) ∧ (¬ x < 0 → K nxt lv r h nx k n) | .ge => (0 ≤ x → K a lv r h nx k n) ∧ (¬ 0 ≤ x → K nxt lv r h nx k n) | .gt => (0 < x → K a lv r h nx k n) ∧ (¬ 0 < x → K nxt lv r h nx k n) | .le => (x ≤ 0 → K a lv r h nx k n) ∧ (¬ x ≤ 0 → K nxt lv r h nx k n)) | _ => False
    | .if_icmp cd _ => match st with | .int y :: .int x :: r => (match cd with | .eq => (x = y → K a lv r h nx k n) ∧ (¬ x = y → K nxt lv r h nx k n) | .ne => (¬ x = y → K a lv r h nx k n) ∧ (x = y → K nxt lv r h nx k n) | .lt => (x < y → K a lv r h nx k n) ∧ (¬ x < y → K nxt lv r h nx k n) | .ge => (y ≤ x → K a lv r h nx k n) ∧ (¬ y ≤ x → K nxt lv r h nx k n) | .gt => (y < x → K a lv r h nx k n) ∧ (¬ y < x → K nxt lv r h nx k n) | .le => (x ≤ y → K a lv r h nx k n) ∧ (¬ x ≤ y → K nxt lv r h nx k n)) | _ => False
    | .if_acmp cd _ => match st with | y :: x :: r => (∃ rx ry : Option Nat, va_rf rx = x ∧ va_rf ry = y ∧ (match cd with | .eq => (rx = ry → K a lv r h nx k n) ∧ (¬ rx = ry → K nxt lv r h nx k n) | .ne => (¬ rx = ry → K a lv r h nx k n) ∧ (rx = ry → K nxt lv r h nx k n))) | _ => False
    | .goto _ => K a lv st h nx k n
    | .tableswitch d lo hi offs => match st with | .int x :: r => ((x.toInt < lo ∨ hi < x.toInt) → K ((pc : Int) + d).toNat lv r h nx k n) ∧ tsw x pc (fun t => K t lv r h nx k n) lo offs.toList | _ => False
    | .lookupswitch d ps => match st with | .int x :: r => (∃ t : Nat, (pc : Int) + Op.lookupswitch.offset ps.toList d x.toInt = (t : Int) ∧ K t lv r h nx k n) | _ => False
    | .getfield _ => match st with | .ref o :: r => (∃ fs, h o = some (.inr (a, fs)) ∧ ∃ x, fs[b]? = some x ∧ K nxt lv (x :: r) h nx k n) | _ => False
    | .putfield _ => match st with | x :: .ref o :: r => (∃ fs, h o = some (.inr (a, fs)) ∧ b < fs.length ∧ narrow (TYF a b) x = x ∧ fits (TYF a b) x = true ∧ K nxt lv r (uph h o (.inr (a, fs.set b x))) nx k n) | _ => False
    | .arraylength => match st with | .ref o :: r => (∃ t x, h o = some (.inl (t, x)) ∧ t < 5 ∧ K nxt lv (.int (Int32.ofNat x.1) :: r) h nx k n) | _ => False
    | .iaload => match st with | .int i :: .ref o :: r => (∃ N f, h o = some (.inl (0, N, .inl f)) ∧ vp_in i N ∧ K nxt lv (.int (f i.toNatClampNeg) :: r) h nx k n) | _ => False
    | .baload => match st with | .int i :: .ref o :: r => (∃ t N f, h o = some (.inl (t, N, .inl f)) ∧ (t = 2 ∨ t = 3) ∧ vp_in i N ∧ K nxt lv (.int (f i.toNatClampNeg) :: r) h nx k n) | _ => False
    | .laload => match st with | .int i :: .ref o :: r => (∃ N f, h o = some (.inl (1, N, .inr (.inl f))) ∧ vp_in i N ∧ K nxt lv (.long (f i.toNatClampNeg) :: r) h nx k n) | _ => False
    | .aaload => match st with | .int i :: .ref o :: r => (∃ N f, h o = some (.inl (4, N, .inr (.inr (.inr (.inr f))))) ∧ vp_in i N ∧ K nxt lv (va_rf (f i.toNatClampNeg) :: r) h nx k n) | _ => False
    | .iastore => match st with | .int x :: .int i :: .ref o :: r => (∃ N f, h o = some (.inl (0, N, .inl f)) ∧ vp_in i N ∧ K nxt lv r (uph h o (.inl (0, N, .inl (upd f i.toNatClampNeg x)))) nx k n) | _ => False
    | .bastore => match st with | .int x :: .int i :: .ref o :: r => (∃ t N f, h o = some (.inl (t, N, .inl f)) ∧ (t = 2 ∨ t = 3) ∧ vp_in i N ∧ K nxt lv r (uph h o (.inl (t, N, .inl (upd f i.toNatClampNeg (vp_nar (TY t) x))))) nx k n) | _ => False
    | .lastore => match st with | .long x :: .int i :: .ref o :: r => (∃ N f, h o = some (.inl (1, N, .inr (.inl f))) ∧ vp_in i N ∧ K nxt lv r (uph h o (.inl (1, N, .inr (.inl (vp_updL f i.toNatClampNeg x))))) nx k n) | _ => False
    | .aastore => match st with | .ref x :: .int i :: .ref o :: r => (∃ N f vs, h o = some (.inl (4, N, .inr (.inr (.inr (.inr f))))) ∧ h x = some (.inr (0, vs)) ∧ vp_in i N ∧ K nxt lv r (uph h o (.inl (4, N, .inr (.inr (.inr (.inr (va_up f i.toNatClampNeg (some x)))))))) nx k n) | _ => False
    | .anewarray _ => match st with | .int x :: r => (∃ N, ¬ x < 0 ∧ x.toNatClampNeg = N ∧ N * 4 ≤ 536870912 ∧ k + 1 ≤ mc ∧ n + N ≤ ms ∧ K nxt lv (.ref nx :: r) (uph h nx (.inl (4, N, .inr (.inr (.inr (.inr (fun _ => none))))))) (nx + 1) (k + 1) (n + N)) | _ => False
    | .new _ => k + 1 ≤ mc ∧ n + (dfl a).length ≤ ms ∧ K nxt lv (.ref nx :: st) (uph h nx (.inr (a, dfl a))) (nx + 1) (k + 1) (n + (dfl a).length)
    | .newarray t => match st with | .int x :: r => (∃ N e, newA t N = some e ∧ ¬ x < 0 ∧ x.toNatClampNeg = N ∧ N * 8 ≤ 536870912 ∧ k + 1 ≤ mc ∧ n + N ≤ ms ∧ K nxt lv (.ref nx :: r) (uph h nx e) (nx + 1) (k + 1) (n + N)) | _ => False
    | .invokestatic _ => bif Nat.blt c 13 then (match popN a [] st with | some (As, r) => (bif Nat.ble (csum r) 8 then (∃ c1 s1, k + c1 ≤ mc ∧ n + s1 ≤ ms ∧ R b c1 s1 As h nx (fun u h1 nx1 => K nxt lv (u.toList ++ r) h1 nx1 (k + c1) (n + s1))) else False) | none => False) else stpS ad c st h (fun st1 h1 => K nxt lv st1 h1 nx k n)
    | .invokevirtual _ => bif Nat.blt c 13 then (match popN a [] st with | some (As, .ref o :: r) => (bif Nat.ble (csum r) 8 then (∃ fs, h o = some (.inr (c, fs)) ∧ ∃ c1 s1, k + c1 ≤ mc ∧ n + s1 ≤ ms ∧ R b c1 s1 (.ref o :: As) h nx (fun u h1 nx1 => K nxt lv (u.toList ++ r) h1 nx1 (k + c1) (n + s1))) else False) | _ => False) else stpS ad c st h (fun st1 h1 => K nxt lv st1 h1 nx k n)
    | .invokespecial _ => match popN a [] st with | some (As, .ref o :: r) => (bif Nat.ble (csum r) 8 then (match c with | 1 => K nxt lv r h nx k n | _ => (∃ c1 s1, k + c1 ≤ mc ∧ n + s1 ≤ ms ∧ R b c1 s1 (.ref o :: As) h nx (fun u h1 nx1 => K nxt lv (u.toList ++ r) h1 nx1 (k + c1) (n + s1)))) else False) | _ => False
    | .ireturn => Ret .ireturn st h nx
    | .lreturn => Ret .lreturn st h nx
    | .areturn => Ret .areturn st h nx
    | .return_ => Ret .return_ st h nx
    | _ => False
def ilen (i : Instr) (d : Nat) : Nat := match i with
  | .iconst _ => 1
  | .bipush _ => 2
  | .sipush _ => 3
  | .ldc _ => 2
  | .ldc_w _ => 3
  | .lconst _ => 1
  | .ldc2_w _ => 3
  | .iload_n _ => 1
  | .iload _ => 2
  | .istore_n _ => 1
  | .istore _ => 2
  | .lload_n _ => 1
  | .lload _ => 2
  | .lstore_n _ => 1
  | .lstore _ => 2
  | .aload_n _ => 1
  | .aload _ => 2
  | .astore_n _ => 1
  | .astore _ => 2
  | .newarray _ => 2
  | .tableswitch _ _ _ _ => d
  | .lookupswitch _ _ => d
  | .iadd => 1
  | .isub => 1
  | .imul => 1
  | .iand => 1
  | .ior => 1
  | .ixor => 1
  | .ishl => 1
  | .ishr => 1
  | .iushr => 1
  | .idiv => 1
  | .irem => 1
  | .ineg => 1
  | .ladd => 1
  | .lsub => 1
  | .lmul => 1
  | .land => 1
  | .lor => 1
  | .lxor => 1
  | .lshl => 1
  | .lshr => 1
  | .lushr => 1
  | .lcmp => 1
  | .i2l => 1
  | .l2i => 1
  | .i2b => 1
  | .i2c => 1
  | .dup => 1
  | .dup2 => 1
  | .pop => 1
  | .arraylength => 1
  | .iaload => 1
  | .baload => 1
  | .laload => 1
  | .aaload => 1
  | .iastore => 1
  | .bastore => 1
  | .lastore => 1
  | .aastore => 1
  | .ireturn => 1
  | .lreturn => 1
  | .areturn => 1
  | .return_ => 1
  | .athrow => 1
  | .aconst_null => 1
  | .i2s => 1
  | .pop2 => 1
  | .caload => 1
  | .castore => 1
  | _ => 3
def flOK (own i a b : Nat) : Bool := (FLt own).any (fun q => Nat.beq q.1 own && (Nat.beq q.2.1 i && (Nat.beq q.2.2.1 a && Nat.beq q.2.2.2.1 b)))
def mlOK (own i b : Nat) : Bool := (MLt own).any (fun q => Nat.beq q.1 own && (Nat.beq q.2.1 i && Nat.beq q.2.2.1 b))
def nlOK (own i b : Nat) : Bool := NLt.any (fun q => Nat.beq q.1 own && (Nat.beq q.2.1 i && Nat.beq q.2.2.1 b))
def mdOK (b a st : Nat) (sel : Bool) : Bool := MDt.any (fun q => Nat.beq q.1 b && (Nat.beq q.2.2.2.2.2.1 st && (Nat.beq q.2.2.2.2.2.2 a && (!sel || Nat.blt 0 q.2.2.2.2.1))))
def rmOK (g : SG) (b : Nat) : Bool := Nat.blt (sg b).2.2.2.2.1 g.2.2.2.2.1 && Nat.ble (8 + ((sg b).2.2.1 + 11) + (sg b).2.2.2.2.2) g.2.2.2.2.2
def spOK (own : Nat) (g : SG) (i b c : Nat) : Bool := match c with
  | 77 => true
  | 78 => mlOK own i 316 && (Nat.blt 0 g.2.2.2.2.1 && Nat.ble 21 g.2.2.2.2.2)
  | 79 => mlOK own i 315 && (Nat.blt 0 g.2.2.2.2.1 && Nat.ble 21 g.2.2.2.2.2)
  | 80 => ACt.any (fun q => Nat.beq q.1 own && Nat.beq q.2.1 i) && (Nat.blt 0 g.2.2.2.2.1 && Nat.ble 26 g.2.2.2.2.2)
  | 81 => ACt.any (fun q => Nat.beq q.1 own && Nat.beq q.2.1 i) && (Nat.blt 0 g.2.2.2.2.1 && Nat.ble 26 g.2.2.2.2.2)
  | _ => false
def svOK (own : Nat) (g : SG) (i a b c : Nat) : Bool := match c with
  | 77 => true
  | 82 => rmOK g 317 && (mdOK 317 0 0 true && mlOK own i 317)
  | 83 => rmOK g 318 && (mdOK 318 1 0 true && mlOK own i 318)
  | 84 => rmOK g 319 && (mdOK 319 1 0 true && mlOK own i 319)
  | _ => false
def isOwn (c b : Nat) : Bool := Nat.blt c 13 && decide (RN c = (sg b).1.cls)
def xchk (own : Nat) (g : SG) (pc : Nat) (ins : Instr) (a b c : Nat) (v : Int32) (w : Int64) : Bool := match ins with
  | .iconst n => decide (Int32.ofInt n = v)
  | .bipush n => decide ((Int8.ofInt n).toInt32 = v)
  | .sipush n => decide ((Int16.ofInt n).toInt32 = v)
  | .ldc i => match b with
    | 0 => LDt.any (fun q => Nat.beq q.1 own && (Nat.beq q.2.1 i && decide (q.2.2.1 = v)))
    | _ => SRt.any (fun q => Nat.beq q.1 own && (Nat.beq q.2.1 i && Nat.beq q.2.2 a))
  | .ldc_w i => match b with
    | 0 => LDt.any (fun q => Nat.beq q.1 own && (Nat.beq q.2.1 i && decide (q.2.2.1 = v)))
    | _ => true
  | .lconst n => decide (Int64.ofNat (n : Nat) = w)
  | .ldc2_w i => LLt.any (fun q => Nat.beq q.1 own && (Nat.beq q.2.1 i && decide (q.2.2.1 = w)))
  | .iload_n i => Nat.beq i.val a
  | .lload_n i => Nat.beq i.val a
  | .aload_n i => Nat.beq i.val a
  | .iload i => Nat.beq i a
  | .lload i => Nat.beq i a
  | .aload i => Nat.beq i a
  | .istore_n i => Nat.beq i.val a && Nat.blt a g.2.2.1
  | .astore_n i => Nat.beq i.val a && Nat.blt a g.2.2.1
  | .lstore_n i => Nat.beq i.val a && Nat.blt (a + 1) g.2.2.1
  | .istore i => Nat.beq i a && Nat.blt a g.2.2.1
  | .astore i => Nat.beq i a && Nat.blt a g.2.2.1
  | .lstore i => Nat.beq i a && Nat.blt (a + 1) g.2.2.1
  | .iinc i n => Nat.beq i a && (Nat.blt a g.2.2.1 && decide (Int32.ofInt n = v))
  | .ifCond _ off => decide ((pc : Int) + off = (a : Int))
  | .if_icmp _ off => decide ((pc : Int) + off = (a : Int))
  | .if_acmp _ off => decide ((pc : Int) + off = (a : Int))
  | .goto off => decide ((pc : Int) + off = (a : Int))
  | .tableswitch d lo hi offs => decide (0 ≤ (pc : Int) + d) && (offs.toList.all (fun o => decide (0 ≤ (pc : Int) + o)) && (decide (hi + 1 = lo + (offs.toList.length : Int)) && (decide (-2147483648 ≤ lo) && decide (hi < 2147483648))))
  | .lookupswitch _ ps => (ps.toList.zip (ps.toList.drop 1)).all (fun (x, y) => x.1 < y.1)
  | .getfield i => bif Nat.beq a 13 then true else flOK own i a b
  | .putfield i => flOK own i a b && (!(TF a b).2.2.2 || (decide (g.1.name = "<init>") && decide ((TF a b).1 = RN own)))
  | .new i => CLt.any (fun q => Nat.beq q.1 own && (Nat.beq q.2.1 i && Nat.beq q.2.2.1 a))
  | .invokestatic i => bif Nat.blt c 13 then (rmOK g b && (mdOK b a 1 false && (mlOK own i b || nlOK own i b))) else spOK own g i b c
  | .invokevirtual i => bif Nat.blt c 13 then (rmOK g b && (mdOK b a 0 true && (mlOK own i b && isOwn c b))) else svOK own g i a b c
  | .anewarray i => ANt.any (fun q => Nat.beq q.1 own && Nat.beq q.2.1 i)
  | .invokespecial i => bif Nat.beq c 1 then (Nat.beq a 0 && (OIt.any (fun q => Nat.beq q.1 own && Nat.beq q.2.1 i) && (Nat.blt 0 g.2.2.2.2.1 && Nat.ble 20 g.2.2.2.2.2))) else (rmOK g b && (mdOK b a 0 false && (decide ((sg b).1.name = "<init>") && (decide ((sg b).2.2.2.1 = none) && (mlOK own i b || nlOK own i b)))))
  | .lreturn => decide (g.2.2.2.1 = some .long)
  | .areturn => match g.2.2.2.1 with | some (.object _) => true | some (.array _) => true | _ => false
  | .return_ => decide (g.2.2.2.1 = none)
  | _ => true
def chkE (own : Nat) (g : SG) (e : CE) : Bool := decide (decode g.2.1 e.1 = .ok (e.2.1, ilen e.2.1 (e.2.2.1 - e.1))) && (Nat.beq e.2.2.1 (e.1 + ilen e.2.1 (e.2.2.1 - e.1)) && xchk own g e.1 e.2.1 e.2.2.2.1 e.2.2.2.2.1 e.2.2.2.2.2.1 e.2.2.2.2.2.2.1 e.2.2.2.2.2.2.2)
def CK (own : Nat) (g : SG) (es : List CE) : Bool := es.all (chkE own g)
