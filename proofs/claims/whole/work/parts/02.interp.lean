/-! THE ABSTRACT MACHINE: a resolved copy of the bytecode runs over a state of numbers; the objects' graph never changes -/
/-- the state: ints, longs, booleans, each by object and place -/
abbrev aSt : Type := (Nat → Nat → Int32) × (Nat → Nat → Int64) × (Nat → Nat → Bool)
/-- the locals: what is known of each -/
abbrev aLo : Type := List (Option Value)
/-- an instruction: its pc; itself; two numbers by which it is resolved; a place among the words; a constant; targets -/
abbrev aMI : Type := Nat × Instr × Nat × Nat × Nat × Value × List Nat
/-- an object: an array (kind, length) or an object (class, its references) -/
abbrev OD : Type := (Nat × Nat) ⊕ (Nat × List (Option Nat))
def b2i (b : Bool) : Int32 := cond b 1 0
def s_i (σ : aSt) (o k : Nat) (v : Int32) : aSt := (fun a b => cond (Nat.beq a o) (cond (Nat.beq b k) v (σ.1 a b)) (σ.1 a b), σ.2)
def s_l (σ : aSt) (o k : Nat) (v : Int64) : aSt := (σ.1, fun a b => cond (Nat.beq a o) (cond (Nat.beq b k) v (σ.2.1 a b)) (σ.2.1 a b), σ.2.2)
def s_b (σ : aSt) (o k : Nat) (v : Bool) : aSt := (σ.1, σ.2.1, fun a b => cond (Nat.beq a o) (cond (Nat.beq b k) v (σ.2.2 a b)) (σ.2.2 a b))
def cpI (σ : aSt) (o sp dp n : Nat) : aSt := (fun a b => cond (Nat.beq a o) (va_cpy (σ.1 o) (σ.1 o) sp dp n b) (σ.1 a b), σ.2)
def OT : List OD := [.inr (10, [some 1, some 4, some 6, some 11, some 16, some 21, some 26, some 30, some 34, some 41, some 49, some 57, some 65, none, none, none]), .inr (6, [some 2, some 3, none, none, none, none, none, none, none]), .inl (0, 200), .inl (0, 4), .inr (9, [some 5, none]), .inl (0, 64), .inr (3, [some 7, none]), .inl (0, 40), .inr (7, [some 9, some 10, none]), .inl (0, 2001), .inl (0, 2001), .inr (4, [some 8, some 12, some 13, some 14, some 15, none, none, none, none, none]), .inl (0, 121), .inl (0, 121), .inl (0, 121), .inl (1, 121), .inr (4, [some 8, some 17, some 18, some 19, some 20, none, none, none, none, none]), .inl (0, 121), .inl (0, 121), .inl (0, 121), .inl (1, 121), .inr (8, [some 11, some 22, some 23, some 24, some 25, none, none, none]), .inr (0, [none, none, none, none, none, none, none, none]), .inl (0, 120), .inl (0, 11), .inl (0, 11), .inr (2, [some 21, some 27, some 28, some 29, none, none, none]), .inl (0, 121), .inl (0, 120), .inl (0, 120), .inr (2, [some 21, some 31, some 32, some 33, none, none, none]), .inl (0, 121), .inl (0, 120), .inl (0, 120), .inr (5, [some 35, some 36, some 37, some 38, some 39, some 40, none, none, none, none, none, none, none]), .inl (0, 97), .inl (0, 97), .inl (0, 194), .inl (0, 195), .inl (0, 200), .inl (0, 98), .inr (1, [some 42, some 43, some 44, some 45, some 46, some 47, some 48, none, none, none]), .inl (0, 32), .inl (0, 32), .inl (0, 64), .inl (0, 64), .inl (0, 64), .inl (0, 64), .inl (0, 4), .inr (1, [some 50, some 51, some 52, some 53, some 54, some 55, some 56, none, none, none]), .inl (0, 32), .inl (0, 32), .inl (0, 64), .inl (0, 64), .inl (0, 64), .inl (0, 64), .inl (0, 4), .inr (1, [some 58, some 59, some 60, some 61, some 62, some 63, some 64, none, none, none]), .inl (0, 32), .inl (0, 32), .inl (0, 64), .inl (0, 64), .inl (0, 64), .inl (0, 64), .inl (0, 4), .inl (0, 19), .inr (11, [none, none, none, none, none, none, some 67, some 68, some 69, none, some 70, none, some 71, none, none, none, none, none, none, none, none, some 72, none, none, none, none, none, none, none, none, none, none, none, none, none, none, none, none, none, none, some 73, some 74, some 75, some 76, some 77, some 78, none, some 79, some 80, some 81, some 82, none, some 83, some 84, some 85, none, some 86, none]), .inl (0, 120), .inl (1, 120), .inl (0, 120), .inl (2, 200), .inl (0, 5), .inl (0, 40), .inl (0, 64), .inl (3, 64), .inl (0, 64), .inl (0, 64), .inl (3, 64), .inl (3, 64), .inl (3, 49), .inl (0, 120), .inl (1, 120), .inl (0, 120), .inl (3, 120), .inl (3, 121), .inl (0, 120), .inl (2, 100), .inl (0, 25), .inl (0, 6), .inl (0, 6), .inl (1, 6), .inl (0, 0)]
def nW : Nat := 87
def SCR : Nat := 91
def FT : List (List Nat) := [[3, 1, 1, 1, 1, 1, 1, 1], [9, 9, 9, 9, 9, 9, 9, 0, 0, 0], [9, 9, 9, 9, 0, 0, 3], [9, 0], [9, 9, 9, 9, 9, 0, 0, 0, 0, 0], [9, 9, 9, 9, 9, 9, 0, 0, 0, 0, 0, 0, 0], [9, 9, 0, 0, 0, 0, 0, 0, 0], [9, 9, 0], [9, 9, 9, 9, 9, 0, 0, 0], [9, 0], [9, 9, 9, 9, 9, 9, 9, 9, 9, 9, 9, 9, 9, 3, 3, 3], [0, 3, 0, 0, 0, 0, 9, 9, 9, 0, 9, 0, 9, 0, 0, 0, 0, 0, 0, 0, 0, 9, 0, 1, 1, 3, 0, 1, 0, 0, 0, 3, 0, 0, 3, 0, 0, 0, 1, 1, 9, 9, 9, 9, 9, 9, 0, 9, 9, 9, 9, 0, 9, 9, 9, 0, 9, 0]]
def STT : List (String × String × String × Nat) := [("CurvePoints", "PRIMES", "[I", 87), ("CurvePoints$ClassTable", "MODULI", "[I", 88), ("CurvePoints$ClassTable", "MODULI_PRIMES", "[I", 89), ("CurvePoints$ClassTable", "MODULI_SQUARES", "[J", 90)]
/-- the text constants: their bytes -/
def SLX : List (List Int32) := [[99, 117, 114, 118, 101], [119, 105, 116, 104, 105, 110], [122, 101, 114, 111], [112], [44, 32], [121, 121, 61, 120, 120, 120], [120, 120], [120]]
def slx (a : Nat) : Option (List Int32) := cond (Nat.blt a 200) none (SLX[a - 200]?)
def slen (a : Nat) : Int32 := nI (((slx a).getD []).length)
def sch (a : Nat) (i : Int32) : Int32 := ((slx a).getD []).getD i.toNatClampNeg 0
def oty (a : Nat) : Nat := match OT[a]? with
  | some (.inl q) => q.1
  | _ => 9
def oln (a : Nat) : Nat := match OT[a]? with
  | some (.inl q) => q.2
  | _ => 0
def ocl (a : Nat) : Nat := match OT[a]? with
  | some (.inr q) => q.1
  | _ => 99
def orf (a k : Nat) : Nat := match OT[a]? with
  | some (.inr q) => (match q.2[k]? with
    | some (some t) => t
    | _ => 0)
  | _ => 0
def fty (ci k : Nat) : Nat := match FT[ci]? with
  | some l => (match l[k]? with
    | some t => t
    | none => 8)
  | none => 8
def lenI (σ : aSt) (a : Nat) : Int32 := cond (Nat.beq a SCR) (σ.1 (SCR + 1) 0) (nI (oln a))
def inb (t : Nat) (σ : aSt) (a : Nat) (i : Int32) : Prop := oty a = t ∧ 0 ≤ i ∧ i < lenI σ a
/-- words of the values that stay on the stack -/
def wsm : List Value → Nat
  | [] => 0
  | v :: S => v.category + wsm S
def rcv (vs : List Value) (cs : List Nat) : Bool := match vs, cs with
  | .ref o :: _, ci :: _ => Nat.beq (ocl o) ci
  | _, _ => false
def irem (x y : Int32) : Int32 := x - x / y * y
def lrem (x y : Int64) : Int64 := x - x / y * y
def imax (x y : Int32) : Int32 := if x < y then y else x
def imin (x y : Int32) : Int32 := if y < x then y else x
def iabs (x : Int32) : Int32 := if 0 ≤ x then x else 0 - x
def labs (x : Int64) : Int64 := if 0 < x then x else -x
def lmax (x y : Int64) : Int64 := if y < x then x else y
def iushr (x y : Int32) : Int32 := (x.toUInt32 >>> (y.toUInt32 &&& Int32.toUInt32 31)).toInt32
def lushr (x : Int64) (y : Int32) : Int64 := (x.toUInt64 >>> (y.toInt64.toUInt64 &&& Int64.toUInt64 63)).toInt64
theorem cond_and {b : Bool} {X : Prop} (h : cond b X False) : b = true ∧ X := by
  cases b with
  | true => exact ⟨rfl, h⟩
  | false => exact h.elim
theorem cond_not {b : Bool} {X : Prop} (h : cond b False X) : b = false ∧ X := by
  cases b with
  | true => exact h.elim
  | false => exact ⟨rfl, h⟩
def gI (L : aLo) (i : Nat) (f : Int32 → Prop) : Prop := match L[i]? with
  | some (some (.int x)) => f x
  | _ => False
def gL (L : aLo) (i : Nat) (f : Int64 → Prop) : Prop := match L[i]? with
  | some (some (.long x)) => f x
  | _ => False
def gR (L : aLo) (i : Nat) (f : Nat → Prop) : Prop := match L[i]? with
  | some (some (.ref x)) => f x
  | _ => False
def p1 (S : List Value) (f : Value → List Value → Prop) : Prop := match S with
  | .int x :: S => f (.int x) S
  | .ref x :: S => f (.ref x) S
  | _ => False
def pI (S : List Value) (f : Int32 → List Value → Prop) : Prop := match S with
  | .int x :: S => f x S
  | _ => False
def pL (S : List Value) (f : Int64 → List Value → Prop) : Prop := match S with
  | .long x :: S => f x S
  | _ => False
def pR (S : List Value) (f : Nat → List Value → Prop) : Prop := match S with
  | .ref x :: S => f x S
  | _ => False
def pII (S : List Value) (f : Int32 → Int32 → List Value → Prop) : Prop := match S with
  | .int y :: .int x :: S => f x y S
  | _ => False
def pLL (S : List Value) (f : Int64 → Int64 → List Value → Prop) : Prop := match S with
  | .long y :: .long x :: S => f x y S
  | _ => False
def pLI (S : List Value) (f : Int64 → Int32 → List Value → Prop) : Prop := match S with
  | .int y :: .long x :: S => f x y S
  | _ => False
def pRi (S : List Value) (f : Nat → Int32 → List Value → Prop) : Prop := match S with
  | .int y :: .ref x :: S => f x y S
  | _ => False
def pRl (S : List Value) (f : Nat → Int64 → List Value → Prop) : Prop := match S with
  | .long y :: .ref x :: S => f x y S
  | _ => False
def pRii (S : List Value) (f : Nat → Int32 → Int32 → List Value → Prop) : Prop := match S with
  | .int z :: .int y :: .ref x :: S => f x y z S
  | _ => False
def pRil (S : List Value) (f : Nat → Int32 → Int64 → List Value → Prop) : Prop := match S with
  | .long z :: .int y :: .ref x :: S => f x y z S
  | _ => False
def pCp (S : List Value) (f : Nat → Int32 → Int32 → Int32 → List Value → Prop) : Prop := match S with
  | .int n :: .int dp :: .ref y :: .int sp :: .ref x :: S => y = x ∧ f x sp dp n S
  | _ => False
/-- storing into the locals: a long's first half that loses its second half is forgotten (b not 0), or there is none (b 0) -/
def okS (L : aLo) (i b : Nat) : Bool := Nat.blt i L.length && (!(Nat.beq b 0) || Nat.beq i 0 || (match L[i - 1]? with
  | some (some v) => Nat.beq v.category 1
  | some none => true
  | none => true))
def okS2 (L : aLo) (i b : Nat) : Bool := Nat.blt (i + 1) L.length && okS L i b
def lst1 (L : aLo) (i b : Nat) (v : Value) : aLo := (cond (Nat.beq b 0) L (L.set (i - 1) none)).set i (some v)
def lst2 (L : aLo) (i b : Nat) (v : Value) : aLo := ((cond (Nat.beq b 0) L (L.set (i - 1) none)).set i (some v)).set (i + 1) none
def aTsw (x : Int32) (K : Nat → Prop) (d : Nat) : Int32 → List Nat → Prop
  | _, [] => K d
  | c, t :: ts => if x = c then K t else aTsw x K d (c + 1) ts
/-- one instruction: what must hold for what follows (K: at a place of the code; R: behind a return; C: of a call) -/
def aStep (C : Nat → List Value → aSt → (Option Value → aSt → Prop) → Prop) (R : Option Value → aSt → Prop) (K : Nat → aLo → List Value → aSt → Prop) (q : aMI) (k : Nat) (L : aLo) (S : List Value) (σ : aSt) : Prop := match q.2.1 with
  | .iconst _ => K (k + 1) L (q.2.2.2.2.2.1 :: S) σ
  | .bipush _ => K (k + 1) L (q.2.2.2.2.2.1 :: S) σ
  | .sipush _ => K (k + 1) L (q.2.2.2.2.2.1 :: S) σ
  | .lconst _ => K (k + 1) L (q.2.2.2.2.2.1 :: S) σ
  | .ldc _ => K (k + 1) L (q.2.2.2.2.2.1 :: S) σ
  | .ldc_w _ => K (k + 1) L (q.2.2.2.2.2.1 :: S) σ
  | .ldc2_w _ => K (k + 1) L (q.2.2.2.2.2.1 :: S) σ
  | .iload i => gI L i (fun x => K (k + 1) L (.int x :: S) σ)
  | .iload_n i => gI L i.val (fun x => K (k + 1) L (.int x :: S) σ)
  | .lload i => gL L i (fun x => K (k + 1) L (.long x :: S) σ)
  | .lload_n i => gL L i.val (fun x => K (k + 1) L (.long x :: S) σ)
  | .aload i => gR L i (fun x => K (k + 1) L (.ref x :: S) σ)
  | .aload_n i => gR L i.val (fun x => K (k + 1) L (.ref x :: S) σ)
  | .istore i => pI S (fun x S => cond (okS L i q.2.2.2.1) (K (k + 1) (lst1 L i q.2.2.2.1 (.int x)) S σ) False)
  | .istore_n i => pI S (fun x S => cond (okS L i.val q.2.2.2.1) (K (k + 1) (lst1 L i.val q.2.2.2.1 (.int x)) S σ) False)
  | .lstore i => pL S (fun x S => cond (okS2 L i q.2.2.2.1) (K (k + 1) (lst2 L i q.2.2.2.1 (.long x)) S σ) False)
  | .lstore_n i => pL S (fun x S => cond (okS2 L i.val q.2.2.2.1) (K (k + 1) (lst2 L i.val q.2.2.2.1 (.long x)) S σ) False)
  | .astore i => pR S (fun x S => cond (okS L i q.2.2.2.1) (K (k + 1) (lst1 L i q.2.2.2.1 (.ref x)) S σ) False)
  | .astore_n i => pR S (fun x S => cond (okS L i.val q.2.2.2.1) (K (k + 1) (lst1 L i.val q.2.2.2.1 (.ref x)) S σ) False)
  | .iinc i _ => gI L i (fun x => pI [q.2.2.2.2.2.1] (fun c _ => K (k + 1) (L.set i (some (.int (x + c)))) S σ))
  | .iadd => pII S (fun x y S => K (k + 1) L (.int (x + y) :: S) σ)
  | .isub => pII S (fun x y S => K (k + 1) L (.int (x - y) :: S) σ)
  | .imul => pII S (fun x y S => K (k + 1) L (.int (x * y) :: S) σ)
  | .iand => pII S (fun x y S => K (k + 1) L (.int (x &&& y) :: S) σ)
  | .ior => pII S (fun x y S => K (k + 1) L (.int (x ||| y) :: S) σ)
  | .ixor => pII S (fun x y S => K (k + 1) L (.int (x ^^^ y) :: S) σ)
  | .ishl => pII S (fun x y S => K (k + 1) L (.int (x <<< (y &&& 31)) :: S) σ)
  | .ishr => pII S (fun x y S => K (k + 1) L (.int (x >>> (y &&& 31)) :: S) σ)
  | .iushr => pII S (fun x y S => K (k + 1) L (.int (iushr x y) :: S) σ)
  | .ladd => pLL S (fun x y S => K (k + 1) L (.long (x + y) :: S) σ)
  | .lsub => pLL S (fun x y S => K (k + 1) L (.long (x - y) :: S) σ)
  | .lmul => pLL S (fun x y S => K (k + 1) L (.long (x * y) :: S) σ)
  | .land => pLL S (fun x y S => K (k + 1) L (.long (x &&& y) :: S) σ)
  | .lor => pLL S (fun x y S => K (k + 1) L (.long (x ||| y) :: S) σ)
  | .lshl => pLI S (fun x y S => K (k + 1) L (.long (x <<< (y.toInt64 &&& 63)) :: S) σ)
  | .lshr => pLI S (fun x y S => K (k + 1) L (.long (x >>> (y.toInt64 &&& 63)) :: S) σ)
  | .lushr => pLI S (fun x y S => K (k + 1) L (.long (lushr x y) :: S) σ)
  | .idiv => pII S (fun x y S => ¬ y = 0 ∧ K (k + 1) L (.int (x / y) :: S) σ)
  | .irem => pII S (fun x y S => ¬ y = 0 ∧ K (k + 1) L (.int (irem x y) :: S) σ)
  | .ldiv => pLL S (fun x y S => ¬ y = 0 ∧ K (k + 1) L (.long (x / y) :: S) σ)
  | .lrem => pLL S (fun x y S => ¬ y = 0 ∧ K (k + 1) L (.long (lrem x y) :: S) σ)
  | .ineg => pI S (fun x S => K (k + 1) L (.int (-x) :: S) σ)
  | .lneg => pL S (fun x S => K (k + 1) L (.long (-x) :: S) σ)
  | .i2l => pI S (fun x S => K (k + 1) L (.long x.toInt64 :: S) σ)
  | .l2i => pL S (fun x S => K (k + 1) L (.int x.toInt32 :: S) σ)
  | .i2b => pI S (fun x S => K (k + 1) L (.int x.toInt8.toInt32 :: S) σ)
  | .lcmp => pLL S (fun x y S => K (k + 1) L (.int (lg_cmp x y) :: S) σ)
  | .dup => p1 S (fun v S => K (k + 1) L (v :: v :: S) σ)
  | .pop => p1 S (fun v S => K (k + 1) L S σ)
  | .ifCond .eq _ => pI S (fun x S => if x = 0 then K q.2.2.1 L S σ else K (k + 1) L S σ)
  | .ifCond .ne _ => pI S (fun x S => if x ≠ 0 then K q.2.2.1 L S σ else K (k + 1) L S σ)
  | .ifCond .lt _ => pI S (fun x S => if x < 0 then K q.2.2.1 L S σ else K (k + 1) L S σ)
  | .ifCond .ge _ => pI S (fun x S => if 0 ≤ x then K q.2.2.1 L S σ else K (k + 1) L S σ)
  | .ifCond .gt _ => pI S (fun x S => if 0 < x then K q.2.2.1 L S σ else K (k + 1) L S σ)
  | .ifCond .le _ => pI S (fun x S => if x ≤ 0 then K q.2.2.1 L S σ else K (k + 1) L S σ)
  | .if_icmp .eq _ => pII S (fun x y S => if x = y then K q.2.2.1 L S σ else K (k + 1) L S σ)
  | .if_icmp .ne _ => pII S (fun x y S => if x ≠ y then K q.2.2.1 L S σ else K (k + 1) L S σ)
  | .if_icmp .lt _ => pII S (fun x y S => if x < y then K q.2.2.1 L S σ else K (k + 1) L S σ)
  | .if_icmp .ge _ => pII S (fun x y S => if y ≤ x then K q.2.2.1 L S σ else K (k + 1) L S σ)
  | .if_icmp .gt _ => pII S (fun x y S => if y < x then K q.2.2.1 L S σ else K (k + 1) L S σ)
  | .if_icmp .le _ => pII S (fun x y S => if x ≤ y then K q.2.2.1 L S σ else K (k + 1) L S σ)
  | .goto _ => K q.2.2.1 L S σ
  | .tableswitch _ _ _ _ => pI S (fun x S => pI [q.2.2.2.2.2.1] (fun c _ => aTsw x (fun t => K t L S σ) q.2.2.1 c q.2.2.2.2.2.2))
  | .getfield _ => pR S (fun o S => cond (Nat.beq (ocl o) q.2.2.2.1) (match fty q.2.2.2.1 q.2.2.1 with | 0 => K (k + 1) L (.int (σ.1 o q.2.2.1) :: S) σ | 1 => K (k + 1) L (.long (σ.2.1 o q.2.2.1) :: S) σ | 3 => K (k + 1) L (.int (b2i (σ.2.2 o q.2.2.1)) :: S) σ | 9 => K (k + 1) L (.ref (orf o q.2.2.1) :: S) σ | _ => False) False)
  | .putfield _ => match fty q.2.2.2.1 q.2.2.1 with | 0 => pRi S (fun o x S => cond (Nat.beq (ocl o) q.2.2.2.1) (K (k + 1) L S (s_i σ o q.2.2.1 x)) False) | 1 => pRl S (fun o x S => cond (Nat.beq (ocl o) q.2.2.2.1) (K (k + 1) L S (s_l σ o q.2.2.1 x)) False) | 3 => pRi S (fun o x S => cond (Nat.beq (ocl o) q.2.2.2.1) ((x = 0 ∨ x = 1) ∧ K (k + 1) L S (s_b σ o q.2.2.1 (x != 0))) False) | _ => False
  | .getstatic _ => K (k + 1) L (.ref q.2.2.1 :: S) σ
  | .arraylength => pR S (fun o S => cond (Nat.beq (oty o) 9) False (K (k + 1) L (.int (lenI σ o) :: S) σ))
  | .iaload => pRi S (fun o i S => inb 0 σ o i ∧ K (k + 1) L (.int (σ.1 o i.toNatClampNeg) :: S) σ)
  | .laload => pRi S (fun o i S => inb 1 σ o i ∧ K (k + 1) L (.long (σ.2.1 o i.toNatClampNeg) :: S) σ)
  | .baload => match q.2.2.2.1 with | 2 => pRi S (fun o i S => inb 2 σ o i ∧ K (k + 1) L (.int (σ.1 o i.toNatClampNeg) :: S) σ) | 3 => pRi S (fun o i S => inb 3 σ o i ∧ K (k + 1) L (.int (b2i (σ.2.2 o i.toNatClampNeg)) :: S) σ) | _ => False
  | .iastore => pRii S (fun o i x S => inb 0 σ o i ∧ cond (Nat.blt o nW) (K (k + 1) L S (s_i σ o i.toNatClampNeg x)) False)
  | .lastore => pRil S (fun o i x S => inb 1 σ o i ∧ cond (Nat.blt o nW) (K (k + 1) L S (s_l σ o i.toNatClampNeg x)) False)
  | .bastore => match q.2.2.2.1 with | 2 => pRii S (fun o i x S => inb 2 σ o i ∧ cond (Nat.blt o nW) (K (k + 1) L S (s_i σ o i.toNatClampNeg x.toInt8.toInt32)) False) | 3 => pRii S (fun o i x S => inb 3 σ o i ∧ cond (Nat.blt o nW) ((x = 0 ∨ x = 1) ∧ K (k + 1) L S (s_b σ o i.toNatClampNeg (x != 0))) False) | _ => False
  | .invokestatic _ => match q.2.2.2.1 with | 0 => (match q.2.2.1 with | 0 => pII S (fun x y S => cond (Nat.ble (wsm S) 8) (K (k + 1) L (.int (imax x y) :: S) σ) False) | _ + 1 => pII S (fun x y S => cond (Nat.ble (wsm S) 8) (K (k + 1) L (.int (imin x y) :: S) σ) False)) | 1 => (match q.2.2.1 with | 0 => pI S (fun x S => cond (Nat.ble (wsm S) 8) (K (k + 1) L (.int (iabs x) :: S) σ) False) | _ + 1 => pL S (fun x S => cond (Nat.ble (wsm S) 8) (K (k + 1) L (.long (labs x) :: S) σ) False)) | 3 => pLL S (fun x y S => cond (Nat.ble (wsm S) 8) (K (k + 1) L (.long (lmax x y) :: S) σ) False) | 2 => pCp S (fun o sp dp n S => wsm S ≤ 8 ∧ oty o = 0 ∧ o < nW ∧ 0 ≤ sp ∧ 0 ≤ dp ∧ 0 ≤ n ∧ sp.toNatClampNeg + n.toNatClampNeg ≤ oln o ∧ dp.toNatClampNeg + n.toNatClampNeg ≤ oln o ∧ K (k + 1) L S (cpI σ o sp.toNatClampNeg dp.toNatClampNeg n.toNatClampNeg)) | n + 4 => cond (Nat.ble (wsm (S.drop n)) 8 && Nat.ble n S.length) (C q.2.2.1 (S.take n).reverse σ (fun r σ1 => K (k + 1) L (r.toList ++ S.drop n) σ1)) False
  | .invokevirtual _ => match q.2.2.2.1 with | 0 => pR S (fun o S => cond ((slx o).isSome && Nat.ble (wsm S) 8) (K (k + 1) L (.int (slen o) :: S) σ) False) | 1 => pRi S (fun o i S => (0 ≤ i ∧ i < slen o) ∧ cond ((slx o).isSome && Nat.ble (wsm S) 8) (K (k + 1) L (.int (sch o i) :: S) σ) False) | n + 4 => cond (Nat.ble (wsm (S.drop (n + 1))) 8 && Nat.ble (n + 1) S.length && rcv (S.take (n + 1)).reverse q.2.2.2.2.2.2) (C q.2.2.1 (S.take (n + 1)).reverse σ (fun r σ1 => K (k + 1) L (r.toList ++ S.drop (n + 1)) σ1)) False | _ => False
  | .ireturn => match S with | [.int x] => (match q.2.2.2.1 with | 0 => R (some (.int x)) σ | _ => (x = 0 ∨ x = 1) ∧ R (some (.int x)) σ) | _ => False
  | .lreturn => match S with | [.long x] => R (some (.long x)) σ | _ => False
  | .areturn => match S with | [.ref x] => R (some (.ref x)) σ | _ => False
  | .return_ => match S with | [] => R none σ | _ => False
  | _ => False
def aRun (C : Nat → List Value → aSt → (Option Value → aSt → Prop) → Prop) (R : Option Value → aSt → Prop) (code : List aMI) : Nat → Nat → aLo → List Value → aSt → Prop
  | 0, _, _, _, _ => False
  | n + 1, k, L, S, σ => match code[k]? with
    | some q => aStep C R (aRun C R code n) q k L S σ
    | none => False
/-- a method: its name, bytes, locals, return type; static; places of its words (code, static or instance, selects, initialized); arguments (the receiver aside); its class' number; its code -/
abbrev aME : Type := MethodName × ByteArray × Nat × Option FieldType × Bool × (Nat × Nat × Nat × Nat) × Nat × Nat × List aMI
def loA : List Value → aLo
  | [] => []
  | v :: vs => cond (Nat.beq v.category 2) (some v :: none :: loA vs) (some v :: loA vs)
def lo0 (n : Nat) (vs : List Value) : aLo := loA vs ++ List.replicate (n - (loA vs).length) none
