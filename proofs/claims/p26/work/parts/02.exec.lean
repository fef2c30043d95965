/-! THE SMALL MACHINE: bytecode over a world of fixed cells, as a function. A state gives each cell k and place j a number; references are constant. -/
abbrev sf_S : Type := Nat → Nat → Int32
/-- the locals, the latest store first -/
abbrev sf_L : Type := List (Nat × Option Value)
abbrev sf_Q : Type := Option Value × sf_S
/-- the shape of the cells: an object (its class's place in vwCl, its fields: some k a reference to cell k, none a number), or an array (0 int, 1 boolean, 2 byte; its length) -/
abbrev sf_Lay : Type := List ((Nat × List (Option Nat)) ⊕ (Nat × Nat))
abbrev sf_K (ρ : Type) : Type := Nat → sf_L → List Value → sf_S → Option ρ
/-- a call: the stack and the state before, what goes on behind -/
abbrev sf_J (ρ : Type) : Type := List Value → sf_S → (List Value → sf_S → Option ρ) → Option ρ
/-- a place of the code where a function of one's own takes over -/
abbrev sf_M (ρ : Type) : Type := sf_L → List Value → sf_S → Option ρ
/-- an instruction: itself, the next place, where it jumps, the constant that it brings, a switch's rows, a field's places by classes -/
abbrev sf_E : Type := Instr × Nat × Nat × Value × List (Int32 × Nat) × List (Nat × Nat)
def sf_up (σ : sf_S) (k j : Nat) (v : Int32) : sf_S := fun a b => if a = k ∧ b = j then v else σ a b
def sf_in (i : Int32) (n : Nat) : Bool := !(decide (i < 0)) && decide (i.toNatClampNeg < n)
def sf_01 (x : Int32) : Bool := decide (x = 0) || decide (x = 1)
abbrev sf_nl : Option Value → Option Value
  | some (.long _) => none
  | some (.double _) => none
  | o => o
/-- a long is gone when its second place was written -/
abbrev sf_get : sf_L → Nat → Option Value
  | [], _ => none
  | (k, o) :: l, i => match Nat.beq k i with
    | true => o
    | false => match Nat.beq k (i + 1) with
      | true => sf_nl (sf_get l i)
      | false => sf_get l i
abbrev sf_st1 (L : sf_L) (i : Nat) (v : Value) : sf_L := (i, some v) :: L
abbrev sf_st2 (L : sf_L) (i : Nat) (v : Value) : sf_L := (i, some v) :: (i + 1, none) :: L
abbrev sf_as {α : Type} : List (Nat × α) → Nat → Option α
  | [], _ => none
  | (k, a) :: l, n => if Nat.beq k n then some a else sf_as l n
abbrev sf_sw {ρ : Type} (K : Nat → Option ρ) (x : Int32) (d : Nat) : List (Int32 × Nat) → Option ρ
  | [] => K d
  | (a, t) :: l => if x = a then K t else sf_sw K x d l
abbrev sf_i1 {ρ : Type} (st : List Value) (f : Int32 → List Value → Option ρ) : Option ρ := match st with
  | .int x :: r => f x r
  | _ => none
abbrev sf_i2 {ρ : Type} (st : List Value) (f : Int32 → Int32 → List Value → Option ρ) : Option ρ := match st with
  | .int y :: .int x :: r => f x y r
  | _ => none
abbrev sf_l1 {ρ : Type} (st : List Value) (f : Int64 → List Value → Option ρ) : Option ρ := match st with
  | .long x :: r => f x r
  | _ => none
abbrev sf_l2 {ρ : Type} (st : List Value) (f : Int64 → Int64 → List Value → Option ρ) : Option ρ := match st with
  | .long y :: .long x :: r => f x y r
  | _ => none
abbrev sf_ar {ρ : Type} (lay : sf_Lay) (q : Nat) (f : Nat → Nat → Option ρ) : Option ρ := match lay[q]? with
  | some (.inr (t, n)) => f t n
  | _ => none
abbrev sf_ob {ρ : Type} (lay : sf_Lay) (q : Nat) (f : Nat → List (Option Nat) → Option ρ) : Option ρ := match lay[q]? with
  | some (.inl (c, fs)) => f c fs
  | _ => none
abbrev sf_ldi {ρ : Type} (L : sf_L) (i : Nat) (f : Int32 → Option ρ) : Option ρ := match sf_get L i with
  | some (.int x) => f x
  | _ => none
abbrev sf_ldl {ρ : Type} (L : sf_L) (i : Nat) (f : Int64 → Option ρ) : Option ρ := match sf_get L i with
  | some (.long x) => f x
  | _ => none
abbrev sf_lda {ρ : Type} (L : sf_L) (i : Nat) (f : Nat → Option ρ) : Option ρ := match sf_get L i with
  | some (.ref x) => f x
  | _ => none
abbrev sf_getf {ρ : Type} (lay : sf_Lay) (fp : List (Nat × Nat)) (q : Nat) (σ : sf_S) (f : Value → Option ρ) : Option ρ := sf_ob lay q fun c fs => match sf_as fp c with
  | some k => match fs[k]? with
    | some (some q2) => f (.ref q2)
    | some none => f (.int (σ q k))
    | none => none
  | none => none
/-- a field's place, where it is a number -/
abbrev sf_putf {ρ : Type} (lay : sf_Lay) (fp : List (Nat × Nat)) (q : Nat) (f : Nat → Option ρ) : Option ρ := sf_ob lay q fun c fs => match sf_as fp c with
  | some k => match fs[k]? with
    | some none => f k
    | _ => none
  | none => none
/-- one instruction; rh: what the method answers; J: its calls, by their places -/
abbrev sf_step {ρ : Type} (lay : sf_Lay) (rh : Option Value → sf_S → Option ρ) (J : List (Nat × sf_J ρ)) (e : sf_E) (pc : Nat) (L : sf_L) (st : List Value) (σ : sf_S) (K : sf_K ρ) : Option ρ :=
  match e with
  | (ins, nx, tg, v, sw, fp) =>
    match ins with
    | .iconst _ => K nx L (v :: st) σ
    | .bipush _ => K nx L (v :: st) σ
    | .sipush _ => K nx L (v :: st) σ
    | .ldc _ => K nx L (v :: st) σ
    | .ldc_w _ => K nx L (v :: st) σ
    | .ldc2_w _ => K nx L (v :: st) σ
    | .lconst _ => K nx L (v :: st) σ
    | .iload_n i => sf_ldi L i fun x => K nx L (.int x :: st) σ
    | .iload i => sf_ldi L i fun x => K nx L (.int x :: st) σ
    | .lload_n i => sf_ldl L i fun x => K nx L (.long x :: st) σ
    | .lload i => sf_ldl L i fun x => K nx L (.long x :: st) σ
    | .aload_n i => sf_lda L i fun x => K nx L (.ref x :: st) σ
    | .aload i => sf_lda L i fun x => K nx L (.ref x :: st) σ
    | .istore_n i => sf_i1 st fun x r => K nx (sf_st1 L i (.int x)) r σ
    | .istore i => sf_i1 st fun x r => K nx (sf_st1 L i (.int x)) r σ
    | .lstore_n i => sf_l1 st fun x r => K nx (sf_st2 L i (.long x)) r σ
    | .lstore i => sf_l1 st fun x r => K nx (sf_st2 L i (.long x)) r σ
    | .iinc i _ => sf_ldi L i fun x => match v with
      | .int d => K nx (sf_st1 L i (.int (x + d))) st σ
      | _ => none
    | .iadd => sf_i2 st fun x y r => K nx L (.int (x + y) :: r) σ
    | .isub => sf_i2 st fun x y r => K nx L (.int (x - y) :: r) σ
    | .imul => sf_i2 st fun x y r => K nx L (.int (x * y) :: r) σ
    | .ixor => sf_i2 st fun x y r => K nx L (.int (x ^^^ y) :: r) σ
    | .idiv => sf_i2 st fun x y r => if y = 0 then none else K nx L (.int (x / y) :: r) σ
    | .irem => sf_i2 st fun x y r => if y = 0 then none else K nx L (.int (x - x / y * y) :: r) σ
    | .iand => sf_i2 st fun x y r => K nx L (.int (x &&& y) :: r) σ
    | .ishl => sf_i2 st fun x y r => K nx L (.int (x <<< (y &&& 31)) :: r) σ
    | .ishr => sf_i2 st fun x y r => K nx L (.int (x >>> (y &&& 31)) :: r) σ
    | .land => sf_l2 st fun x y r => K nx L (.long (x &&& y) :: r) σ
    | .lor => sf_l2 st fun x y r => K nx L (.long (x ||| y) :: r) σ
    | .lshl => match st with
      | .int y :: .long x :: r => K nx L (.long (x <<< (y.toInt64 &&& 63)) :: r) σ
      | _ => none
    | .lshr => match st with
      | .int y :: .long x :: r => K nx L (.long (x >>> (y.toInt64 &&& 63)) :: r) σ
      | _ => none
    | .arraylength => match st with
      | .ref q :: r => sf_ar lay q fun t n => match t with
        | 0 => K nx L (.int (Int32.ofNat n) :: r) σ
        | _ => none
      | _ => none
    | .ineg => sf_i1 st fun x r => K nx L (.int (-x) :: r) σ
    | .ladd => sf_l2 st fun x y r => K nx L (.long (x + y) :: r) σ
    | .lsub => sf_l2 st fun x y r => K nx L (.long (x - y) :: r) σ
    | .lmul => sf_l2 st fun x y r => K nx L (.long (x * y) :: r) σ
    | .ldiv => sf_l2 st fun x y r => if y = 0 then none else K nx L (.long (x / y) :: r) σ
    | .lrem => sf_l2 st fun x y r => if y = 0 then none else K nx L (.long (x - x / y * y) :: r) σ
    | .lneg => sf_l1 st fun x r => K nx L (.long (-x) :: r) σ
    | .lcmp => sf_l2 st fun x y r => K nx L (.int (lg_cmp x y) :: r) σ
    | .i2l => sf_i1 st fun x r => K nx L (.long x.toInt64 :: r) σ
    | .l2i => sf_l1 st fun x r => K nx L (.int x.toInt32 :: r) σ
    | .i2b => sf_i1 st fun x r => K nx L (.int x.toInt8.toInt32 :: r) σ
    | .i2s => sf_i1 st fun x r => K nx L (.int x.toInt16.toInt32 :: r) σ
    | .dup => match st with
      | .int x :: r => K nx L (.int x :: .int x :: r) σ
      | .ref x :: r => K nx L (.ref x :: .ref x :: r) σ
      | _ => none
    | .dup2 => match st with
      | .int x :: .ref y :: r => K nx L (.int x :: .ref y :: .int x :: .ref y :: r) σ
      | _ => none
    | .pop => match st with
      | .int _ :: r => K nx L r σ
      | .ref _ :: r => K nx L r σ
      | _ => none
    | .goto _ => K tg L st σ
    | .ifCond .eq _ => sf_i1 st fun x r => if x = 0 then K tg L r σ else K nx L r σ
    | .ifCond .ne _ => sf_i1 st fun x r => if ¬ x = 0 then K tg L r σ else K nx L r σ
    | .ifCond .lt _ => sf_i1 st fun x r => if x < 0 then K tg L r σ else K nx L r σ
    | .ifCond .ge _ => sf_i1 st fun x r => if 0 ≤ x then K tg L r σ else K nx L r σ
    | .ifCond .gt _ => sf_i1 st fun x r => if 0 < x then K tg L r σ else K nx L r σ
    | .ifCond .le _ => sf_i1 st fun x r => if x ≤ 0 then K tg L r σ else K nx L r σ
    | .if_icmp .eq _ => sf_i2 st fun x y r => if x = y then K tg L r σ else K nx L r σ
    | .if_icmp .ne _ => sf_i2 st fun x y r => if ¬ x = y then K tg L r σ else K nx L r σ
    | .if_icmp .lt _ => sf_i2 st fun x y r => if x < y then K tg L r σ else K nx L r σ
    | .if_icmp .ge _ => sf_i2 st fun x y r => if y ≤ x then K tg L r σ else K nx L r σ
    | .if_icmp .gt _ => sf_i2 st fun x y r => if y < x then K tg L r σ else K nx L r σ
    | .if_icmp .le _ => sf_i2 st fun x y r => if x ≤ y then K tg L r σ else K nx L r σ
    | .tableswitch _ _ _ _ => sf_i1 st fun x r => sf_sw (fun t => K t L r σ) x tg sw
    | .lookupswitch _ _ => sf_i1 st fun x r => sf_sw (fun t => K t L r σ) x tg sw
    | .getfield _ => match st with
      | .ref q :: r => sf_getf lay fp q σ fun y => K nx L (y :: r) σ
      | _ => none
    | .putfield _ => match st with
      | .int x :: .ref q :: r => sf_putf lay fp q fun k => match v with
        | .null => K nx L r (sf_up σ q k x)
        | _ => if sf_01 x then K nx L r (sf_up σ q k x) else none
      | _ => none
    | .iaload => match st with
      | .int i :: .ref q :: r => sf_ar lay q fun t n => match t with
        | 0 => if sf_in i n then K nx L (.int (σ q i.toNatClampNeg) :: r) σ else none
        | _ => none
      | _ => none
    | .baload => match st with
      | .int i :: .ref q :: r => sf_ar lay q fun t n => match t with
        | 1 => if sf_in i n then K nx L (.int (σ q i.toNatClampNeg) :: r) σ else none
        | 2 => if sf_in i n then K nx L (.int (σ q i.toNatClampNeg) :: r) σ else none
        | _ => none
      | _ => none
    | .iastore => match st with
      | .int x :: .int i :: .ref q :: r => sf_ar lay q fun t n => match t with
        | 0 => if sf_in i n then K nx L r (sf_up σ q i.toNatClampNeg x) else none
        | _ => none
      | _ => none
    | .bastore => match st with
      | .int x :: .int i :: .ref q :: r => sf_ar lay q fun t n => match t with
        | 1 => if sf_in i n then K nx L r (sf_up σ q i.toNatClampNeg (vp_nar .boolean x)) else none
        | 2 => if sf_in i n then K nx L r (sf_up σ q i.toNatClampNeg (vp_nar .byte x)) else none
        | _ => none
      | _ => none
    | .ireturn => match st with
      | [.int x] => rh (some (.int x)) σ
      | _ => none
    | .lreturn => match st with
      | [.long x] => rh (some (.long x)) σ
      | _ => none
    | .return_ => match st with
      | [] => rh none σ
      | _ => none
    | .invokevirtual _ => match sf_as J pc with
      | some j => j st σ fun st2 σ2 => K nx L st2 σ2
      | none => none
    | .invokestatic _ => match sf_as J pc with
      | some j => j st σ fun st2 σ2 => K nx L st2 σ2
      | none => none
    | _ => none
/-- n instructions at most, from a place on; at the places of sm one's own functions take over -/
abbrev sf_run {ρ : Type} (lay : sf_Lay) (rh : Option Value → sf_S → Option ρ) (J : List (Nat × sf_J ρ)) (tab : List (Nat × sf_E)) (sm : List (Nat × sf_M ρ)) : Nat → sf_K ρ
  | 0 => fun _ _ _ _ => none
  | n + 1 => fun pc L st σ => match sf_as tab pc with
    | some e => sf_step lay rh J e pc L st σ fun pc2 L2 st2 σ2 => match sf_as sm pc2 with
      | some f => f L2 st2 σ2
      | none => sf_run lay rh J tab sm n pc2 L2 st2 σ2
    | none => none
/-- what methods answer: a number (any, or 0 and 1 alone), a long, nothing -/
abbrev sf_hI (v : Option Value) (σ : sf_S) : Option (Int32 × sf_S) := match v with
  | some (.int x) => some (x, σ)
  | _ => none
abbrev sf_hZ (v : Option Value) (σ : sf_S) : Option (Int32 × sf_S) := match v with
  | some (.int x) => if sf_01 x then some (x, σ) else none
  | _ => none
abbrev sf_hL (v : Option Value) (σ : sf_S) : Option (Int64 × sf_S) := match v with
  | some (.long x) => some (x, σ)
  | _ => none
abbrev sf_hV (v : Option Value) (σ : sf_S) : Option sf_S := match v with
  | none => some σ
  | _ => none
def sf_vI (u : Int32 × sf_S) : sf_Q := (some (.int u.1), u.2)
def sf_vL (u : Int64 × sf_S) : sf_Q := (some (.long u.1), u.2)
def sf_vV (u : sf_S) : sf_Q := (none, u)
/-- n words from the top, the lowest first; what lies below -/
abbrev sf_pop {ρ : Type} : Nat → List Value → List Value → (List Value → List Value → Option ρ) → Option ρ
  | 0, acc, st, f => f acc st
  | n + 1, acc, st, f => match st with
    | v :: r => sf_pop n (v :: acc) r f
    | [] => none
abbrev sf_cw : List Value → Nat → Bool
  | [], _ => true
  | v :: r, n => match v, n with
    | .int _, n + 1 => sf_cw r n
    | .ref _, n + 1 => sf_cw r n
    | .long _, n + 2 => sf_cw r n
    | _, _ => false
/-- eight words of the stack at most lie below a call -/
abbrev sf_l4 (r : List Value) : Bool := sf_cw r 8
/-- a call's words: the first is an object of the classes cs (where cs is empty: no receiver is asked for), eight words at most lie below -/
abbrev sf_rc (lay : sf_Lay) (cs : List Nat) (av r : List Value) : Bool := match sf_l4 r with
  | false => false
  | true => match cs with
    | [] => true
    | _ => match av with
      | .ref q :: _ => match lay[q]? with
        | some (.inl (c, _)) => cs.any (fun x => Nat.beq x c)
        | _ => false
      | _ => false
abbrev sf_jI {ρ : Type} (lay : sf_Lay) (cs : List Nat) (n : Nat) (g : List Value → sf_S → Option (Int32 × sf_S)) : sf_J ρ := fun st σ K => sf_pop n [] st fun av r => match sf_rc lay cs av r with
  | true => (g av σ).bind fun u => K (.int u.1 :: r) u.2
  | false => none
abbrev sf_jL {ρ : Type} (lay : sf_Lay) (cs : List Nat) (n : Nat) (g : List Value → sf_S → Option (Int64 × sf_S)) : sf_J ρ := fun st σ K => sf_pop n [] st fun av r => match sf_rc lay cs av r with
  | true => (g av σ).bind fun u => K (.long u.1 :: r) u.2
  | false => none
abbrev sf_jV {ρ : Type} (lay : sf_Lay) (cs : List Nat) (n : Nat) (g : List Value → sf_S → Option sf_S) : sf_J ρ := fun st σ K => sf_pop n [] st fun av r => match sf_rc lay cs av r with
  | true => (g av σ).bind fun u => K r u
  | false => none
/-- Math's own, and arraycopy over the numbers of one array -/
abbrev sf_jmax {ρ : Type} : sf_J ρ := fun st σ K => match st with
  | .int y :: .int x :: r => if sf_l4 r then K (.int (if x < y then y else x) :: r) σ else none
  | _ => none
abbrev sf_jmin {ρ : Type} : sf_J ρ := fun st σ K => match st with
  | .int y :: .int x :: r => if sf_l4 r then K (.int (if y < x then y else x) :: r) σ else none
  | _ => none
abbrev sf_jmaxL {ρ : Type} : sf_J ρ := fun st σ K => match st with
  | .long y :: .long x :: r => if sf_l4 r then K (.long (if y < x then x else y) :: r) σ else none
  | _ => none
abbrev sf_jabsL {ρ : Type} : sf_J ρ := fun st σ K => match st with
  | .long x :: r => if sf_l4 r then K (.long (if 0 < x then x else -x) :: r) σ else none
  | _ => none
def sf_cpy (σ : sf_S) (q : Nat) (i j n : Int32) : sf_S := fun a b => if a = q then va_cpy (σ q) (σ q) i.toNatClampNeg j.toNatClampNeg n.toNatClampNeg b else σ a b
abbrev sf_jcpy {ρ : Type} (lay : sf_Lay) : sf_J ρ := fun st σ K => match st with
  | .int n :: .int j :: .ref q :: .int i :: .ref q2 :: r => if sf_l4 r && Nat.beq q q2 then sf_ar lay q fun t N => match t with
      | 0 => if !(decide (i < 0)) && !(decide (j < 0)) && !(decide (n < 0)) && Nat.ble (i.toNatClampNeg + n.toNatClampNeg) N && Nat.ble (j.toNatClampNeg + n.toNatClampNeg) N then K r (sf_cpy σ q i j n) else none
      | _ => none
    else none
  | _ => none
