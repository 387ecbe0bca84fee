section
/-! THE SMALL MACHINE: values, memory, one step of an instruction, by continuation -/
abbrev am_V : Type := Int ⊕ ((Nat × Nat) ⊕ (Int64 ⊕ (UInt32 ⊕ (UInt64 ⊕ Unit))))
abbrev am_i (z : Int) : am_V := .inl z
/-- a reference: the tag of what it points to, the cell's number -/
abbrev am_r (t i : Nat) : am_V := .inr (.inl (t, i))
abbrev am_l (x : Int64) : am_V := .inr (.inr (.inl x))
abbrev am_f (x : UInt32) : am_V := .inr (.inr (.inr (.inl x)))
abbrev am_d (x : UInt64) : am_V := .inr (.inr (.inr (.inr (.inl x))))
abbrev am_u : am_V := .inr (.inr (.inr (.inr (.inr ()))))
/-- the memory: a cell's number, a field's or an element's place; its number -/
abbrev am_M : Type := Nat → Int → Int
abbrev am_O : Type := Option am_V × am_M
/-- a row of code: pc, instruction, its length, what its link comes to, which locals live there (0: not said) -/
abbrev am_E : Type := Nat × ClassFile.Instr × Nat × Nat × Nat
/-- a method: its locals, its kind of answer (0 none, 1 int, 2 State, 3 long, 4 boolean), its code -/
abbrev am_T : Type := Nat × Nat × List am_E
abbrev am_K : Type := Nat → List am_V → List am_V → am_M → Option am_O
abbrev am_C : Type := Nat → List am_V → am_M → Option am_O
def am_wr (z : Int) : Int := (z + 2147483648) % 4294967296 - 2147483648
def am_up (f : Int → Int) (k x : Int) : Int → Int := fun j => if j = k then x else f j
def am_st (M : am_M) (i : Nat) (f : Int → Int) : am_M := fun j => if j = i then f else M j
/-- one place of a cell is set -/
def am_set (M : am_M) (i : Nat) (j x : Int) : am_M := am_st M i (am_up (M i) j x)
def am_cpy (f g : Int → Int) (n : Int) : Int → Int := fun j => if 0 ≤ j ∧ j < n then f j else g j
def am_cp (M : am_M) (i i' : Nat) (n : Int) : am_M := am_st M i (am_cpy (M i') (M i) n)
/-- a number, a memory, named -/
def am_v (z : Int) (f : Int → Option am_O) : Option am_O := f z
def am_w (M : am_M) (f : am_M → Option am_O) : Option am_O := f M
def am_lg : List am_V → Nat → am_V
  | [], _ => am_u
  | v :: _, 0 => v
  | _ :: l, n + 1 => am_lg l n
def am_c2 (v : am_V) : Bool := match v with
  | .inr (.inr (.inl _)) => true
  | .inr (.inr (.inr (.inr (.inl _)))) => true
  | _ => false
/-- a local of one word is set; what was half of it goes -/
def am_ls : List am_V → Nat → am_V → List am_V
  | [], _, _ => []
  | _ :: l, 0, v => v :: l
  | w :: l, n + 1, v => (if n = 0 ∧ am_c2 w = true then am_u else w) :: am_ls l n v
/-- a local of two words is set -/
def am_lw (l : List am_V) (n : Nat) (v : am_V) : List am_V := am_ls (am_ls l (n + 1) am_u) n v
def am_mk : Nat → List am_V → List am_V
  | _, [] => []
  | n, v :: l => (if n % 2 = 1 then v else am_u) :: am_mk (n / 2) l
def am_ms (n : Nat) (ls : List am_V) : List am_V := if n = 0 then ls else am_mk (n / 2) ls
def am_onI (v : am_V) (f : Int → Option am_O) : Option am_O := match v with
  | .inl z => f z
  | _ => none
def am_onR (v : am_V) (f : Nat → Nat → Option am_O) : Option am_O := match v with
  | .inr (.inl q) => f q.1 q.2
  | _ => none
def am_onL (v : am_V) (f : Int64 → Option am_O) : Option am_O := match v with
  | .inr (.inr (.inl z)) => f z
  | _ => none
def am_onF (v : am_V) (f : UInt32 → Option am_O) : Option am_O := match v with
  | .inr (.inr (.inr (.inl z))) => f z
  | _ => none
def am_onD (v : am_V) (f : UInt64 → Option am_O) : Option am_O := match v with
  | .inr (.inr (.inr (.inr (.inl z)))) => f z
  | _ => none
def am_s1 (st : List am_V) (f : am_V → List am_V → Option am_O) : Option am_O := match st with
  | v :: st => f v st
  | _ => none
def am_if (c : Prop) [Decidable c] (x : Option am_O) : Option am_O := if c then x else none
/-- two ints, the lower first -/
def am_i2 (st : List am_V) (f : Int → Int → List am_V → Option am_O) : Option am_O := am_s1 st fun y st => am_s1 st fun x st => am_onI y fun y => am_onI x fun x => f x y st
def am_i1 (st : List am_V) (f : Int → List am_V → Option am_O) : Option am_O := am_s1 st fun y st => am_onI y fun y => f y st
def am_l2 (st : List am_V) (f : Int64 → Int64 → List am_V → Option am_O) : Option am_O := am_s1 st fun y st => am_s1 st fun x st => am_onL y fun y => am_onL x fun x => f x y st
def am_f2 (st : List am_V) (f : UInt32 → UInt32 → List am_V → Option am_O) : Option am_O := am_s1 st fun y st => am_s1 st fun x st => am_onF y fun y => am_onF x fun x => f x y st
def am_d2 (st : List am_V) (f : UInt64 → UInt64 → List am_V → Option am_O) : Option am_O := am_s1 st fun y st => am_s1 st fun x st => am_onD y fun y => am_onD x fun x => f x y st
def am_br (c : ClassFile.Cond) (x y : Int) (a b : Option am_O) : Option am_O := match c with
  | .eq => if x = y then a else b
  | .ne => if x = y then b else a
  | .lt => if x < y then a else b
  | .ge => if x < y then b else a
  | .gt => if y < x then a else b
  | .le => if y < x then b else a
def am_sw (k : Nat → Option am_O) (pc : Nat) (df : Int) (x : Int) : Int → List Int → Option am_O
  | _, [] => k ((pc : Int) + df).toNat
  | lo, o :: l => if x = lo then k ((pc : Int) + o).toNat else am_sw k pc df x (lo + 1) l
def am_lk (k : Nat → Option am_O) (pc : Nat) (df : Int) (x : Int) : List (Int × Int) → Option am_O
  | [] => k ((pc : Int) + df).toNat
  | q :: l => if x = q.1 then k ((pc : Int) + q.2).toNat else am_lk k pc df x l
/-- arrays by their tag: 0 int, 1 boolean, 2 State; the length (tag 21: the script, its length at -1) -/
def am_ar (t : Nat) : Option (Nat × Int) := match t with
  | 10 => some (0, 96)
  | 11 => some (0, 256)
  | 12 => some (0, 160)
  | 13 => some (0, 1280)
  | 14 => some (0, 12)
  | 15 => some (1, 12)
  | 16 => some (2, 16)
  | 17 => some (0, 512)
  | 18 => some (0, 16)
  | 19 => some (0, 32336)
  | 20 => some (0, 1902)
  | _ => none
/-- what an array's element is: the tag's kind; none: not that kind -/
def am_al (M : am_M) (t i : Nat) (f : Int → Option am_O) : Option am_O := match t with
  | 21 => f (M i (-1))
  | t => match am_ar t with
    | some q => f q.2
    | none => none
def am_ak (kd t : Nat) (f : Int → Option am_O) : Option am_O := match am_ar t with
  | some q => if q.1 = kd then f q.2 else none
  | none => none
/-- an object's final reference: the tag and the distance of what it points to -/
def am_ly (t k : Nat) : Nat × Nat := match t with
  | 0 => (17, 1)
  | 1 => (16, 1)
  | 2 => (10 + k, 1 + k)
  | 3 => (17, 1 + k)
  | 7 => (18, 1 + k)
  | 4 => match k with
    | 0 => (2, 1)
    | 3 => (15, 8)
    | k => (14, 5 + k)
  | 5 => match k with
    | 0 => (4, 1)
    | 2 => (1, 29)
    | 3 => (4, 255)
    | 4 => (1, 269)
    | 5 => (3, 495)
    | 6 => (7, 498)
    | 7 => (0, 501)
    | _ => (11, 503)
  | _ => match k with
    | 0 => (19, 1)
    | 1 => (19, 2)
    | 3 => (20, 3)
    | 4 => (10, 4)
    | 5 => (12, 5)
    | 6 => (10, 6)
    | 7 => (12, 7)
    | 8 => (17, 8)
    | 11 => (17, 9)
    | 12 => (17, 10)
    | 14 => (18, 11)
    | _ => (18, 12)
/-- a field's kind, by its class: 0 int, 1 a State that may change, 2 a final reference, 3 boolean -/
def am_fk (c k : Nat) : Nat := match c with
  | 0 => if k = 0 then 2 else 0
  | 1 => if k = 0 then 2 else 0
  | 2 => 2
  | 3 => if k < 2 then 2 else 0
  | 4 => if k < 9 then 2 else if k < 11 then 0 else 3
  | 5 => if k = 1 then 1 else 2
  | _ => if k = 2 then 3 else if k = 9 ∨ k = 10 ∨ k = 13 ∨ 16 ≤ k then 0 else 2
def am_cl (t : Nat) : Nat := if t = 7 then 3 else t
def am_go (code : List am_E) (t : Nat) : List am_E := match code with
  | [] => []
  | e :: l => if e.1 = t then e :: l else am_go l t
def am_bI (o : Option am_O) (f : Int → am_M → Option am_O) : Option am_O := match o with
  | some (some (.inl z), M) => f z M
  | _ => none
def am_bR (o : Option am_O) (f : Nat → am_M → Option am_O) : Option am_O := match o with
  | some (some (.inr (.inl q)), M) => if q.1 = 4 then f q.2 M else none
  | _ => none
def am_bL (o : Option am_O) (f : Int64 → am_M → Option am_O) : Option am_O := match o with
  | some (some (.inr (.inr (.inl z))), M) => f z M
  | _ => none
def am_bV (o : Option am_O) (f : am_M → Option am_O) : Option am_O := match o with
  | some (none, M) => f M
  | _ => none
/-- n values off the stack, the deepest first -/
def am_tk : Nat → List am_V → List am_V → (List am_V → List am_V → Option am_O) → Option am_O
  | 0, acc, st, f => f acc st
  | n + 1, acc, st, f => am_s1 st fun v st => am_tk n (v :: acc) st f
/-- the receiver is of the method's class (0: static) -/
def am_rc (c : Nat) (as : List am_V) (x : Option am_O) : Option am_O := match c with
  | 0 => x
  | c + 1 => am_s1 as fun v _ => am_onR v fun t _ => am_if (am_cl t = c) x
/-- a call's answer, by its kind -/
def am_an (ret : Nat) (o : Option am_O) (st : List am_V) (k : List am_V → am_M → Option am_O) : Option am_O := match ret with
  | 0 => am_bV o fun M => k st M
  | 2 => am_bR o fun i M => k (am_r 4 i :: st) M
  | 3 => am_bL o fun x M => k (am_l x :: st) M
  | _ => am_bI o fun z M => k (am_i z :: st) M
def am_inv (k : List am_V → am_M → Option am_O) (cl : am_C) (aux : Nat) (st : List am_V) (M : am_M) : Option am_O :=
  am_tk (aux / 10 % 100) [] st fun as st => am_rc (aux / 1000 % 10) as (am_an (aux % 10) (cl (aux / 10000) as M) st k)
def am_and (x y : Int) : Int := (Int32.ofInt x &&& Int32.ofInt y).toInt
def am_or (x y : Int) : Int := (Int32.ofInt x ||| Int32.ofInt y).toInt
def am_shl (x y : Int) : Int := (Int32.ofInt x <<< (Int32.ofInt y &&& 31)).toInt
def am_shr (x y : Int) : Int := (Int32.ofInt x >>> (Int32.ofInt y &&& 31)).toInt
def am_ushr (x y : Int) : Int := ((Int32.ofInt x).toUInt32 >>> ((Int32.ofInt y).toUInt32 &&& Int32.toUInt32 31)).toInt32.toInt
def am_div (x y : Int) : Int := (Int32.ofInt x / Int32.ofInt y).toInt
def am_rem (x y : Int) : Int := (Int32.ofInt x - Int32.ofInt x / Int32.ofInt y * Int32.ofInt y).toInt
def am_kf (n : Nat) : UInt32 := match n with
  | 0 => FP.fconst0
  | 1 => FP.fconst1
  | _ => FP.fconst2
def am_kd (n : Nat) : UInt64 := match n with
  | 0 => FP.dconst0
  | _ => FP.dconst1
/-- a constant of the pool, by its number here -/
def am_ldc (aux : Nat) : am_V := match aux with
  | 0 => am_i 1000000
  | 1 => am_i 999999
  | 2 => am_i 2143289344
  | 3 => am_f 1258291200
  | 4 => am_d 4652007308841189376
  | 5 => am_d 4611686018427387904
  | 6 => am_d 4841369599423283200
  | 7 => am_l 1023
  | 8 => am_l 9221120237041090560
  | _ => am_u
/-- what isn't code: 900 max, 901 arraycopy, 902 and 903 raw bits -/
def am_nat (k : List am_V → am_M → Option am_O) (n : Nat) (st : List am_V) (M : am_M) : Option am_O := match n with
  | 900 => am_i2 st fun x y st => k (am_i (if x < y then y else x) :: st) M
  | 901 => am_i1 st fun n st => am_i1 st fun dp st => am_s1 st fun w st => am_i1 st fun sp st => am_s1 st fun v st => am_onR w fun t i => am_onR v fun t' i' =>
    match am_ar t with
    | some q => am_if (t = t' ∧ q.1 < 2 ∧ sp = 0 ∧ dp = 0 ∧ 0 ≤ n ∧ n ≤ q.2) (am_w (am_cp M i i' n) fun M => k st M)
    | none => none
  | 902 => am_s1 st fun v st => am_onF v fun x => k (am_i x.toInt32.toInt :: st) M
  | 903 => am_s1 st fun v st => am_onD v fun x => k (am_l x.toInt64 :: st) M
  | _ => none
def am_step (k : am_K) (cl : am_C) (ret : Nat) (e : am_E) (ls0 st : List am_V) (M : am_M) : Option am_O :=
  match e with
  | (pc, ins, len, aux, lv) =>
  let nx := pc + len
  let ls := am_ms lv ls0
  match ins with
  | .iload n => am_onI (am_lg ls n) fun z => k nx ls (am_i z :: st) M
  | .iload_n n => am_onI (am_lg ls n) fun z => k nx ls (am_i z :: st) M
  | .aload n => am_onR (am_lg ls n) fun t i => k nx ls (am_r t i :: st) M
  | .aload_n n => am_onR (am_lg ls n) fun t i => k nx ls (am_r t i :: st) M
  | .istore n => am_i1 st fun z st => am_v z fun z => k nx (am_ls ls n (am_i z)) st M
  | .istore_n n => am_i1 st fun z st => am_v z fun z => k nx (am_ls ls n (am_i z)) st M
  | .astore n => am_s1 st fun v st => am_onR v fun t i => k nx (am_ls ls n (am_r t i)) st M
  | .astore_n n => am_s1 st fun v st => am_onR v fun t i => k nx (am_ls ls n (am_r t i)) st M
  | .iinc n c => am_onI (am_lg ls n) fun z => am_v (am_wr (z + c)) fun z => k nx (am_ls ls n (am_i z)) st M
  | .iconst n => k nx ls (am_i n :: st) M
  | .bipush n => k nx ls (am_i n :: st) M
  | .sipush n => k nx ls (am_i n :: st) M
  | .ldc _ => k nx ls (am_ldc aux :: st) M
  | .ldc_w _ => k nx ls (am_ldc aux :: st) M
  | .ldc2_w _ => k nx ls (am_ldc aux :: st) M
  | .iadd => am_i2 st fun x y st => k nx ls (am_i (am_wr (x + y)) :: st) M
  | .isub => am_i2 st fun x y st => k nx ls (am_i (am_wr (x - y)) :: st) M
  | .imul => am_i2 st fun x y st => k nx ls (am_i (am_wr (x * y)) :: st) M
  | .idiv => am_i2 st fun x y st => am_if (¬ y = 0) (k nx ls (am_i (am_div x y) :: st) M)
  | .irem => am_i2 st fun x y st => am_if (¬ y = 0) (k nx ls (am_i (am_rem x y) :: st) M)
  | .iand => am_i2 st fun x y st => k nx ls (am_i (am_and x y) :: st) M
  | .ior => am_i2 st fun x y st => k nx ls (am_i (am_or x y) :: st) M
  | .ishl => am_i2 st fun x y st => k nx ls (am_i (am_shl x y) :: st) M
  | .ishr => am_i2 st fun x y st => k nx ls (am_i (am_shr x y) :: st) M
  | .iushr => am_i2 st fun x y st => k nx ls (am_i (am_ushr x y) :: st) M
  | .if_icmp c off => am_i2 st fun x y st => am_br c x y (k ((pc : Int) + off).toNat ls st M) (k nx ls st M)
  | .ifCond c off => am_i1 st fun x st => am_br c x 0 (k ((pc : Int) + off).toNat ls st M) (k nx ls st M)
  | .goto off => k ((pc : Int) + off).toNat ls st M
  | .tableswitch df lo hi offs => am_i1 st fun x st => am_if (lo + offs.toList.length = hi + 1) (am_sw (fun pc => k pc ls st M) pc df x lo offs.toList)
  | .lookupswitch df ps => am_i1 st fun x st => am_lk (fun pc => k pc ls st M) pc df x ps.toList
  | .dup => am_s1 st fun v st => am_if (am_c2 v = false) (k nx ls (v :: v :: st) M)
  | .dup2 => am_s1 st fun v st => am_s1 st fun w st => am_if (am_c2 v = false ∧ am_c2 w = false) (k nx ls (v :: w :: v :: w :: st) M)
  | .pop => am_s1 st fun v st => am_if (am_c2 v = false) (k nx ls st M)
  | .getfield _ => am_s1 st fun v st => am_onR v fun t i => am_if (am_cl t = aux / 32) (match am_fk (aux / 32) (aux % 32) with
    | 1 => k nx ls (am_r 4 (M i (aux % 32 : Nat)).toNat :: st) M
    | 2 => k nx ls (am_r (am_ly t (aux % 32)).1 (i + (am_ly t (aux % 32)).2) :: st) M
    | _ => k nx ls (am_i (M i (aux % 32 : Nat)) :: st) M)
  | .putfield _ => am_s1 st fun x st => am_s1 st fun v st => am_onR v fun t i => am_if (am_cl t = aux / 32) (match am_fk (aux / 32) (aux % 32) with
    | 0 => am_onI x fun z => am_w (am_set M i (aux % 32 : Nat) z) fun M => k nx ls st M
    | 1 => am_onR x fun t' i' => am_if (t' = 4) (am_w (am_set M i (aux % 32 : Nat) (i' : Int)) fun M => k nx ls st M)
    | 3 => am_onI x fun z => am_if (z = 0 ∨ z = 1) (am_w (am_set M i (aux % 32 : Nat) z) fun M => k nx ls st M)
    | _ => none)
  | .arraylength => am_s1 st fun v st => am_onR v fun t i => am_al M t i fun n => k nx ls (am_i n :: st) M
  | .iaload => am_i1 st fun j st => am_s1 st fun w st => am_onR w fun t i => match t with
    | 21 => am_if (0 ≤ j ∧ j < M i (-1)) (k nx ls (am_i (M i j) :: st) M)
    | t => am_ak 0 t fun n => am_if (0 ≤ j ∧ j < n) (k nx ls (am_i (M i j) :: st) M)
  | .baload => am_i1 st fun j st => am_s1 st fun w st => am_onR w fun t i => am_ak 1 t fun n => am_if (0 ≤ j ∧ j < n) (k nx ls (am_i (M i j) :: st) M)
  | .aaload => am_i1 st fun j st => am_s1 st fun w st => am_onR w fun t i => am_ak 2 t fun n => am_if (0 ≤ j ∧ j < n) (k nx ls (am_r 4 (M i j).toNat :: st) M)
  | .iastore => am_i1 st fun x st => am_i1 st fun j st => am_s1 st fun w st => am_onR w fun t i => am_ak 0 t fun n => am_if (0 ≤ j ∧ j < n) (am_w (am_set M i j x) fun M => k nx ls st M)
  | .bastore => am_i1 st fun x st => am_i1 st fun j st => am_s1 st fun w st => am_onR w fun t i => am_ak 1 t fun n => am_if ((0 ≤ j ∧ j < n) ∧ (x = 0 ∨ x = 1)) (am_w (am_set M i j x) fun M => k nx ls st M)
  | .aastore => am_s1 st fun x st => am_i1 st fun j st => am_s1 st fun w st => am_onR x fun t' i' => am_onR w fun t i => am_ak 2 t fun n => am_if ((0 ≤ j ∧ j < n) ∧ t' = 4) (am_w (am_set M i j (i' : Int)) fun M => k nx ls st M)
  | .invokevirtual _ => am_if (aux / 1000 % 10 ≠ 0) (am_inv (fun st M => k nx ls st M) cl aux st M)
  | .invokestatic _ => match aux / 10000 with
    | 900 => am_nat (fun st M => k nx ls st M) 900 st M
    | 901 => am_nat (fun st M => k nx ls st M) 901 st M
    | 902 => am_nat (fun st M => k nx ls st M) 902 st M
    | 903 => am_nat (fun st M => k nx ls st M) 903 st M
    | _ => am_if (aux / 1000 % 10 = 0) (am_inv (fun st M => k nx ls st M) cl aux st M)
  | .return_ => match st with
    | [] => am_if (ret = 0) (some (none, M))
    | _ => none
  | .ireturn => am_i1 st fun z st => match st with
    | [] => match ret with
      | 1 => some (some (am_i z), M)
      | 4 => am_if (z = 0 ∨ z = 1) (some (some (am_i z), M))
      | _ => none
    | _ => none
  | .areturn => am_s1 st fun v st => am_onR v fun t i => match st with
    | [] => am_if (ret = 2 ∧ t = 4) (some (some (am_r 4 i), M))
    | _ => none
  | .lreturn => am_s1 st fun v st => am_onL v fun x => match st with
    | [] => am_if (ret = 3) (some (some (am_l x), M))
    | _ => none
  | .lconst n => k nx ls (am_l (Int64.ofNat (n : Nat)) :: st) M
  | .fconst n => k nx ls (am_f (am_kf n) :: st) M
  | .dconst n => k nx ls (am_d (am_kd n) :: st) M
  | .lload n => am_onL (am_lg ls n) fun z => k nx ls (am_l z :: st) M
  | .lload_n n => am_onL (am_lg ls n) fun z => k nx ls (am_l z :: st) M
  | .fload_n n => am_onF (am_lg ls n) fun z => k nx ls (am_f z :: st) M
  | .dload_n n => am_onD (am_lg ls n) fun z => k nx ls (am_d z :: st) M
  | .lstore n => am_s1 st fun v st => am_onL v fun z => k nx (am_lw ls n (am_l z)) st M
  | .lstore_n n => am_s1 st fun v st => am_onL v fun z => k nx (am_lw ls n (am_l z)) st M
  | .fstore_n n => am_s1 st fun v st => am_onF v fun z => k nx (am_ls ls n (am_f z)) st M
  | .dstore_n n => am_s1 st fun v st => am_onD v fun z => k nx (am_lw ls n (am_d z)) st M
  | .ladd => am_l2 st fun x y st => k nx ls (am_l (x + y) :: st) M
  | .lsub => am_l2 st fun x y st => k nx ls (am_l (x - y) :: st) M
  | .lor => am_l2 st fun x y st => k nx ls (am_l (x ||| y) :: st) M
  | .lshl => am_i1 st fun y st => am_s1 st fun v st => am_onL v fun x => k nx ls (am_l (x <<< ((Int32.ofInt y).toInt64 &&& 63)) :: st) M
  | .lcmp => am_l2 st fun x y st => k nx ls (am_i (lg_cmp x y).toInt :: st) M
  | .i2l => am_i1 st fun x st => k nx ls (am_l (Int32.ofInt x).toInt64 :: st) M
  | .l2d => am_s1 st fun v st => am_onL v fun x => k nx ls (am_d (FP.l2d x) :: st) M
  | .i2d => am_i1 st fun x st => k nx ls (am_d (FP.i2d (Int32.ofInt x)) :: st) M
  | .i2f => am_i1 st fun x st => k nx ls (am_f (FP.i2f (Int32.ofInt x)) :: st) M
  | .d2i => am_s1 st fun v st => am_onD v fun x => k nx ls (am_i (FP.d2i x).toInt :: st) M
  | .d2l => am_s1 st fun v st => am_onD v fun x => k nx ls (am_l (FP.d2l x) :: st) M
  | .f2i => am_s1 st fun v st => am_onF v fun x => k nx ls (am_i (FP.f2i x).toInt :: st) M
  | .fcmp op => am_f2 st fun x y st => k nx ls (am_i (Op.cmpValue (FP.fcmp x y) op).toInt :: st) M
  | .dcmp op => am_d2 st fun x y st => k nx ls (am_i (Op.cmpValue (FP.dcmp x y) op).toInt :: st) M
  | .fsub => am_f2 st fun x y st => am_if (FP.fsub x y &&& 0x7fffffff ≤ 0x7f800000) (k nx ls (am_f (FP.fsub x y) :: st) M)
  | .fmul => am_f2 st fun x y st => am_if (FP.fmul x y &&& 0x7fffffff ≤ 0x7f800000) (k nx ls (am_f (FP.fmul x y) :: st) M)
  | .fdiv => am_f2 st fun x y st => am_if (FP.fdiv x y &&& 0x7fffffff ≤ 0x7f800000) (k nx ls (am_f (FP.fdiv x y) :: st) M)
  | .dadd => am_d2 st fun x y st => am_if (FP.dadd x y &&& 0x7fffffffffffffff ≤ 0x7ff0000000000000) (k nx ls (am_d (FP.dadd x y) :: st) M)
  | .dsub => am_d2 st fun x y st => am_if (FP.dsub x y &&& 0x7fffffffffffffff ≤ 0x7ff0000000000000) (k nx ls (am_d (FP.dsub x y) :: st) M)
  | .dmul => am_d2 st fun x y st => am_if (FP.dmul x y &&& 0x7fffffffffffffff ≤ 0x7ff0000000000000) (k nx ls (am_d (FP.dmul x y) :: st) M)
  | .ddiv => am_d2 st fun x y st => am_if (FP.ddiv x y &&& 0x7fffffffffffffff ≤ 0x7ff0000000000000) (k nx ls (am_d (FP.ddiv x y) :: st) M)
  | _ => none
/-- a method's locals at its start -/
def am_in : List am_V → List am_V
  | [] => []
  | v :: l => if am_c2 v = true then v :: am_u :: am_in l else v :: am_in l
def am_en (n : Nat) (as : List am_V) : List am_V := am_in as ++ List.replicate (n - (am_in as).length) am_u
/-- fuel f, depth d: method j from pc on -/
def am_ex (P : Nat → am_T) : Nat → Nat → Nat → Nat → List am_V → List am_V → am_M → Option am_O
  | 0, _, _, _, _, _, _ => none
  | f + 1, d, j, pc, ls, st, M => match am_go (P j).2.2 pc with
    | [] => none
    | e :: _ => am_step (am_ex P f d j) (fun j' as M' => match d with
      | 0 => none
      | d' + 1 => am_ex P f d' j' 0 (am_en (P j').1 as) [] M') (P j).2.1 e ls st M
end
section
/-! what one step looks at: nothing, one state that follows, or one call and then one state -/
def am_vw (T : am_K → am_C → Option am_O) : Prop :=
  (∃ c, ∀ k cl, T k cl = c) ∨ (∃ (pc : Nat) (ls st : List am_V) (M : am_M), ∀ k cl, T k cl = k pc ls st M) ∨
  (∃ (j : Nat) (as : List am_V) (M : am_M) (g : am_K → am_O → Option am_O), (∀ k cl, T k cl = (cl j as M).bind (g k)) ∧
    ∀ o, (∀ k, g k o = none) ∨ (∃ (pc : Nat) (ls st : List am_V) (M' : am_M), ∀ k, g k o = k pc ls st M'))
theorem vw_c (c : Option am_O) : am_vw (fun _ _ => c) := Or.inl ⟨c, fun _ _ => rfl⟩
theorem vw_k (pc : Nat) (ls st : List am_V) (M : am_M) : am_vw (fun k _ => k pc ls st M) := Or.inr (Or.inl ⟨pc, ls, st, M, fun _ _ => rfl⟩)
theorem vw_v {z : Int} {F : Int → am_K → am_C → Option am_O} (h : ∀ z, am_vw (F z)) : am_vw (fun k cl => am_v z (fun z => F z k cl)) := h z
theorem vw_w {M : am_M} {F : am_M → am_K → am_C → Option am_O} (h : ∀ M, am_vw (F M)) : am_vw (fun k cl => am_w M (fun M => F M k cl)) := h M
theorem vw_onI {v : am_V} {F : Int → am_K → am_C → Option am_O} (h : ∀ z, am_vw (F z)) : am_vw (fun k cl => am_onI v (fun z => F z k cl)) := by
  rcases v with z | _ | _ | _ | _ | _ <;> first | exact h z | exact vw_c none
theorem vw_onR {v : am_V} {F : Nat → Nat → am_K → am_C → Option am_O} (h : ∀ t i, am_vw (F t i)) : am_vw (fun k cl => am_onR v (fun t i => F t i k cl)) := by
  rcases v with _ | z | _ | _ | _ | _ <;> first | exact h z.1 z.2 | exact vw_c none
theorem vw_onL {v : am_V} {F : Int64 → am_K → am_C → Option am_O} (h : ∀ z, am_vw (F z)) : am_vw (fun k cl => am_onL v (fun z => F z k cl)) := by
  rcases v with _ | _ | z | _ | _ | _ <;> first | exact h z | exact vw_c none
theorem vw_onF {v : am_V} {F : UInt32 → am_K → am_C → Option am_O} (h : ∀ z, am_vw (F z)) : am_vw (fun k cl => am_onF v (fun z => F z k cl)) := by
  rcases v with _ | _ | _ | z | _ | _ <;> first | exact h z | exact vw_c none
theorem vw_onD {v : am_V} {F : UInt64 → am_K → am_C → Option am_O} (h : ∀ z, am_vw (F z)) : am_vw (fun k cl => am_onD v (fun z => F z k cl)) := by
  rcases v with _ | _ | _ | _ | z | _ <;> first | exact h z | exact vw_c none
theorem vw_s1 {st : List am_V} {F : am_V → List am_V → am_K → am_C → Option am_O} (h : ∀ v st, am_vw (F v st)) : am_vw (fun k cl => am_s1 st (fun v st => F v st k cl)) := by
  cases st with
  | nil => exact vw_c none
  | cons v st => exact h v st
theorem vw_ite {c : Prop} [Decidable c] {F G : am_K → am_C → Option am_O} (h : am_vw F) (g : am_vw G) : am_vw (fun k cl => if c then F k cl else G k cl) := by
  by_cases hc : c
  · simp only [if_pos hc]; exact h
  · simp only [if_neg hc]; exact g
theorem vw_if {c : Prop} [Decidable c] {F : am_K → am_C → Option am_O} (h : am_vw F) : am_vw (fun k cl => am_if c (F k cl)) := vw_ite h (vw_c none)
theorem vw_i1 {st : List am_V} {F : Int → List am_V → am_K → am_C → Option am_O} (h : ∀ z st, am_vw (F z st)) : am_vw (fun k cl => am_i1 st (fun z st => F z st k cl)) := vw_s1 fun _ _ => vw_onI fun _ => h _ _
theorem vw_i2 {st : List am_V} {F : Int → Int → List am_V → am_K → am_C → Option am_O} (h : ∀ x y st, am_vw (F x y st)) : am_vw (fun k cl => am_i2 st (fun x y st => F x y st k cl)) := vw_s1 fun _ _ => vw_s1 fun _ _ => vw_onI fun _ => vw_onI fun _ => h _ _ _
theorem vw_l2 {st : List am_V} {F : Int64 → Int64 → List am_V → am_K → am_C → Option am_O} (h : ∀ x y st, am_vw (F x y st)) : am_vw (fun k cl => am_l2 st (fun x y st => F x y st k cl)) := vw_s1 fun _ _ => vw_s1 fun _ _ => vw_onL fun _ => vw_onL fun _ => h _ _ _
theorem vw_f2 {st : List am_V} {F : UInt32 → UInt32 → List am_V → am_K → am_C → Option am_O} (h : ∀ x y st, am_vw (F x y st)) : am_vw (fun k cl => am_f2 st (fun x y st => F x y st k cl)) := vw_s1 fun _ _ => vw_s1 fun _ _ => vw_onF fun _ => vw_onF fun _ => h _ _ _
theorem vw_d2 {st : List am_V} {F : UInt64 → UInt64 → List am_V → am_K → am_C → Option am_O} (h : ∀ x y st, am_vw (F x y st)) : am_vw (fun k cl => am_d2 st (fun x y st => F x y st k cl)) := vw_s1 fun _ _ => vw_s1 fun _ _ => vw_onD fun _ => vw_onD fun _ => h _ _ _
theorem vw_br {c : ClassFile.Cond} {x y : Int} {F G : am_K → am_C → Option am_O} (h : am_vw F) (g : am_vw G) : am_vw (fun k cl => am_br c x y (F k cl) (G k cl)) := by
  cases c <;> first | exact vw_ite h g | exact vw_ite g h
theorem vw_sw {F : Nat → am_K → am_C → Option am_O} (h : ∀ pc, am_vw (F pc)) {pc : Nat} {df x : Int} : ∀ (l : List Int) (lo : Int), am_vw (fun k cl => am_sw (fun pc => F pc k cl) pc df x lo l)
  | [], _ => h _
  | _ :: l, lo => vw_ite (h _) (vw_sw h l (lo + 1))
theorem vw_lk {F : Nat → am_K → am_C → Option am_O} (h : ∀ pc, am_vw (F pc)) {pc : Nat} {df x : Int} : ∀ (l : List (Int × Int)), am_vw (fun k cl => am_lk (fun pc => F pc k cl) pc df x l)
  | [] => h _
  | _ :: l => vw_ite (h _) (vw_lk h l)
theorem vw_ak {kd t : Nat} {F : Int → am_K → am_C → Option am_O} (h : ∀ z, am_vw (F z)) : am_vw (fun k cl => am_ak kd t (fun z => F z k cl)) := by
  unfold am_ak
  cases am_ar t with
  | none => exact vw_c none
  | some q => exact vw_ite (h _) (vw_c none)
theorem vw_al {M : am_M} {t i : Nat} {F : Int → am_K → am_C → Option am_O} (h : ∀ z, am_vw (F z)) : am_vw (fun k cl => am_al M t i (fun z => F z k cl)) := by
  unfold am_al
  split
  · exact h _
  · cases am_ar t with
    | none => exact vw_c none
    | some q => exact h _
theorem vw_tk {F : List am_V → List am_V → am_K → am_C → Option am_O} (h : ∀ as st, am_vw (F as st)) : ∀ (n : Nat) (acc st : List am_V), am_vw (fun k cl => am_tk n acc st (fun as st => F as st k cl))
  | 0, _, _ => h _ _
  | n + 1, _, _ => vw_s1 fun _ _ => vw_tk h n _ _
theorem vw_rc {c : Nat} {as : List am_V} {F : am_K → am_C → Option am_O} (h : am_vw F) : am_vw (fun k cl => am_rc c as (F k cl)) := by
  cases c with
  | zero => exact h
  | succ c => exact vw_s1 fun _ _ => vw_onR fun _ _ => vw_if h
theorem vw_an {ret j nx : Nat} {as ls st : List am_V} {M : am_M} : am_vw (fun k cl => am_an ret (cl j as M) st (fun st M => k nx ls st M)) := by
  refine Or.inr (Or.inr ⟨j, as, M, fun k o => am_an ret (some o) st (fun st M => k nx ls st M), fun k cl => ?_, fun o => ?_⟩)
  · show am_an ret (cl j as M) st (fun st M => k nx ls st M) = (cl j as M).bind _
    cases cl j as M with
    | some o => rfl
    | none => rcases ret with _ | _ | _ | _ | _ <;> rfl
  · obtain ⟨v, M'⟩ := o
    rcases ret with _ | _ | _ | _ | r
    · rcases v with _ | v
      · exact Or.inr ⟨_, _, _, _, fun _ => rfl⟩
      · exact Or.inl fun _ => rfl
    · rcases v with _ | (v | _)
      · exact Or.inl fun _ => rfl
      · exact Or.inr ⟨_, _, _, _, fun _ => rfl⟩
      · exact Or.inl fun _ => rfl
    · rcases v with _ | (v | (q | _))
      · exact Or.inl fun _ => rfl
      · exact Or.inl fun _ => rfl
      · by_cases hq : q.1 = 4
        · exact Or.inr ⟨_, _, _, _, fun _ => by simp only [am_an, am_bR, if_pos hq]; rfl⟩
        · exact Or.inl fun _ => by simp only [am_an, am_bR, if_neg hq]
      · exact Or.inl fun _ => rfl
    · rcases v with _ | (v | (v | (v | _)))
      · exact Or.inl fun _ => rfl
      · exact Or.inl fun _ => rfl
      · exact Or.inl fun _ => rfl
      · exact Or.inr ⟨_, _, _, _, fun _ => rfl⟩
      · exact Or.inl fun _ => rfl
    · rcases v with _ | (v | _)
      · exact Or.inl fun _ => rfl
      · exact Or.inr ⟨_, _, _, _, fun _ => rfl⟩
      · exact Or.inl fun _ => rfl
theorem vw_inv {aux nx : Nat} {ls st : List am_V} {M : am_M} : am_vw (fun k cl => am_inv (fun st M => k nx ls st M) cl aux st M) :=
  vw_tk (F := fun as st k cl => am_rc (aux / 1000 % 10) as (am_an (aux % 10) (cl (aux / 10000) as M) st (fun st M => k nx ls st M))) (fun _ _ => vw_rc vw_an) _ _ _
theorem vw_nat {n nx : Nat} {ls st : List am_V} {M : am_M} : am_vw (fun k _ => am_nat (fun st M => k nx ls st M) n st M) := by
  unfold am_nat
  split
  · exact vw_i2 fun _ _ _ => vw_k _ _ _ _
  · refine vw_i1 fun _ _ => vw_i1 fun _ _ => vw_s1 fun _ _ => vw_i1 fun _ _ => vw_s1 fun _ _ => vw_onR fun t _ => vw_onR fun _ _ => ?_
    cases am_ar t with
    | none => exact vw_c none
    | some q => exact vw_if (vw_w fun _ => vw_k _ _ _ _)
  · exact vw_s1 fun _ _ => vw_onF fun _ => vw_k _ _ _ _
  · exact vw_s1 fun _ _ => vw_onD fun _ => vw_k _ _ _ _
  · exact vw_c none
set_option maxHeartbeats 4000000 in
theorem vw_step (ret : Nat) (e : am_E) (ls st : List am_V) (M : am_M) : am_vw (fun k cl => am_step k cl ret e ls st M) := by
  obtain ⟨pc, ins, len, aux, lv⟩ := e
  unfold am_step
  dsimp only
  split
  all_goals first
    | exact vw_c _
    | exact vw_k _ _ _ _
    | exact vw_onI fun _ => vw_k _ _ _ _
    | exact vw_onR fun _ _ => vw_k _ _ _ _
    | exact vw_onL fun _ => vw_k _ _ _ _
    | exact vw_onF fun _ => vw_k _ _ _ _
    | exact vw_onD fun _ => vw_k _ _ _ _
    | exact vw_i1 fun _ _ => vw_k _ _ _ _
    | exact vw_i2 fun _ _ _ => vw_k _ _ _ _
    | exact vw_i2 fun _ _ _ => vw_if (vw_k _ _ _ _)
    | exact vw_l2 fun _ _ _ => vw_k _ _ _ _
    | exact vw_f2 fun _ _ _ => vw_k _ _ _ _
    | exact vw_d2 fun _ _ _ => vw_k _ _ _ _
    | exact vw_f2 fun _ _ _ => vw_if (vw_k _ _ _ _)
    | exact vw_d2 fun _ _ _ => vw_if (vw_k _ _ _ _)
    | exact vw_s1 fun _ _ => vw_onR fun _ _ => vw_k _ _ _ _
    | exact vw_s1 fun _ _ => vw_onL fun _ => vw_k _ _ _ _
    | exact vw_s1 fun _ _ => vw_onF fun _ => vw_k _ _ _ _
    | exact vw_s1 fun _ _ => vw_onD fun _ => vw_k _ _ _ _
    | exact vw_s1 fun _ _ => vw_if (vw_k _ _ _ _)
    | exact vw_s1 fun _ _ => vw_s1 fun _ _ => vw_if (vw_k _ _ _ _)
    | exact vw_i2 fun _ _ _ => vw_br (vw_k _ _ _ _) (vw_k _ _ _ _)
    | exact vw_i1 fun _ _ => vw_br (vw_k _ _ _ _) (vw_k _ _ _ _)
    | exact vw_i1 fun _ _ => vw_if (vw_sw (fun _ => vw_k _ _ _ _) _ _)
    | exact vw_i1 fun _ _ => vw_lk (fun _ => vw_k _ _ _ _) _
    | exact vw_s1 fun _ _ => vw_onR fun _ _ => vw_al fun _ => vw_k _ _ _ _
    | exact vw_i1 fun _ _ => vw_s1 fun _ _ => vw_onR fun _ _ => vw_ak fun _ => vw_if (vw_k _ _ _ _)
    | exact vw_i1 fun _ _ => vw_v fun _ => vw_k _ _ _ _
    | exact vw_onI fun _ => vw_v fun _ => vw_k _ _ _ _
    | exact vw_i1 fun _ _ => vw_i1 fun _ _ => vw_s1 fun _ _ => vw_onR fun _ _ => vw_ak fun _ => vw_if (vw_w fun _ => vw_k _ _ _ _)
    | exact vw_s1 fun _ _ => vw_i1 fun _ _ => vw_s1 fun _ _ => vw_onR fun _ _ => vw_onR fun _ _ => vw_ak fun _ => vw_if (vw_w fun _ => vw_k _ _ _ _)
    | exact vw_i1 fun _ _ => vw_s1 fun _ _ => vw_onL fun _ => vw_k _ _ _ _
    | exact vw_if vw_inv
    | skip
  · refine vw_s1 fun _ _ => vw_onR fun _ _ => vw_if ?_
    split <;> exact vw_k _ _ _ _
  · refine vw_s1 fun _ _ => vw_s1 fun _ _ => vw_onR fun _ _ => vw_if ?_
    split
    · exact vw_onI fun _ => vw_w fun _ => vw_k _ _ _ _
    · exact vw_onR fun _ _ => vw_if (vw_w fun _ => vw_k _ _ _ _)
    · exact vw_onI fun _ => vw_if (vw_w fun _ => vw_k _ _ _ _)
    · exact vw_c none
  · refine vw_i1 fun _ _ => vw_s1 fun _ _ => vw_onR fun _ _ => ?_
    split
    · exact vw_if (vw_k _ _ _ _)
    · exact vw_ak fun _ => vw_if (vw_k _ _ _ _)
  · split
    · exact vw_nat
    · exact vw_nat
    · exact vw_nat
    · exact vw_nat
    · exact vw_if vw_inv
/-! more fuel, the same answer -/
def am_le (a b : Option am_O) : Prop := ∀ o, a = some o → b = some o
theorem vw_mono {T : am_K → am_C → Option am_O} (hT : am_vw T) {k k' : am_K} {cl cl' : am_C} (hk : ∀ pc ls st M, am_le (k pc ls st M) (k' pc ls st M)) (hc : ∀ j as M, am_le (cl j as M) (cl' j as M)) : am_le (T k cl) (T k' cl') := by
  intro o ho
  rcases hT with ⟨c, h⟩ | ⟨pc, ls, st, M, h⟩ | ⟨j, as, M, g, h, hg⟩
  · rw [h] at ho ⊢; exact ho
  · rw [h] at ho ⊢; exact hk _ _ _ _ _ ho
  · rw [h] at ho ⊢
    cases hq : cl j as M with
    | none => rw [hq] at ho; cases ho
    | some q =>
      rw [hq] at ho
      rw [hc _ _ _ _ hq]
      rcases hg q with hn | ⟨pc, ls, st, M', hn⟩
      · exact absurd ((hn k).symm.trans ho) (by simp)
      · show g k' q = some o
        rw [hn]
        exact hk _ _ _ _ _ ((hn k).symm.trans ho)
theorem am_ex_succ (P : Nat → am_T) : ∀ (f d j pc : Nat) (ls st : List am_V) (M : am_M), am_le (am_ex P f d j pc ls st M) (am_ex P (f + 1) d j pc ls st M)
  | 0, _, _, _, _, _, _ => fun o h => by cases h
  | f + 1, d, j, pc, ls, st, M => by
    intro o h
    unfold am_ex at h ⊢
    cases hg : am_go (P j).2.2 pc with
    | nil => rw [hg] at h; cases h
    | cons e l =>
      rw [hg] at h
      refine vw_mono (vw_step (P j).2.1 e ls st M) (fun pc ls st M => am_ex_succ P f d j pc ls st M) (fun j as M => ?_) o h
      cases d with
      | zero => exact fun o h => by cases h
      | succ d => exact am_ex_succ P f d j 0 _ [] M
theorem am_ex_mono (P : Nat → am_T) {f f' : Nat} (hf : f ≤ f') {d j pc : Nat} {ls st : List am_V} {M : am_M} : am_le (am_ex P f d j pc ls st M) (am_ex P f' d j pc ls st M) := by
  induction hf with
  | refl => exact fun o h => h
  | step _ ih => exact fun o h => am_ex_succ P _ _ _ _ _ _ _ o (ih o h)
/-- what a method comes to, from pc on: the answer with fuel enough -/
noncomputable def am_at (P : Nat → am_T) (d j pc : Nat) (ls st : List am_V) (M : am_M) : Option am_O :=
  @dite (Option am_O) (∃ o f, am_ex P f d j pc ls st M = some o) (Classical.propDecidable _) (fun h => some h.choose) (fun _ => none)
theorem am_at_iff (P : Nat → am_T) {d j pc : Nat} {ls st : List am_V} {M : am_M} {o : am_O} : am_at P d j pc ls st M = some o ↔ ∃ f, am_ex P f d j pc ls st M = some o := by
  unfold am_at
  constructor
  · intro h
    split at h
    · rename_i hq
      rw [← Option.some.inj h]
      exact hq.choose_spec
    · cases h
  · intro ⟨f, h⟩
    have hq : ∃ o f, am_ex P f d j pc ls st M = some o := ⟨o, f, h⟩
    rw [dif_pos hq]
    obtain ⟨f', h'⟩ := hq.choose_spec
    have h1 := am_ex_mono P (Nat.le_max_left f f') _ h
    have h2 := am_ex_mono P (Nat.le_max_right f f') _ h'
    exact h2.symm.trans h1
/-- a call of method j -/
noncomputable def am_m (P : Nat → am_T) (d j : Nat) (as : List am_V) (M : am_M) : Option am_O := match d with
  | 0 => none
  | d' + 1 => am_at P d' j 0 (am_en (P j).1 as) [] M
def am_xc (P : Nat → am_T) (f d : Nat) : am_C := fun j' as M' => match d with
  | 0 => none
  | d' + 1 => am_ex P f d' j' 0 (am_en (P j').1 as) [] M'
theorem am_ex_key (P : Nat → am_T) {f d j pc : Nat} {ls st : List am_V} {M : am_M} {e : am_E} {l : List am_E} (hg : am_go (P j).2.2 pc = e :: l) : am_ex P (f + 1) d j pc ls st M = am_step (am_ex P f d j) (am_xc P f d) (P j).2.1 e ls st M := by
  conv => lhs; unfold am_ex
  rw [hg]
  rfl
theorem am_at_step (P : Nat → am_T) (d j pc : Nat) (ls st : List am_V) (M : am_M) : am_at P d j pc ls st M = (match am_go (P j).2.2 pc with
    | [] => none
    | e :: _ => am_step (am_at P d j) (am_m P d) (P j).2.1 e ls st M) := by
  refine Option.ext fun o => ?_
  rw [am_at_iff]
  constructor
  · intro ⟨f, h⟩
    cases f with
    | zero => cases h
    | succ f =>
      unfold am_ex at h
      cases hg : am_go (P j).2.2 pc with
      | nil => rw [hg] at h; cases h
      | cons e l =>
        rw [hg] at h
        refine vw_mono (vw_step (P j).2.1 e ls st M) (fun pc ls st M o h => (am_at_iff P).mpr ⟨f, h⟩) (fun j as M o h => ?_) o h
        cases d with
        | zero => cases h
        | succ d => exact (am_at_iff P).mpr ⟨f, h⟩
  · intro h
    cases hg : am_go (P j).2.2 pc with
    | nil => rw [hg] at h; cases h
    | cons e l =>
      rw [hg] at h
      dsimp only at h
      have key : ∀ f, am_ex P (f + 1) d j pc ls st M = am_step (am_ex P f d j) (am_xc P f d) (P j).2.1 e ls st M := fun f => am_ex_key P hg
      rcases vw_step (P j).2.1 e ls st M with ⟨c, hv⟩ | ⟨pc', ls', st', M', hv⟩ | ⟨j', as, M', g, hv, hgg⟩
      · exact ⟨1, (key 0).trans ((hv _ _).trans ((hv _ _).symm.trans h))⟩
      · obtain ⟨f, hf⟩ := (am_at_iff P).mp ((hv _ _).symm.trans h)
        exact ⟨f + 1, (key f).trans ((hv _ _).trans hf)⟩
      · replace h := (hv _ _).symm.trans h
        cases d with
        | zero => cases h
        | succ d =>
          cases hq : am_m P (d + 1) j' as M' with
          | none => rw [hq] at h; cases h
          | some q =>
            rw [hq] at h
            obtain ⟨f1, hf1⟩ := (am_at_iff P).mp hq
            rcases hgg q with hn | ⟨pc2, ls2, st2, M2, hn⟩
            · exact absurd ((hn _).symm.trans h) (by simp)
            · have h2 : am_at P (d + 1) j pc2 ls2 st2 M2 = some o := (hn _).symm.trans h
              obtain ⟨f2, hf2⟩ := (am_at_iff P).mp h2
              refine ⟨max f1 f2 + 1, (key _).trans ((hv _ _).trans ?_)⟩
              have h3 : am_xc P (max f1 f2) (d + 1) j' as M' = some q := am_ex_mono P (Nat.le_max_left f1 f2) _ hf1
              rw [h3]
              exact (hn _).trans (am_ex_mono P (Nat.le_max_right f1 f2) _ hf2)
/-! a stretch of steps up to the cuts, told at once -/
def am_D (den : am_K) (cl : am_C) (code : List am_E) (ret : Nat) (cuts : List (Nat × Nat)) : Nat → List am_E → List am_V → List am_V → am_M → Option am_O
  | _, [], _, _, _ => none
  | 0, e :: _, ls, st, M => den e.1 ls st M
  | n + 1, e :: rest, ls, st, M => am_step (fun pc' ls' st' M' => match cuts.find? (fun q => q.1 == pc') with
    | some q => den pc' (am_ms q.2 ls') st' M'
    | none => if pc' = e.1 + e.2.2.1 then am_D den cl code ret cuts n rest ls' st' M' else am_D den cl code ret cuts n (am_go code pc') ls' st' M') cl ret e ls st M
/-- the rows of a code: one behind the other -/
def am_wf : List am_E → Bool
  | [] => true
  | e :: l => decide (0 < e.2.2.1) && (match l with
    | [] => true
    | e' :: _ => e.1 + e.2.2.1 == e'.1) && am_wf l
def am_ck (code : List am_E) (cuts : List (Nat × Nat)) : Bool := cuts.all fun q => match am_go code q.1 with
  | [] => false
  | e :: _ => e.2.2.2.2 == q.2
theorem am_mk_mk : ∀ (n : Nat) (ls : List am_V), am_mk n (am_mk n ls) = am_mk n ls
  | _, [] => rfl
  | n, v :: l => by
    simp only [am_mk]
    rw [am_mk_mk (n / 2) l]
    by_cases h : n % 2 = 1 <;> simp [h]
theorem am_ms_ms (n : Nat) (ls : List am_V) : am_ms n (am_ms n ls) = am_ms n ls := by
  unfold am_ms
  by_cases h : n = 0
  · simp [h]
  · simp [h, am_mk_mk]
theorem am_step_ms (k : am_K) (cl : am_C) (ret : Nat) (e : am_E) (ls st : List am_V) (M : am_M) : am_step k cl ret e (am_ms e.2.2.2.2 ls) st M = am_step k cl ret e ls st M := by
  obtain ⟨pc, ins, len, aux, lv⟩ := e
  unfold am_step
  dsimp only
  rw [am_ms_ms]
theorem am_go_hd {e : am_E} {l : List am_E} : ∀ {code : List am_E} {t : Nat}, am_go code t = e :: l → e.1 = t
  | [], _, h => by cases h
  | x :: c, t, h => by
    unfold am_go at h
    by_cases hx : x.1 = t
    · rw [if_pos hx] at h
      cases h
      exact hx
    · rw [if_neg hx] at h
      exact am_go_hd h
theorem am_at_ms (P : Nat → am_T) (d j pc : Nat) {lv : Nat} {e : am_E} {l : List am_E} (hg : am_go (P j).2.2 pc = e :: l) (hl : e.2.2.2.2 = lv) (ls st : List am_V) (M : am_M) : am_at P d j pc (am_ms lv ls) st M = am_at P d j pc ls st M := by
  rw [am_at_step, am_at_step, hg, ← hl]
  exact am_step_ms _ _ _ _ _ _ _
theorem am_wf_lt : ∀ {l : List am_E} {e : am_E}, am_wf (e :: l) = true → ∀ x ∈ l, e.1 < x.1
  | [], _, _ => fun x hx => by cases hx
  | e' :: l, e, h => by
    unfold am_wf at h
    simp only [Bool.and_eq_true, decide_eq_true_eq, beq_iff_eq] at h
    intro x hx
    rcases List.mem_cons.mp hx with rfl | hx
    · omega
    · have := am_wf_lt h.2 x hx
      omega
theorem am_wf_tl {e : am_E} {l : List am_E} (h : am_wf (e :: l) = true) : am_wf l = true := by
  unfold am_wf at h
  simp only [Bool.and_eq_true] at h
  exact h.2
theorem am_wf_go {e : am_E} {l : List am_E} : ∀ (pre : List am_E), am_wf (pre ++ e :: l) = true → am_go (pre ++ e :: l) e.1 = e :: l
  | [], _ => by
    unfold am_go
    simp
  | x :: pre, h => by
    show am_go (x :: (pre ++ e :: l)) e.1 = e :: l
    have h1 := am_wf_lt h e (by simp)
    unfold am_go
    rw [if_neg (by omega)]
    exact am_wf_go pre (am_wf_tl h)
theorem am_wf_sub : ∀ (pre : List am_E) {l : List am_E}, am_wf (pre ++ l) = true → am_wf l = true
  | [], _, h => h
  | _ :: pre, _, h => am_wf_sub pre (am_wf_tl h)
theorem am_go_none : ∀ {code : List am_E} {t : Nat}, (∀ x ∈ code, x.1 ≠ t) → am_go code t = []
  | [], _, _ => rfl
  | x :: c, t, h => by
    unfold am_go
    rw [if_neg (h x (by simp))]
    exact am_go_none fun y hy => h y (List.mem_cons_of_mem _ hy)
theorem am_wf_nx {e : am_E} {l : List am_E} (pre : List am_E) (h : am_wf (pre ++ e :: l) = true) : am_go (pre ++ e :: l) (e.1 + e.2.2.1) = l := by
  have h1 := am_wf_sub pre h
  unfold am_wf at h1
  cases l with
  | nil =>
    simp only [Bool.and_eq_true, decide_eq_true_eq] at h1
    refine am_go_none fun x hx => ?_
    rcases List.mem_append.mp hx with hx | hx
    · obtain ⟨p1, p2, rfl⟩ := List.append_of_mem hx
      have h2 := am_wf_lt (l := p2 ++ [e]) (e := x) (by
        have := am_wf_sub p1 (l := x :: (p2 ++ [e])) (by simpa using h)
        exact this) e (by simp)
      omega
    · simp at hx
      subst hx
      omega
  | cons e' l =>
    simp only [Bool.and_eq_true, decide_eq_true_eq, beq_iff_eq] at h1
    rw [h1.1.2]
    have := am_wf_go (e := e') (l := l) (pre ++ [e]) (by simpa using h)
    simpa using this
theorem am_go_sf : ∀ (code : List am_E) (t : Nat), ∃ pre, code = pre ++ am_go code t
  | [], _ => ⟨[], rfl⟩
  | x :: c, t => by
    unfold am_go
    by_cases hx : x.1 = t
    · exact ⟨[], by simp [hx]⟩
    · obtain ⟨pre, h⟩ := am_go_sf c t
      exact ⟨x :: pre, by rw [if_neg hx]; simp [← h]⟩
theorem am_D_eq (P : Nat → am_T) {d j nl ret : Nat} {code : List am_E} {cuts : List (Nat × Nat)} (hP : P j = (nl, ret, code)) (hw : am_wf code = true) (hc : am_ck code cuts = true) : ∀ (n : Nat) (l : List am_E) (ls st : List am_V) (M : am_M), (∃ pre, code = pre ++ l) → am_D (am_at P d j) (am_m P d) code ret cuts n l ls st M = (match l with
    | [] => none
    | e :: _ => am_at P d j e.1 ls st M)
  | 0, [], _, _, _, _ => rfl
  | n + 1, [], _, _, _, _ => rfl
  | 0, e :: _, _, _, _, _ => rfl
  | n + 1, e :: rest, ls, st, M, ⟨pre, hpre⟩ => by
    have hgo : am_go (P j).2.2 e.1 = e :: rest := by
      rw [hP]
      show am_go code e.1 = _
      rw [hpre]
      exact am_wf_go pre (by rw [← hpre]; exact hw)
    show am_D _ _ _ _ _ _ _ _ _ _ = am_at P d j e.1 ls st M
    rw [am_at_step, hgo]
    unfold am_D
    have hr : (P j).2.1 = ret := by rw [hP]
    rw [hr]
    show am_step _ _ _ _ _ _ _ = am_step (am_at P d j) _ _ _ _ _ _
    congr 1
    funext pc' ls' st' M'
    have hat : ∀ pc l, am_go code pc = l → (match l with
      | [] => none
      | e :: _ => am_at P d j e.1 ls' st' M') = am_at P d j pc ls' st' M' := by
      intro pc l hl
      cases l with
      | nil =>
        rw [am_at_step]
        have : am_go (P j).2.2 pc = [] := by rw [hP]; exact hl
        rw [this]
      | cons x l => rw [← am_go_hd hl]
    cases hq : cuts.find? (fun q => q.1 == pc') with
    | some q =>
      have h1 := List.find?_some hq
      have h2 := List.all_eq_true.mp hc q (List.mem_of_find?_eq_some hq)
      simp only [beq_iff_eq] at h1
      subst h1
      cases hg : am_go code q.1 with
      | nil => rw [hg] at h2; cases h2
      | cons x l =>
        rw [hg] at h2
        simp only [beq_iff_eq] at h2
        exact am_at_ms P d j q.1 (e := x) (l := l) (by rw [hP]; exact hg) h2 ls' st' M'
    | none =>
      dsimp only
      by_cases hn : pc' = e.1 + e.2.2.1
      · rw [if_pos hn, am_D_eq P hP hw hc n rest ls' st' M' ⟨pre ++ [e], by simp [hpre]⟩]
        exact hat pc' rest (by rw [hn, hpre]; exact am_wf_nx pre (by rw [← hpre]; exact hw))
      · rw [if_neg hn, am_D_eq P hP hw hc n (am_go code pc') ls' st' M' (am_go_sf code pc')]
        exact hat pc' _ rfl
theorem am_burst (P : Nat → am_T) {d j nl ret : Nat} {code : List am_E} {cuts : List (Nat × Nat)} (hP : P j = (nl, ret, code)) (hw : am_wf code = true) (hc : am_ck code cuts = true) (n pc : Nat) (ls st : List am_V) (M : am_M) : am_at P d j pc ls st M = am_D (am_at P d j) (am_m P d) code ret cuts n (am_go code pc) ls st M := by
  rw [am_D_eq P hP hw hc n _ ls st M (am_go_sf code pc)]
  cases hg : am_go code pc with
  | nil =>
    rw [am_at_step]
    have : am_go (P j).2.2 pc = [] := by rw [hP]; exact hg
    rw [this]
  | cons x l => rw [← am_go_hd hg]
end
