/-! THE SMALL MACHINE: values, memory, one step of an instruction, by continuation -/
abbrev am_V : Type := Int ⊕ ((Nat × Nat) ⊕ (Int64 ⊕ (UInt32 ⊕ (UInt64 ⊕ Unit))))
abbrev am_i (z : Int) : am_V := .inl z
/-- a reference: the tag of what it points to, the cell's number -/
abbrev am_r (t i : Nat) : am_V := .inr (.inl (t, i))
abbrev am_l (x : Int64) : am_V := .inr (.inr (.inl x))
abbrev am_f (x : UInt32) : am_V := .inr (.inr (.inr (.inl x)))
abbrev am_d (x : UInt64) : am_V := .inr (.inr (.inr (.inr (.inl x))))
abbrev am_u : am_V := .inr (.inr (.inr (.inr (.inr ()))))
/-- the memory: a cell's number, a field's or an element's place; its number -/
abbrev am_M : Type := Nat → Int → Int
abbrev am_O : Type := Option am_V × am_M
/-- a row of code: pc, instruction, its length, what its link comes to, which locals live there (0: not said) -/
abbrev am_E : Type := Nat × ClassFile.Instr × Nat × Nat × Nat
/-- a method: its locals, its kind of answer (0 none, 1 int, 2 State, 3 long, 4 boolean), its code -/
abbrev am_T : Type := Nat × Nat × List am_E
abbrev am_K : Type := Nat → List am_V → List am_V → am_M → Option am_O
abbrev am_C : Type := Nat → List am_V → am_M → Option am_O
def am_wr (z : Int) : Int := (z + 2147483648) % 4294967296 - 2147483648
def am_up (f : Int → Int) (k x : Int) : Int → Int := fun j => if j = k then x else f j
def am_st (M : am_M) (i : Nat) (f : Int → Int) : am_M := fun j => if j = i then f else M j
/-- one place of a cell is set -/
def am_set (M : am_M) (i : Nat) (j x : Int) : am_M := am_st M i (am_up (M i) j x)
def am_cpy (f g : Int → Int) (n : Int) : Int → Int := fun j => if 0 ≤ j ∧ j < n then f j else g j
def am_cp (M : am_M) (i i' : Nat) (n : Int) : am_M := am_st M i (am_cpy (M i') (M i) n)
/-- a number, a memory, named -/
def am_v (z : Int) (f : Int → Option am_O) : Option am_O := f z
def am_w (M : am_M) (f : am_M → Option am_O) : Option am_O := f M
def am_lg : List am_V → Nat → am_V
  | [], _ => am_u
  | v :: _, 0 => v
  | _ :: l, n + 1 => am_lg l n
def am_c2 (v : am_V) : Bool := match v with
  | .inr (.inr (.inl _)) => true
  | .inr (.inr (.inr (.inr (.inl _)))) => true
  | _ => false
/-- a local of one word is set; what was half of it goes -/
def am_ls : List am_V → Nat → am_V → List am_V
  | [], _, _ => []
  | _ :: l, 0, v => v :: l
  | w :: l, n + 1, v => (if n = 0 ∧ am_c2 w = true then am_u else w) :: am_ls l n v
/-- a local of two words is set -/
def am_lw (l : List am_V) (n : Nat) (v : am_V) : List am_V := am_ls (am_ls l (n + 1) am_u) n v
def am_mk : Nat → List am_V → List am_V
  | _, [] => []
  | n, v :: l => (if n % 2 = 1 then v else am_u) :: am_mk (n / 2) l
def am_ms (n : Nat) (ls : List am_V) : List am_V := if n = 0 then ls else am_mk (n / 2) ls
def am_onI (v : am_V) (f : Int → Option am_O) : Option am_O := match v with
  | .inl z => f z
  | _ => none
def am_onR (v : am_V) (f : Nat → Nat → Option am_O) : Option am_O := match v with
  | .inr (.inl q) => f q.1 q.2
  | _ => none
def am_onL (v : am_V) (f : Int64 → Option am_O) : Option am_O := match v with
  | .inr (.inr (.inl z)) => f z
  | _ => none
def am_onF (v : am_V) (f : UInt32 → Option am_O) : Option am_O := match v with
  | .inr (.inr (.inr (.inl z))) => f z
  | _ => none
def am_onD (v : am_V) (f : UInt64 → Option am_O) : Option am_O := match v with
  | .inr (.inr (.inr (.inr (.inl z)))) => f z
  | _ => none
def am_s1 (st : List am_V) (f : am_V → List am_V → Option am_O) : Option am_O := match st with
  | v :: st => f v st
  | _ => none
def am_if (c : Prop) [Decidable c] (x : Option am_O) : Option am_O := if c then x else none
/-- two ints, the lower first -/
def am_i2 (st : List am_V) (f : Int → Int → List am_V → Option am_O) : Option am_O := am_s1 st fun y st => am_s1 st fun x st => am_onI y fun y => am_onI x fun x => f x y st
def am_i1 (st : List am_V) (f : Int → List am_V → Option am_O) : Option am_O := am_s1 st fun y st => am_onI y fun y => f y st
def am_l2 (st : List am_V) (f : Int64 → Int64 → List am_V → Option am_O) : Option am_O := am_s1 st fun y st => am_s1 st fun x st => am_onL y fun y => am_onL x fun x => f x y st
def am_f2 (st : List am_V) (f : UInt32 → UInt32 → List am_V → Option am_O) : Option am_O := am_s1 st fun y st => am_s1 st fun x st => am_onF y fun y => am_onF x fun x => f x y st
def am_d2 (st : List am_V) (f : UInt64 → UInt64 → List am_V → Option am_O) : Option am_O := am_s1 st fun y st => am_s1 st fun x st => am_onD y fun y => am_onD x fun x => f x y st
def am_br (c : ClassFile.Cond) (x y : Int) (a b : Option am_O) : Option am_O := match c with
  | .eq => if x = y then a else b
  | .ne => if x = y then b else a
  | .lt => if x < y then a else b
  | .ge => if x < y then b else a
  | .gt => if y < x then a else b
  | .le => if y < x then b else a
def am_sw (k : Nat → Option am_O) (pc : Nat) (df : Int) (x : Int) : Int → List Int → Option am_O
  | _, [] => k ((pc : Int) + df).toNat
  | lo, o :: l => if x = lo then k ((pc : Int) + o).toNat else am_sw k pc df x (lo + 1) l
def am_lk (k : Nat → Option am_O) (pc : Nat) (df : Int) (x : Int) : List (Int × Int) → Option am_O
  | [] => k ((pc : Int) + df).toNat
  | q :: l => if x = q.1 then k ((pc : Int) + q.2).toNat else am_lk k pc df x l
/-- arrays by their tag: 0 int, 1 boolean, 2 State; the length (tag 21: the script, its length at -1) -/
def am_ar (t : Nat) : Option (Nat × Int) := match t with
  | 10 => some (0, 96)
  | 11 => some (0, 256)
  | 12 => some (0, 160)
  | 13 => some (0, 1280)
  | 14 => some (0, 12)
  | 15 => some (1, 12)
  | 16 => some (2, 16)
  | 17 => some (0, 512)
  | 18 => some (0, 16)
  | 19 => some (0, 32336)
  | 20 => some (0, 1902)
  | _ => none
/-- what an array's element is: the tag's kind; none: not that kind -/
def am_al (M : am_M) (t i : Nat) (f : Int → Option am_O) : Option am_O := match t with
  | 21 => f (M i (-1))
  | t => match am_ar t with
    | some q => f q.2
    | none => none
def am_ak (kd t : Nat) (f : Int → Option am_O) : Option am_O := match am_ar t with
  | some q => if q.1 = kd then f q.2 else none
  | none => none
/-- an object's final reference: the tag and the distance of what it points to -/
def am_ly (t k : Nat) : Nat × Nat := match t with
  | 0 => (17, 1)
  | 1 => (16, 1)
  | 2 => (10 + k, 1 + k)
  | 3 => (17, 1 + k)
  | 7 => (18, 1 + k)
  | 4 => match k with
    | 0 => (2, 1)
    | 3 => (15, 8)
    | k => (14, 5 + k)
  | 5 => match k with
    | 0 => (4, 1)
    | 2 => (1, 29)
    | 3 => (4, 255)
    | 4 => (1, 269)
    | 5 => (3, 495)
    | 6 => (7, 498)
    | 7 => (0, 501)
    | _ => (11, 503)
  | _ => match k with
    | 0 => (19, 1)
    | 1 => (19, 2)
    | 3 => (20, 3)
    | 4 => (10, 4)
    | 5 => (12, 5)
    | 6 => (10, 6)
    | 7 => (12, 7)
    | 8 => (17, 8)
    | 11 => (17, 9)
    | 12 => (17, 10)
    | 14 => (18, 11)
    | _ => (18, 12)
/-- a field's kind, by its class: 0 int, 1 a State that may change, 2 a final reference, 3 boolean -/
def am_fk (c k : Nat) : Nat := match c with
  | 0 => if k = 0 then 2 else 0
  | 1 => if k = 0 then 2 else 0
  | 2 => 2
  | 3 => if k < 2 then 2 else 0
  | 4 => if k < 9 then 2 else if k < 11 then 0 else 3
  | 5 => if k = 1 then 1 else 2
  | _ => if k = 2 then 3 else if k = 9 ∨ k = 10 ∨ k = 13 ∨ 16 ≤ k then 0 else 2
def am_cl (t : Nat) : Nat := if t = 7 then 3 else t
def am_go (code : List am_E) (t : Nat) : List am_E := match code with
  | [] => []
  | e :: l => if e.1 = t then e :: l else am_go l t
def am_bI (o : Option am_O) (f : Int → am_M → Option am_O) : Option am_O := match o with
  | some (some (.inl z), M) => f z M
  | _ => none
def am_bR (o : Option am_O) (f : Nat → am_M → Option am_O) : Option am_O := match o with
  | some (some (.inr (.inl q)), M) => if q.1 = 4 then f q.2 M else none
  | _ => none
def am_bL (o : Option am_O) (f : Int64 → am_M → Option am_O) : Option am_O := match o with
  | some (some (.inr (.inr (.inl z))), M) => f z M
  | _ => none
def am_bV (o : Option am_O) (f : am_M → Option am_O) : Option am_O := match o with
  | some (none, M) => f M
  | _ => none
/-- n values off the stack, the deepest first -/
def am_tk : Nat → List am_V → List am_V → (List am_V → List am_V → Option am_O) → Option am_O
  | 0, acc, st, f => f acc st
  | n + 1, acc, st, f => am_s1 st fun v st => am_tk n (v :: acc) st f
/-- the receiver is of the method's class (0: static) -/
def am_rc (c : Nat) (as : List am_V) (x : Option am_O) : Option am_O := match c with
  | 0 => x
  | c + 1 => am_s1 as fun v _ => am_onR v fun t _ => am_if (am_cl t = c) x
/-- a call's answer, by its kind -/
def am_an (ret : Nat) (o : Option am_O) (st : List am_V) (k : List am_V → am_M → Option am_O) : Option am_O := match ret with
  | 0 => am_bV o fun M => k st M
  | 2 => am_bR o fun i M => k (am_r 4 i :: st) M
  | 3 => am_bL o fun x M => k (am_l x :: st) M
  | _ => am_bI o fun z M => k (am_i z :: st) M
def am_inv (k : List am_V → am_M → Option am_O) (cl : am_C) (aux : Nat) (st : List am_V) (M : am_M) : Option am_O :=
  am_tk (aux / 10 % 100) [] st fun as st => am_if (st.length ≤ 4) (am_rc (aux / 1000 % 10) as (am_an (aux % 10) (cl (aux / 10000) as M) st k))
def am_and (x y : Int) : Int := (Int32.ofInt x &&& Int32.ofInt y).toInt
def am_or (x y : Int) : Int := (Int32.ofInt x ||| Int32.ofInt y).toInt
def am_shl (x y : Int) : Int := (Int32.ofInt x <<< (Int32.ofInt y &&& 31)).toInt
def am_shr (x y : Int) : Int := (Int32.ofInt x >>> (Int32.ofInt y &&& 31)).toInt
def am_ushr (x y : Int) : Int := ((Int32.ofInt x).toUInt32 >>> ((Int32.ofInt y).toUInt32 &&& Int32.toUInt32 31)).toInt32.toInt
def am_div (x y : Int) : Int := (Int32.ofInt x / Int32.ofInt y).toInt
def am_rem (x y : Int) : Int := (Int32.ofInt x - Int32.ofInt x / Int32.ofInt y * Int32.ofInt y).toInt
def am_kf (n : Nat) : UInt32 := match n with
  | 0 => FP.fconst0
  | 1 => FP.fconst1
  | _ => FP.fconst2
def am_kd (n : Nat) : UInt64 := match n with
  | 0 => FP.dconst0
  | _ => FP.dconst1
/-- a constant of the pool, by its number here -/
def am_ldc (aux : Nat) : am_V := match aux with
  | 0 => am_i 1000000
  | 1 => am_i 999999
  | 2 => am_i 2143289344
  | 3 => am_f 1258291200
  | 4 => am_d 4652007308841189376
  | 5 => am_d 4611686018427387904
  | 6 => am_d 4841369599423283200
  | 7 => am_l 1023
  | 8 => am_l 9221120237041090560
  | _ => am_u
/-- what isn't code: 900 max, 901 arraycopy, 902 and 903 raw bits -/
def am_nat (k : List am_V → am_M → Option am_O) (n : Nat) (st : List am_V) (M : am_M) : Option am_O := am_if (st.length ≤ 9) (match n with
  | 900 => am_i2 st fun x y st => k (am_i (if x < y then y else x) :: st) M
  | 901 => am_i1 st fun n st => am_i1 st fun dp st => am_s1 st fun w st => am_i1 st fun sp st => am_s1 st fun v st => am_onR w fun t i => am_onR v fun t' i' =>
    match am_ar t with
    | some q => am_if (t = t' ∧ q.1 < 2 ∧ sp = 0 ∧ dp = 0 ∧ 0 ≤ n ∧ n ≤ q.2) (am_w (am_cp M i i' n) fun M => k st M)
    | none => none
  | 902 => am_s1 st fun v st => am_onF v fun x => k (am_i x.toInt32.toInt :: st) M
  | 903 => am_s1 st fun v st => am_onD v fun x => k (am_l x.toInt64 :: st) M
  | _ => none)
def am_step (k : am_K) (cl : am_C) (ret : Nat) (e : am_E) (ls0 st : List am_V) (M : am_M) : Option am_O :=
  match e with
  | (pc, ins, len, aux, lv) =>
  let nx := pc + len
  let ls := am_ms lv ls0
  match ins with
  | .iload n => am_onI (am_lg ls n) fun z => k nx ls (am_i z :: st) M
  | .iload_n n => am_onI (am_lg ls n) fun z => k nx ls (am_i z :: st) M
  | .aload n => am_onR (am_lg ls n) fun t i => k nx ls (am_r t i :: st) M
  | .aload_n n => am_onR (am_lg ls n) fun t i => k nx ls (am_r t i :: st) M
  | .istore n => am_i1 st fun z st => am_v z fun z => k nx (am_ls ls n (am_i z)) st M
  | .istore_n n => am_i1 st fun z st => am_v z fun z => k nx (am_ls ls n (am_i z)) st M
  | .astore n => am_s1 st fun v st => am_onR v fun t i => k nx (am_ls ls n (am_r t i)) st M
  | .astore_n n => am_s1 st fun v st => am_onR v fun t i => k nx (am_ls ls n (am_r t i)) st M
  | .iinc n c => am_onI (am_lg ls n) fun z => am_v (am_wr (z + c)) fun z => k nx (am_ls ls n (am_i z)) st M
  | .iconst n => k nx ls (am_i n :: st) M
  | .bipush n => k nx ls (am_i n :: st) M
  | .sipush n => k nx ls (am_i n :: st) M
  | .ldc _ => k nx ls (am_ldc aux :: st) M
  | .ldc_w _ => k nx ls (am_ldc aux :: st) M
  | .ldc2_w _ => k nx ls (am_ldc aux :: st) M
  | .iadd => am_i2 st fun x y st => k nx ls (am_i (am_wr (x + y)) :: st) M
  | .isub => am_i2 st fun x y st => k nx ls (am_i (am_wr (x - y)) :: st) M
  | .imul => am_i2 st fun x y st => k nx ls (am_i (am_wr (x * y)) :: st) M
  | .idiv => am_i2 st fun x y st => am_if (¬ y = 0) (k nx ls (am_i (am_div x y) :: st) M)
  | .irem => am_i2 st fun x y st => am_if (¬ y = 0) (k nx ls (am_i (am_rem x y) :: st) M)
  | .iand => am_i2 st fun x y st => k nx ls (am_i (am_and x y) :: st) M
  | .ior => am_i2 st fun x y st => k nx ls (am_i (am_or x y) :: st) M
  | .ishl => am_i2 st fun x y st => k nx ls (am_i (am_shl x y) :: st) M
  | .ishr => am_i2 st fun x y st => k nx ls (am_i (am_shr x y) :: st) M
  | .iushr => am_i2 st fun x y st => k nx ls (am_i (am_ushr x y) :: st) M
  | .if_icmp c off => am_i2 st fun x y st => am_br c x y (k ((pc : Int) + off).toNat ls st M) (k nx ls st M)
  | .ifCond c off => am_i1 st fun x st => am_br c x 0 (k ((pc : Int) + off).toNat ls st M) (k nx ls st M)
  | .goto off => k ((pc : Int) + off).toNat ls st M
  | .tableswitch df lo hi offs => am_i1 st fun x st => am_if (lo + offs.toList.length = hi + 1) (am_sw (fun pc => k pc ls st M) pc df x lo offs.toList)
  | .lookupswitch df ps => am_i1 st fun x st => am_lk (fun pc => k pc ls st M) pc df x ps.toList
  | .dup => am_s1 st fun v st => am_if (am_c2 v = false) (k nx ls (v :: v :: st) M)
  | .dup2 => am_s1 st fun v st => am_s1 st fun w st => am_if (am_c2 v = false ∧ am_c2 w = false) (k nx ls (v :: w :: v :: w :: st) M)
  | .pop => am_s1 st fun v st => am_if (am_c2 v = false) (k nx ls st M)
  | .getfield _ => am_s1 st fun v st => am_onR v fun t i => am_if (am_cl t = aux / 32) (match am_fk (aux / 32) (aux % 32) with
    | 1 => k nx ls (am_r 4 (M i (aux % 32 : Nat)).toNat :: st) M
    | 2 => k nx ls (am_r (am_ly t (aux % 32)).1 (i + (am_ly t (aux % 32)).2) :: st) M
    | _ => k nx ls (am_i (M i (aux % 32 : Nat)) :: st) M)
  | .putfield _ => am_s1 st fun x st => am_s1 st fun v st => am_onR v fun t i => am_if (am_cl t = aux / 32) (match am_fk (aux / 32) (aux % 32) with
    | 0 => am_onI x fun z => am_w (am_set M i (aux % 32 : Nat) z) fun M => k nx ls st M
    | 1 => am_onR x fun t' i' => am_if (t' = 4) (am_w (am_set M i (aux % 32 : Nat) (i' : Int)) fun M => k nx ls st M)
    | 3 => am_onI x fun z => am_if (z = 0 ∨ z = 1) (am_w (am_set M i (aux % 32 : Nat) z) fun M => k nx ls st M)
    | _ => none)
  | .arraylength => am_s1 st fun v st => am_onR v fun t i => am_al M t i fun n => k nx ls (am_i n :: st) M
  | .iaload => am_i1 st fun j st => am_s1 st fun w st => am_onR w fun t i => match t with
    | 21 => am_if (0 ≤ j ∧ j < M i (-1)) (k nx ls (am_i (M i j) :: st) M)
    | t => am_ak 0 t fun n => am_if (0 ≤ j ∧ j < n) (k nx ls (am_i (M i j) :: st) M)
  | .baload => am_i1 st fun j st => am_s1 st fun w st => am_onR w fun t i => am_ak 1 t fun n => am_if (0 ≤ j ∧ j < n) (k nx ls (am_i (M i j) :: st) M)
  | .aaload => am_i1 st fun j st => am_s1 st fun w st => am_onR w fun t i => am_ak 2 t fun n => am_if (0 ≤ j ∧ j < n) (k nx ls (am_r 4 (M i j).toNat :: st) M)
  | .iastore => am_i1 st fun x st => am_i1 st fun j st => am_s1 st fun w st => am_onR w fun t i => am_ak 0 t fun n => am_if (0 ≤ j ∧ j < n) (am_w (am_set M i j x) fun M => k nx ls st M)
  | .bastore => am_i1 st fun x st => am_i1 st fun j st => am_s1 st fun w st => am_onR w fun t i => am_ak 1 t fun n => am_if ((0 ≤ j ∧ j < n) ∧ (x = 0 ∨ x = 1)) (am_w (am_set M i j x) fun M => k nx ls st M)
  | .aastore => am_s1 st fun x st => am_i1 st fun j st => am_s1 st fun w st => am_onR x fun t' i' => am_onR w fun t i => am_ak 2 t fun n => am_if ((0 ≤ j ∧ j < n) ∧ t' = 4) (am_w (am_set M i j (i' : Int)) fun M => k nx ls st M)
  | .invokevirtual _ => am_if (aux / 1000 % 10 ≠ 0) (am_inv (fun st M => k nx ls st M) cl aux st M)
  | .invokestatic _ => match aux / 10000 with
    | 900 => am_nat (fun st M => k nx ls st M) 900 st M
    | 901 => am_nat (fun st M => k nx ls st M) 901 st M
    | 902 => am_nat (fun st M => k nx ls st M) 902 st M
    | 903 => am_nat (fun st M => k nx ls st M) 903 st M
    | _ => am_if (aux / 1000 % 10 = 0) (am_inv (fun st M => k nx ls st M) cl aux st M)
  | .return_ => match st with
    | [] => am_if (ret = 0) (some (none, M))
    | _ => none
  | .ireturn => am_i1 st fun z st => match st with
    | [] => match ret with
      | 1 => some (some (am_i z), M)
      | 4 => am_if (z = 0 ∨ z = 1) (some (some (am_i z), M))
      | _ => none
    | _ => none
  | .areturn => am_s1 st fun v st => am_onR v fun t i => match st with
    | [] => am_if (ret = 2 ∧ t = 4) (some (some (am_r 4 i), M))
    | _ => none
  | .lreturn => am_s1 st fun v st => am_onL v fun x => match st with
    | [] => am_if (ret = 3) (some (some (am_l x), M))
    | _ => none
  | .lconst n => k nx ls (am_l (Int64.ofNat (n : Nat)) :: st) M
  | .fconst n => k nx ls (am_f (am_kf n) :: st) M
  | .dconst n => k nx ls (am_d (am_kd n) :: st) M
  | .lload n => am_onL (am_lg ls n) fun z => k nx ls (am_l z :: st) M
  | .lload_n n => am_onL (am_lg ls n) fun z => k nx ls (am_l z :: st) M
  | .fload_n n => am_onF (am_lg ls n) fun z => k nx ls (am_f z :: st) M
  | .dload_n n => am_onD (am_lg ls n) fun z => k nx ls (am_d z :: st) M
  | .lstore n => am_s1 st fun v st => am_onL v fun z => k nx (am_lw ls n (am_l z)) st M
  | .lstore_n n => am_s1 st fun v st => am_onL v fun z => k nx (am_lw ls n (am_l z)) st M
  | .fstore_n n => am_s1 st fun v st => am_onF v fun z => k nx (am_ls ls n (am_f z)) st M
  | .dstore_n n => am_s1 st fun v st => am_onD v fun z => k nx (am_lw ls n (am_d z)) st M
  | .ladd => am_l2 st fun x y st => k nx ls (am_l (x + y) :: st) M
  | .lsub => am_l2 st fun x y st => k nx ls (am_l (x - y) :: st) M
  | .lor => am_l2 st fun x y st => k nx ls (am_l (x ||| y) :: st) M
  | .lshl => am_i1 st fun y st => am_s1 st fun v st => am_onL v fun x => k nx ls (am_l (x <<< ((Int32.ofInt y).toInt64 &&& 63)) :: st) M
  | .lcmp => am_l2 st fun x y st => k nx ls (am_i (lg_cmp x y).toInt :: st) M
  | .i2l => am_i1 st fun x st => k nx ls (am_l (Int32.ofInt x).toInt64 :: st) M
  | .l2d => am_s1 st fun v st => am_onL v fun x => k nx ls (am_d (FP.l2d x) :: st) M
  | .i2d => am_i1 st fun x st => k nx ls (am_d (FP.i2d (Int32.ofInt x)) :: st) M
  | .i2f => am_i1 st fun x st => k nx ls (am_f (FP.i2f (Int32.ofInt x)) :: st) M
  | .d2i => am_s1 st fun v st => am_onD v fun x => k nx ls (am_i (FP.d2i x).toInt :: st) M
  | .d2l => am_s1 st fun v st => am_onD v fun x => k nx ls (am_l (FP.d2l x) :: st) M
  | .f2i => am_s1 st fun v st => am_onF v fun x => k nx ls (am_i (FP.f2i x).toInt :: st) M
  | .fcmp op => am_f2 st fun x y st => k nx ls (am_i (Op.cmpValue (FP.fcmp x y) op).toInt :: st) M
  | .dcmp op => am_d2 st fun x y st => k nx ls (am_i (Op.cmpValue (FP.dcmp x y) op).toInt :: st) M
  | .fsub => am_f2 st fun x y st => am_if (FP.fsub x y &&& 0x7fffffff ≤ 0x7f800000) (k nx ls (am_f (FP.fsub x y) :: st) M)
  | .fmul => am_f2 st fun x y st => am_if (FP.fmul x y &&& 0x7fffffff ≤ 0x7f800000) (k nx ls (am_f (FP.fmul x y) :: st) M)
  | .fdiv => am_f2 st fun x y st => am_if (FP.fdiv x y &&& 0x7fffffff ≤ 0x7f800000) (k nx ls (am_f (FP.fdiv x y) :: st) M)
  | .dadd => am_d2 st fun x y st => am_if (FP.dadd x y &&& 0x7fffffffffffffff ≤ 0x7ff0000000000000) (k nx ls (am_d (FP.dadd x y) :: st) M)
  | .dsub => am_d2 st fun x y st => am_if (FP.dsub x y &&& 0x7fffffffffffffff ≤ 0x7ff0000000000000) (k nx ls (am_d (FP.dsub x y) :: st) M)
  | .dmul => am_d2 st fun x y st => am_if (FP.dmul x y &&& 0x7fffffffffffffff ≤ 0x7ff0000000000000) (k nx ls (am_d (FP.dmul x y) :: st) M)
  | .ddiv => am_d2 st fun x y st => am_if (FP.ddiv x y &&& 0x7fffffffffffffff ≤ 0x7ff0000000000000) (k nx ls (am_d (FP.ddiv x y) :: st) M)
  | _ => none
/-- a method's locals at its start -/
def am_in : List am_V → List am_V
  | [] => []
  | v :: l => if am_c2 v = true then v :: am_u :: am_in l else v :: am_in l
def am_en (n : Nat) (as : List am_V) : List am_V := am_in as ++ List.replicate (n - (am_in as).length) am_u
/-- fuel f, depth d: method j from pc on -/
def am_ex (P : Nat → am_T) : Nat → Nat → Nat → Nat → List am_V → List am_V → am_M → Option am_O
  | 0, _, _, _, _, _, _ => none
  | f + 1, d, j, pc, ls, st, M => match am_go (P j).2.2 pc with
    | [] => none
    | e :: _ => am_step (am_ex P f d j) (fun j' as M' => match d with
      | 0 => none
      | d' + 1 => am_if ((am_in as).length ≤ (P j').1) (am_ex P f d' j' 0 (am_en (P j').1 as) [] M')) (P j).2.1 e ls st M
