/-! the abstract machine: its state, its steps -/
abbrev am_M : Type := Nat → Nat → Int32
abbrev am_K : Type := (Nat ⊕ (FieldType × Nat)) × List (Option Nat)
abbrev am_G : Type := List am_K
abbrev am_L : Type := List (Option Value)
abbrev am_F : Type := Nat × am_L × List Value × am_G × am_M
abbrev am_X : Type := Nat × (Nat → Int32)
def am_nth {α : Type} : List α → Nat → Option α
  | [], _ => none
  | a :: _, 0 => some a
  | _ :: l, n + 1 => am_nth l n
def am_two {α : Type} (t : List (List α)) (k : Nat) : Option α := match am_nth t (k / 16) with
  | some l => am_nth l (k % 16)
  | none => none
def am_as {α : Type} : List (Nat × α) → Nat → Option α
  | [], _ => none
  | (k, v) :: l, n => bif Nat.beq k n then some v else am_as l n
def am_own {α : Type} (t : List (List (Nat × α))) (o k : Nat) : Option α := match am_nth t o with
  | some l => am_as l k
  | none => none
def am_at (c : am_cd) (pc : Nat) : Option (Instr × Nat) := match am_two c pc with
  | some (some x) => some x
  | _ => none
def am_m0 : am_mt := ([], 0, 0, 0, none, 0)
def am_m (j : Nat) : am_mt := match am_two am_MT j with
  | some q => q
  | none => am_m0
def am_int (n : Int) : Int32 := match n with
  | .ofNat k => Int32.ofNat k
  | .negSucc k => -(Int32.ofNat (k + 1))
def am_tg (pc : Nat) (off : Int) : Nat := ((pc : Int) + off).toNat
def am_br {α : Type} (c : ClassFile.Cond) (a b : Int32) (X Y : α) : α := match c with
  | .eq => if a = b then X else Y
  | .ne => if a = b then Y else X
  | .lt => if a < b then X else Y
  | .ge => if a < b then Y else X
  | .gt => if b < a then X else Y
  | .le => if b < a then Y else X
def am_swr {α : Type} (x : Int32) (go : Int → α) (d : α) : List Int → Int → α
  | [], _ => d
  | o :: r, k => if x = am_int k then go o else am_swr x go d r (k + 1)
def am_wr (f : am_M) (p k : Nat) (v : Int32) : am_M := fun p' k' => if p' = p then (if k' = k then v else f p' k') else f p' k'
def am_cl (f : am_M) (p : Nat) : am_M := fun p' k' => if p' = p then 0 else f p' k'
def am_cp (f : am_M) (a b sp dp n : Nat) : am_M := fun p k => if p = b then (if dp ≤ k ∧ k < dp + n then f a (sp + (k - dp)) else f p k) else f p k
/-- is the index within -/
def am_in (i : Int32) (n : Nat) : Prop := ¬ (i < 0 ∨ n ≤ i.toNatClampNeg)
def am_inD (i : Int32) (n : Nat) : Decidable (am_in i n) := inferInstanceAs (Decidable (¬ (i < 0 ∨ n ≤ i.toNatClampNeg)))
def am_chk {α : Type} (i : Int32) (n : Nat) (x : Option α) : Option α := if i < 0 then none else if i.toNatClampNeg < n then x else none
/-- fields: 0 an int, 1 a boolean, 2 a reference -/
def am_fk : List (List Nat) := [[2, 2, 2], [2, 1], [2, 2, 0, 0], [2, 2, 0], [2, 2, 0, 0, 2, 2, 2, 2, 2, 0], [2, 0, 0, 0, 0, 0, 0, 1], [0, 0, 0, 2, 2, 2], [2, 2, 2, 2, 2, 2, 2, 2, 2],
  [0, 0, 2, 0, 2, 2, 2, 2, 0, 2, 2, 0, 2, 2, 2, 0, 0, 0, 1, 0, 0, 0, 2, 2, 2, 2, 2, 2, 2, 0, 0, 2, 2, 2]]
def am_ks (ci : Nat) : List Nat := match am_nth am_fk ci with
  | some l => l
  | none => []
def am_rv (r : Option (Option Nat)) : Value := match r with
  | some (some p) => .ref p
  | _ => .null
/-- the script 1000; the formatter 1001; the texts from 1010 on, their bytes from 1020 on -/
def am_str : List (List Int32) := [[115, 108, 111, 116, 115], [109, 97, 107, 101, 114], [116, 97, 107, 101, 114]]
def am_ldl : List (Nat × Nat × Value) := [(5, 92, .ref 1010), (5, 97, .ref 1011), (5, 99, .ref 1012), (13, 265, .int 1431655765), (13, 266, .int 858993459), (13, 267, .int 252645135)]
def am_ldf (o idx : Nat) : List (Nat × Nat × Value) → Option Value
  | [] => none
  | (a, b, v) :: l => bif Nat.beq a o && Nat.beq b idx then some v else am_ldf o idx l
def am_ldc (o idx : Nat) : Option Value := am_ldf o idx am_ldl
def am_get (o idx p : Nat) (G : am_G) (f : am_M) : Option Value := match am_nth G p with
  | some (.inl ci, rs) => (match am_own am_FL o idx with
    | some (ci', k, _) => bif Nat.beq ci ci' then (match am_nth (am_ks ci) k with
      | some 2 => some (am_rv (am_nth rs k))
      | some _ => some (.int (f p k))
      | none => none) else none
    | none => none)
  | some (.inr _, _) => none
  | none => bif Nat.beq o 10 && (Nat.ble 1010 p && Nat.ble p 1012) then (bif Nat.beq idx 9 then some (.ref (p + 10)) else bif Nat.beq idx 15 then some (.int 0) else none) else none
def am_bin (i : Instr) (a b : Int32) : Option Int32 := match i with
  | .iadd => some (a + b)
  | .isub => some (a - b)
  | .imul => some (a * b)
  | .iand => some (a &&& b)
  | .ior => some (a ||| b)
  | .ixor => some (a ^^^ b)
  | .ishl => some (a <<< (b &&& 31))
  | .ishr => some (a >>> (b &&& 31))
  | .iushr => some (a.toUInt32 >>> (b.toUInt32 &&& Int32.toUInt32 31)).toInt32
  | .idiv => if b = 0 then none else some (a / b)
  | .irem => if b = 0 then none else some (a - a / b * b)
  | _ => none
/-- an object comes -/
def am_obj (o idx : Nat) : Option am_K := match am_own am_NL o idx with
  | some (ci, _) => some (.inl ci, List.replicate (am_ks ci).length none)
  | none => none
/-- all but branches, calls and answers -/
def am_sim {ρ : Type} (X : am_X) (o h : Nat) (i : Instr) (len pc : Nat) (ls : am_L) (st : List Value) (G : am_G) (f : am_M) (k : Nat → am_L → List Value → am_G → am_M → Option ρ) : Option ρ := match i with
  | .aload x9 => (match am_nth ls x9 with
    | some (some (.ref p)) => k (pc + len) ls (.ref p :: st) G f
    | _ => none)
  | .aload_n x9 => (match am_nth ls x9.val with
    | some (some (.ref p)) => k (pc + len) ls (.ref p :: st) G f
    | _ => none)
  | .iload x9 => (match am_nth ls x9 with
    | some (some (.int x)) => k (pc + len) ls (.int x :: st) G f
    | _ => none)
  | .iload_n x9 => (match am_nth ls x9.val with
    | some (some (.int x)) => k (pc + len) ls (.int x :: st) G f
    | _ => none)
  | .istore x9 => (match st, am_nth ls x9 with
    | .int x :: st, some _ => k (pc + len) (ls.set x9 (some (.int x))) st G f
    | _, _ => none)
  | .istore_n x9 => (match st, am_nth ls x9.val with
    | .int x :: st, some _ => k (pc + len) (ls.set x9.val (some (.int x))) st G f
    | _, _ => none)
  | .astore x9 => (match st, am_nth ls x9 with
    | .ref p :: st, some _ => k (pc + len) (ls.set x9 (some (.ref p))) st G f
    | _, _ => none)
  | .astore_n x9 => (match st, am_nth ls x9.val with
    | .ref p :: st, some _ => k (pc + len) (ls.set x9.val (some (.ref p))) st G f
    | _, _ => none)
  | .iconst n => k (pc + len) ls (.int (am_int n) :: st) G f
  | .bipush n => k (pc + len) ls (.int (am_int n) :: st) G f
  | .sipush n => k (pc + len) ls (.int (am_int n) :: st) G f
  | .ldc idx => (match am_ldc o idx with
    | some (.ref p) => k (pc + len) ls (.ref p :: st) G f
    | _ => none)
  | .ldc_w idx => (match am_ldc o idx with
    | some (.int v) => k (pc + len) ls (.int v :: st) G f
    | _ => none)
  | .getstatic idx => bif Nat.beq o 10 then (bif Nat.beq idx 38 then k (pc + len) ls (.int 1 :: st) G f else bif Nat.beq idx 1053 then k (pc + len) ls (.ref 1001 :: st) G f else none) else none
  | .iinc x9 n => (match am_nth ls x9 with
    | some (some (.int x)) => k (pc + len) (ls.set x9 (some (.int (x + am_int n)))) st G f
    | _ => none)
  | .dup => (match st with
    | v :: st => k (pc + len) ls (v :: v :: st) G f
    | _ => none)
  | .dup2 => (match st with
    | v :: w :: st => k (pc + len) ls (v :: w :: v :: w :: st) G f
    | _ => none)
  | .pop => (match st with
    | _ :: st => k (pc + len) ls st G f
    | _ => none)
  | .i2c => (match st with
    | .int x :: st => k (pc + len) ls (.int (x.toUInt32 % 65536).toInt32 :: st) G f
    | _ => none)
  | .goto off => k (am_tg pc off) ls st G f
  | .getfield idx => (match st with
    | .ref p :: st => (match am_get o idx p G f with
      | some v => k (pc + len) ls (v :: st) G f
      | none => none)
    | _ => none)
  | .putfield idx => (match st with
    | v :: .ref p :: st => (match am_nth G p with
      | some (.inl ci, rs) => (match am_own am_FL o idx with
        | some (ci', x9, _) => bif Nat.beq ci ci' then (match am_nth (am_ks ci) x9, v with
          | some 0, .int x => k (pc + len) ls st G (am_wr f p x9 x)
          | some 1, .int x => if x = 0 ∨ x = 1 then k (pc + len) ls st G (am_wr f p x9 x) else none
          | some 2, .ref q => (match am_nth rs x9 with
            | some _ => k (pc + len) ls st (G.set p (.inl ci, rs.set x9 (some q))) f
            | none => none)
          | _, _ => none) else none
        | none => none)
      | _ => none)
    | _ => none)
  | .arraylength => (match st with
    | .ref p :: st => (match am_nth G p with
      | some (.inr (_, n), _) => k (pc + len) ls (.int (Int32.ofNat n) :: st) G f
      | some (.inl _, _) => none
      | none => bif Nat.beq p 1000 then k (pc + len) ls (.int (Int32.ofNat X.1) :: st) G f else bif Nat.ble 1020 p && Nat.ble p 1022 then k (pc + len) ls (.int 5 :: st) G f else none)
    | _ => none)
  | .iaload => (match st with
    | .int i :: .ref p :: st => (match am_nth G p with
      | some (.inr (.int, n), _) => am_chk i n (k (pc + len) ls (.int (f p i.toNatClampNeg) :: st) G f)
      | some _ => none
      | none => bif Nat.beq p 1000 then am_chk i X.1 (k (pc + len) ls (.int (X.2 i.toNatClampNeg) :: st) G f) else none)
    | _ => none)
  | .baload => (match st with
    | .int i :: .ref p :: st => (match am_nth G p with
      | some (.inr (.boolean, n), _) => am_chk i n (k (pc + len) ls (.int (f p i.toNatClampNeg) :: st) G f)
      | some _ => none
      | none => bif Nat.ble 1020 p && Nat.ble p 1022 then am_chk i 5 (match am_nth am_str (p - 1020) with
        | some l => (match am_nth l i.toNatClampNeg with
          | some x => k (pc + len) ls (.int x :: st) G f
          | none => none)
        | none => none) else none)
    | _ => none)
  | .iastore => (match st with
    | .int x :: .int i :: .ref p :: st => (match am_nth G p with
      | some (.inr (.int, n), _) => am_chk i n (k (pc + len) ls st G (am_wr f p i.toNatClampNeg x))
      | _ => none)
    | _ => none)
  | .bastore => (match st with
    | .int x :: .int i :: .ref p :: st => (match am_nth G p with
      | some (.inr (.boolean, n), _) => if x = 0 ∨ x = 1 then am_chk i n (k (pc + len) ls st G (am_wr f p i.toNatClampNeg x)) else none
      | _ => none)
    | _ => none)
  | .aaload => (match st with
    | .int i :: .ref p :: st => (match am_nth G p with
      | some (.inr (.object _, n), rs) => am_chk i n (k (pc + len) ls (am_rv (am_nth rs i.toNatClampNeg) :: st) G f)
      | _ => none)
    | _ => none)
  | .aastore => (match st with
    | .ref q :: .int i :: .ref p :: st => (match am_nth G p, am_nth G q with
      | some (.inr (.object _, n), rs), some (.inl 4, _) => am_chk i n (match am_nth rs i.toNatClampNeg with
        | some _ => k (pc + len) ls st (G.set p (.inr (.object "NumberedRings$Standing", n), rs.set i.toNatClampNeg (some q))) f
        | none => none)
      | _, _ => none)
    | _ => none)
  | .new idx => (match am_obj o idx with
    | some x9 => k (pc + len) ls (.ref G.length :: st) (G ++ [x9]) (am_cl f G.length)
    | none => none)
  | .newarray ty => (match st with
    | .int n :: st => if n < 0 then none else if 10000 < n.toNatClampNeg then none else (match ty with
      | .int => k (pc + len) ls (.ref G.length :: st) (G ++ [(.inr (.int, n.toNatClampNeg), [])]) (am_cl f G.length)
      | .boolean => k (pc + len) ls (.ref G.length :: st) (G ++ [(.inr (.boolean, n.toNatClampNeg), [])]) (am_cl f G.length)
      | _ => none)
    | _ => none)
  | .anewarray idx => (match st, am_own am_NL o idx with
    | .int n :: st, some (4, _) => if n < 0 then none else if 10000 < n.toNatClampNeg then none else k (pc + len) ls (.ref G.length :: st) (G ++ [(.inr (.object "NumberedRings$Standing", n.toNatClampNeg), List.replicate n.toNatClampNeg none)]) (am_cl f G.length)
    | _, _ => none)
  | .invokespecial idx => (match st, am_own am_CL o idx, h with
    | .ref p :: st, some (4, _, _), _ + 1 => bif Nat.ble st.length 8 && Nat.ble p 999 then k (pc + len) ls st G f else none
    | _, _, _ => none)
  | .invokestatic idx => (match st, am_own am_CL o idx, h with
    | .int n :: .int dp :: .ref b :: .int sp :: .ref a :: st, some (5, _, _), _ + 1 => (match am_nth G a, am_nth G b with
      | some (.inr (.int, na), _), some (.inr (.int, nb), _) => bif Nat.ble st.length 8 then (if sp < 0 then none else if dp < 0 then none else if n < 0 then none else
          if sp.toNatClampNeg + n.toNatClampNeg ≤ na then if dp.toNatClampNeg + n.toNatClampNeg ≤ nb then k (pc + len) ls st G (am_cp f a b sp.toNatClampNeg dp.toNatClampNeg n.toNatClampNeg) else none else none) else none
      | _, _ => none)
    | _, _, _ => none)
  | _ => (match st with
    | .int b :: .int a :: st => (match am_bin i a b with
      | some v => k (pc + len) ls (.int v :: st) G f
      | none => none)
    | _ => none)
/-- may the method of the class o be called on it -/
def am_rcv (G : am_G) (v : Option Value) (o : Nat) : Bool := match v with
  | some (.ref p) => (match am_nth G p with
    | some (.inl ci, _) => Nat.beq ci o
    | some (.inr _, _) => false
    | none => Nat.beq o 10 && (Nat.ble 1010 p && Nat.ble p 1012))
  | _ => false
def am_cj (o : Nat) (i : Instr) : Option (Nat × Nat) := match i with
  | .invokevirtual idx => (match am_own am_CL o idx with
    | some (0, j, _) => some (0, j)
    | _ => none)
  | .invokestatic idx => (match am_own am_CL o idx with
    | some (1, j, _) => some (1, j)
    | _ => none)
  | .invokespecial idx => (match am_own am_CL o idx with
    | some (2, j, _) => some (2, j)
    | some (3, j, _) => some (3, j)
    | _ => none)
  | _ => none
/-- a call: the method, its arguments, what stays on the stack -/
def am_cal (o h : Nat) (i : Instr) (st : List Value) (G : am_G) : Option (Nat × List Value × List Value) :=
  match am_cj o i with
  | none => none
  | some (kd, j) => match am_m j with
    | (_, o', na, _, _, h') => bif Nat.blt h' h && (Nat.ble na st.length && (Nat.ble (st.length - na) 8 && (Nat.beq kd 1 || am_rcv G (am_nth st (na - 1)) o'))) then some (j, (st.take na).reverse, st.drop na) else none
def am_ent (As : List Value) (n : Nat) : am_L := As.map some ++ List.replicate (n - As.length) none
def am_rt {α : Type} (ty : Option FieldType) (v : Int32) (x : Option α) : Option α := match ty with
  | some .int => x
  | some .boolean => if v = 0 ∨ v = 1 then x else none
  | some t => if narrow t (.int v) = .int v then x else none
  | none => none
abbrev am_R : Type := Option (Option Value × am_G × am_M)
def am_aft (x : am_R) (k : Option Value → am_G → am_M → am_R) : am_R := match x with
  | some (r, G, f) => k r G f
  | none => none
/-- a call, or a step that is neither a branch nor an answer -/
def am_gen (X : am_X) (k : Nat → Nat → am_L → List Value → am_G → am_M → am_R) (j o h : Nat) (i : Instr) (len pc : Nat) (ls : am_L) (st : List Value) (G : am_G) (f : am_M) : am_R := match am_cal o h i st G with
  | some (j', As, rest) => am_aft (k j' 0 (am_ent As (am_m j').2.2.2.1) [] G f) (fun r G' f' => k j (pc + len) ls (r.toList ++ rest) G' f')
  | none => am_sim X o h i len pc ls st G f (fun pc' ls' st' G' f' => k j pc' ls' st' G' f')
/-- one step, with what comes behind it -/
def am_one (X : am_X) (k : Nat → Nat → am_L → List Value → am_G → am_M → am_R) (j pc : Nat) (ls : am_L) (st : List Value) (G : am_G) (f : am_M) : am_R := match am_m j with
  | (c, o, _, _, rt, h) => match am_at c pc with
    | none => none
    | some (i, len) => match i with
      | .if_icmp cd off => (match st with
        | .int b :: .int a :: st => am_br cd a b (k j (am_tg pc off) ls st G f) (k j (pc + len) ls st G f)
        | _ => none)
      | .ifCond cd off => (match st with
        | .int a :: st => am_br cd a 0 (k j (am_tg pc off) ls st G f) (k j (pc + len) ls st G f)
        | _ => none)
      | .tableswitch d lo _ offs => (match st with
        | .int x :: st => am_swr x (fun q => k j (am_tg pc q) ls st G f) (k j (am_tg pc d) ls st G f) offs.toList lo
        | _ => none)
      | .ireturn => (match st with
        | [.int v] => am_rt rt v (some (some (.int v), G, f))
        | _ => none)
      | .areturn => (match st with
        | [.ref p] => some (some (.ref p), G, f)
        | _ => none)
      | .return_ => (match st with
        | [] => some (none, G, f)
        | _ => none)
      | i => am_gen X k j o h i len pc ls st G f
def am_run (X : am_X) : Nat → Nat → Nat → am_L → List Value → am_G → am_M → am_R
  | 0, _, _, _, _, _, _ => none
  | n + 1, j, pc, ls, st, G, f => am_one X (am_run X n) j pc ls st G f
