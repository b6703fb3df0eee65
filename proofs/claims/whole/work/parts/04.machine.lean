/-! THE SMALL MACHINE: the state of class and reference as numbers (kind, which one, place), the references fixed; a step of it for each instruction, in the way of a continuation. -/
/-- a value: itself, or a reference by kind and number -/
abbrev ax_V : Type := Value ⊕ (Nat × Nat)
abbrev ax_F : Type := Nat → Nat → Nat → Int32
abbrev ax_G : Type := Nat → Nat → Nat → Int64
abbrev ax_L : Type := List (Option ax_V)
/-- how a method ends: its answer, or the number of the class that it throws; and the numbers behind it -/
abbrev ax_Fin : Type := (Option ax_V ⊕ Nat) × ax_F × ax_G
abbrev ax_S : Type := List ax_V → ax_F → ax_G → Option ax_Fin
abbrev ax_K : Type := Nat → ax_L → List ax_V → ax_F → ax_G → Nat → Nat → Option ax_Fin
/-- mode, class of the receiver, arguments, kind of answer, meaning, cells, slots -/
abbrev ax_Cl : Type := Nat × Nat × Nat × Nat × ax_S × Nat × Nat
/-- pc, instruction, length, target or local, number -/
abbrev ax_En : Type := Nat × Instr × Nat × Nat × Int32
abbrev ax_P : Type := List (Nat × List ax_En) × List (Nat × Nat) × List (Nat × Nat × Nat) × List (Nat × ax_Cl) × List (Nat × Int64) × List (Nat × Nat) × List (Nat × Nat × Nat × Nat × Nat) × List (Nat × List (Int32 × Nat) × Nat) × Nat × Nat × Nat × Option (Nat × Nat × (Nat → Int32))
def ax_code (P : ax_P) : List (Nat × List ax_En) := P.1
def ax_live (P : ax_P) : List (Nat × Nat) := P.2.1
def ax_flds (P : ax_P) : List (Nat × Nat × Nat) := P.2.2.1
def ax_calls (P : ax_P) : List (Nat × ax_Cl) := P.2.2.2.1
def ax_lcs (P : ax_P) : List (Nat × Int64) := P.2.2.2.2.1
def ax_excs (P : ax_P) : List (Nat × Nat) := P.2.2.2.2.2.1
def ax_hand (P : ax_P) : List (Nat × Nat × Nat × Nat × Nat) := P.2.2.2.2.2.2.1
def ax_sws (P : ax_P) : List (Nat × List (Int32 × Nat) × Nat) := P.2.2.2.2.2.2.2.1
def ax_ret (P : ax_P) : Nat := P.2.2.2.2.2.2.2.2.1
def ax_mc (P : ax_P) : Nat := P.2.2.2.2.2.2.2.2.2.1
def ax_ms (P : ax_P) : Nat := P.2.2.2.2.2.2.2.2.2.2.1
def ax_scr (P : ax_P) : Option (Nat × Nat × (Nat → Int32)) := P.2.2.2.2.2.2.2.2.2.2.2
/-- what stands at a key -/
def ax_lk {α : Type} : List (Nat × α) → Nat → Option α
  | [], _ => none
  | (n, a) :: l, k => bif Nat.beq n k then some a else ax_lk l k
/-- the instruction at a pc: the code lies in pieces, each with the pc that bounds it -/
def ax_at : List (Nat × List ax_En) → Nat → Option (Instr × Nat × Nat × Int32)
  | [], _ => none
  | (b, l) :: r, pc => bif Nat.blt pc b then ax_lk l pc else ax_at r pc
def ax_kill : Nat → ax_L → ax_L
  | _, [] => []
  | 0, _ :: l => none :: ax_kill 0 l
  | n + 1, a :: l => a :: ax_kill n l
def ax_norm (P : ax_P) (pc : Nat) (L : ax_L) : ax_L := match ax_lk (ax_live P) pc with
  | some n => ax_kill n L
  | none => L
def ax_nth : ax_L → Nat → Option ax_V
  | [], _ => none
  | a :: _, 0 => a
  | _ :: l, n + 1 => ax_nth l n
/-- a value of two words -/
def ax_two : ax_V → Bool
  | .inl (.long _) => true
  | .inl (.double _) => true
  | _ => false
def ax_nl (a : Option ax_V) : Option ax_V := match a with
  | some v => bif ax_two v then none else some v
  | none => none
def ax_s1 : ax_L → Nat → ax_V → ax_L
  | [], _, _ => []
  | _ :: l, 0, v => some v :: l
  | a :: l, n + 1, v => (bif Nat.beq n 0 then ax_nl a else a) :: ax_s1 l n v
def ax_n0 : ax_L → ax_L
  | [] => []
  | _ :: l => none :: l
def ax_s2 : ax_L → Nat → ax_V → ax_L
  | [], _, _ => []
  | _ :: l, 0, v => some v :: ax_n0 l
  | a :: l, n + 1, v => (bif Nat.beq n 0 then ax_nl a else a) :: ax_s2 l n v
def ax_kl (L : ax_L) (n : Nat) : ax_L := match L, n with
  | [], _ => []
  | _ :: l, 0 => none :: l
  | a :: l, n + 1 => (bif Nat.beq n 0 then ax_nl a else a) :: ax_kl l n
/-- class of a kind of objects -/
def ax_kc (k : Nat) : Option Nat := match k with
  | 0 => some 9 | 1 => some 0 | 3 => some 6 | 5 => some 2 | 7 => some 5 | 9 => some 4 | 12 => some 1 | 14 => some 7 | 16 => some 3 | 18 => some 8 | 19 => some 10
  | _ => none
/-- type (0 int, 1 boolean, 2 long, 3 Pack, 4 Index, 5 Mirror, 6 Client) and length of a kind of arrays -/
def ax_ka (k : Nat) : Option (Nat × Nat) := match k with
  | 2 => some (3, 12) | 4 => some (4, 20) | 6 => some (0, 12) | 8 => some (5, 6) | 10 => some (0, 12) | 11 => some (6, 4) | 13 => some (0, 12) | 15 => some (0, 6) | 17 => some (0, 60)
  | 29 => some (0, 13) | 30 => some (0, 13) | 31 => some (0, 13) | 32 => some (0, 13) | 33 => some (0, 21) | 34 => some (0, 21) | 35 => some (0, 252)
  | 36 => some (0, 6) | 37 => some (0, 6) | 38 => some (0, 6) | 39 => some (0, 6) | 40 => some (0, 6) | 41 => some (1, 6) | 42 => some (0, 6) | 43 => some (1, 6) | 44 => some (0, 72)
  | 45 => some (0, 4) | 46 => some (0, 4) | 47 => some (0, 48) | 49 => some (0, 60) | 54 => some (0, 13) | 55 => some (0, 13) | 56 => some (0, 13) | 57 => some (0, 6) | 58 => some (1, 6) | 59 => some (0, 72)
  | 60 => some (2, 1)
  | _ => none
/-- type of a field: 0 int, 1 boolean, 2 long, 3 a reference -/
def ax_ft (ci j : Nat) : Nat := match ci with
  | 0 => match j with | 0 => 3 | 1 => 3 | _ => 0
  | 1 => match j with | 0 => 3 | _ => 0
  | 2 => match j with | 0 => 3 | _ => 0
  | 3 => match j with | 0 => 3 | 1 => 3 | _ => 0
  | 4 => match j with | 0 => 3 | 6 => 1 | 8 => 1 | _ => 0
  | 5 => match j with | 0 => 3 | 1 => 3 | _ => 0
  | 7 => match j with | 0 => 3 | 1 => 3 | _ => 0
  | 9 => match j with | 6 => 0 | _ => 3
  | 10 => bif Nat.beq j 40 then 2 else bif Nat.blt j 9 then 0 else bif Nat.beq j 28 then 0 else bif Nat.blt j 30 then 3 else bif Nat.blt j 34 then 0 else 3
  | _ => 0
/-- the references, once all is made -/
def ax_r0 (k i j : Nat) : Option (Nat × Nat) := match k with
  | 0 => match j with | 0 => some (1, 0) | 1 => some (7, 0) | 2 => some (7, 1) | 3 => some (11, 0) | 4 => some (14, 0) | 5 => some (16, 0) | _ => none
  | 1 => match j with | 0 => some (2, 0) | 1 => some (4, 0) | _ => none
  | 2 => some (3, j)
  | 4 => some (5, j)
  | 5 => match j with | 0 => some (6, i) | _ => none
  | 7 => match j with | 0 => some (1, 0) | 1 => some (8, i) | _ => none
  | 8 => some (9, 6 * i + j)
  | 9 => match j with | 0 => some (10, i) | _ => none
  | 11 => some (12, j)
  | 12 => match j with | 0 => some (13, i) | _ => none
  | 14 => match j with | 0 => some (1, 0) | 1 => some (15, 0) | _ => none
  | 16 => match j with | 0 => some (17, 0) | 1 => some (18, 0) | _ => none
  | 19 => some (20 + j, 0)
  | _ => none
def ax_rv (q : Option (Nat × Nat)) : ax_V := match q with
  | some x => .inr x
  | none => .inl .null
def ax_up (f : ax_F) (k i j : Nat) (x : Int32) : ax_F := fun k' i' j' => if k' = k ∧ i' = i ∧ j' = j then x else f k' i' j'
def ax_ug (g : ax_G) (k i j : Nat) (x : Int64) : ax_G := fun k' i' j' => if k' = k ∧ i' = i ∧ j' = j then x else g k' i' j'
def ax_i1 (st : List ax_V) (kk : Int32 → List ax_V → Option ax_Fin) : Option ax_Fin := match st with
  | .inl (.int x) :: r => kk x r
  | _ => none
def ax_i2 (st : List ax_V) (kk : Int32 → Int32 → List ax_V → Option ax_Fin) : Option ax_Fin := match st with
  | .inl (.int y) :: .inl (.int x) :: r => kk x y r
  | _ => none
def ax_l1 (st : List ax_V) (kk : Int64 → List ax_V → Option ax_Fin) : Option ax_Fin := match st with
  | .inl (.long x) :: r => kk x r
  | _ => none
def ax_l2 (st : List ax_V) (kk : Int64 → Int64 → List ax_V → Option ax_Fin) : Option ax_Fin := match st with
  | .inl (.long y) :: .inl (.long x) :: r => kk x y r
  | _ => none
def ax_d1 (st : List ax_V) (kk : UInt64 → List ax_V → Option ax_Fin) : Option ax_Fin := match st with
  | .inl (.double x) :: r => kk x r
  | _ => none
def ax_d2 (st : List ax_V) (kk : UInt64 → UInt64 → List ax_V → Option ax_Fin) : Option ax_Fin := match st with
  | .inl (.double y) :: .inl (.double x) :: r => kk x y r
  | _ => none
/-- a reference, or null -/
def ax_isr : ax_V → Bool
  | .inr _ => true
  | .inl .null => true
  | .inl (.ref _) => true
  | _ => false
def ax_one (v : ax_V) : Bool := !ax_two v
def ax_wd : List ax_V → Nat
  | [] => 0
  | v :: l => (bif ax_two v then 2 else 1) + ax_wd l
def ax_sw (l : List (Int32 × Nat)) (d : Nat) (x : Int32) (kk : Nat → Option ax_Fin) : Option ax_Fin := match l with
  | [] => kk d
  | (c, t) :: r => if x = c then kk t else ax_sw r d x kk
/-- the answers of a call, by kind: 0 none, 1 int, 2 boolean, 3 long, 4 double, 5 a reference -/
def ax_calv (r : Option ax_Fin) (kx : Nat → ax_F → ax_G → Option ax_Fin) (kk : ax_F → ax_G → Option ax_Fin) : Option ax_Fin := match r with
  | some (.inl none, f, g) => kk f g
  | some (.inr e, f, g) => kx e f g
  | _ => none
def ax_cali (r : Option ax_Fin) (kx : Nat → ax_F → ax_G → Option ax_Fin) (kk : Int32 → ax_F → ax_G → Option ax_Fin) : Option ax_Fin := match r with
  | some (.inl (some (.inl (.int x))), f, g) => kk x f g
  | some (.inr e, f, g) => kx e f g
  | _ => none
def ax_call (r : Option ax_Fin) (kx : Nat → ax_F → ax_G → Option ax_Fin) (kk : Int64 → ax_F → ax_G → Option ax_Fin) : Option ax_Fin := match r with
  | some (.inl (some (.inl (.long x))), f, g) => kk x f g
  | some (.inr e, f, g) => kx e f g
  | _ => none
def ax_cald (r : Option ax_Fin) (kx : Nat → ax_F → ax_G → Option ax_Fin) (kk : UInt64 → ax_F → ax_G → Option ax_Fin) : Option ax_Fin := match r with
  | some (.inl (some (.inl (.double x))), f, g) => kk x f g
  | some (.inr e, f, g) => kx e f g
  | _ => none
def ax_calr (r : Option ax_Fin) (kx : Nat → ax_F → ax_G → Option ax_Fin) (kk : ax_V → ax_F → ax_G → Option ax_Fin) : Option ax_Fin := match r with
  | some (.inl (some v), f, g) => bif ax_isr v then kk v f g else none
  | some (.inr e, f, g) => kx e f g
  | _ => none
def ax_cal (rt : Nat) (r : Option ax_Fin) (kx : Nat → ax_F → ax_G → Option ax_Fin) (rest : List ax_V) (kk : List ax_V → ax_F → ax_G → Option ax_Fin) : Option ax_Fin := match rt with
  | 0 => ax_calv r kx (fun f g => kk rest f g)
  | 1 => ax_cali r kx (fun x f g => kk (.inl (.int x) :: rest) f g)
  | 3 => ax_call r kx (fun x f g => kk (.inl (.long x) :: rest) f g)
  | 4 => ax_cald r kx (fun x f g => kk (.inl (.double x) :: rest) f g)
  | _ => ax_calr r kx (fun x f g => kk (x :: rest) f g)
/-- two of the three classes, and not the same -/
def ax_xd (x e : Nat) : Bool := Nat.blt 0 x && Nat.blt x 4 && (Nat.blt 0 e && Nat.blt e 4) && !Nat.beq x e
/-- what is thrown at pc: the first handler that covers it and names it, else out -/
def ax_thr (h : List (Nat × Nat × Nat × Nat × Nat)) (pc e : Nat) (L : ax_L) (f : ax_F) (g : ax_G) (cs ss : Nat) (k : ax_K) : Option ax_Fin := match h with
  | [] => some (.inr e, f, g)
  | (a, b, x, n, t) :: r => bif Nat.ble a pc && Nat.blt pc b then (bif Nat.beq x e then k t (ax_kl L n) [] f g cs ss else bif ax_xd x e then ax_thr r pc e L f g cs ss k else none) else ax_thr r pc e L f g cs ss k
/-- the first n of a stack, as arguments in their order, and the rest -/
def ax_pop : Nat → List ax_V → List ax_V → (List ax_V → List ax_V → Option ax_Fin) → Option ax_Fin
  | 0, st, as, kk => kk as st
  | n + 1, v :: st, as, kk => ax_pop n st (v :: as) kk
  | _ + 1, [], _, _ => none
def ax_fv (f : ax_F) (g : ax_G) (ty k i j : Nat) : ax_V := match ty with
  | 0 => .inl (.int (f k i j))
  | 1 => .inl (.int (f k i j))
  | 2 => .inl (.long (g k i j))
  | _ => ax_rv (ax_r0 k i j)
def ax_ob {α : Type} (o : Option α) (kk : α → Option ax_Fin) : Option ax_Fin := match o with
  | some x => kk x
  | none => none
def ax_gd (b : Bool) (x : Option ax_Fin) : Option ax_Fin := match b with
  | true => x
  | false => none
/-- a place in a row: looked at -/
def ax_bd (j : Int32) (len : Nat) (kk : Nat → Option ax_Fin) : Option ax_Fin := if j < 0 ∨ nI len ≤ j then none else kk j.toNatClampNeg
def ax_bb (x : Int32) (y : Option ax_Fin) : Option ax_Fin := if x = 0 ∨ x = 1 then y else none
def ax_v1 (st : List ax_V) (kk : ax_V → List ax_V → Option ax_Fin) : Option ax_Fin := match st with
  | x :: r => kk x r
  | [] => none
def ax_r1 (st : List ax_V) (kk : Nat → Nat → List ax_V → Option ax_Fin) : Option ax_Fin := match st with
  | .inr (a, i) :: r => kk a i r
  | _ => none
/-- a row, or the script -/
def ax_rs (v : ax_V) (kk : Nat → Nat → Option ax_Fin) (ks : Nat → Option ax_Fin) : Option ax_Fin := match v with
  | .inr (a, i) => kk a i
  | .inl (.ref b) => ks b
  | _ => none
def ax_oi (o : Option ax_V) (kk : Int32 → Option ax_Fin) : Option ax_Fin := match o with
  | some (.inl (.int x)) => kk x
  | _ => none
def ax_ol (o : Option ax_V) (kk : Int64 → Option ax_Fin) : Option ax_Fin := match o with
  | some (.inl (.long x)) => kk x
  | _ => none
def ax_od (o : Option ax_V) (kk : UInt64 → Option ax_Fin) : Option ax_Fin := match o with
  | some (.inl (.double x)) => kk x
  | _ => none
/-- null, or a thing of the world -/
def ax_nu (v : ax_V) (k0 k1 : Option ax_Fin) : Option ax_Fin := match v with
  | .inl .null => k0
  | .inr _ => k1
  | _ => none
def ax_0 (n : Nat) (a : Option ax_Fin) : Option ax_Fin := match n with
  | 0 => a
  | _ + 1 => none
def ax_1 (n : Nat) (a : Option ax_Fin) : Option ax_Fin := match n with
  | 1 => a
  | _ => none
def ax_2 (n : Nat) (a : Option ax_Fin) : Option ax_Fin := match n with
  | 2 => a
  | _ => none
def ax_3 (n : Nat) (a : Option ax_Fin) : Option ax_Fin := match n with
  | _ + 3 => a
  | _ => none
def ax_nil {α : Type} (l : List α) (a : Option ax_Fin) : Option ax_Fin := match l with
  | [] => a
  | _ :: _ => none
def ax_ir (t : Nat) (x : Int32) (a : Option ax_Fin) : Option ax_Fin := match t with
  | 1 => a
  | 2 => ax_bb x a
  | _ => none
/-- a number into a field -/
def ax_pf (f : ax_F) (g : ax_G) (ty k i j : Nat) (v : ax_V) (kk : ax_F → ax_G → Option ax_Fin) : Option ax_Fin := match ty, v with
  | 0, .inl (.int y) => kk (ax_up f k i j y) g
  | 1, .inl (.int y) => ax_bb y (kk (ax_up f k i j y) g)
  | 2, .inl (.long y) => kk f (ax_ug g k i j y)
  | _, _ => none
def ax_ins (P : ax_P) (pc n t : Nat) (v : Int32) (i : Instr) (L : ax_L) (st : List ax_V) (f : ax_F) (g : ax_G) (cs ss : Nat) (k : ax_K) : Option ax_Fin := match i with
  | .iconst _ => k (pc + n) L (.inl (.int v) :: st) f g cs ss
  | .bipush _ => k (pc + n) L (.inl (.int v) :: st) f g cs ss
  | .sipush _ => k (pc + n) L (.inl (.int v) :: st) f g cs ss
  | .ldc _ => k (pc + n) L (.inl (.int v) :: st) f g cs ss
  | .ldc_w _ => k (pc + n) L (.inl (.int v) :: st) f g cs ss
  | .ldc2_w x => ax_ob (ax_lk (ax_lcs P) x) fun y => k (pc + n) L (.inl (.long y) :: st) f g cs ss
  | .aconst_null => k (pc + n) L (.inl .null :: st) f g cs ss
  | .dconst _ => ax_gd (Nat.beq t 0) (k (pc + n) L (.inl (.double FP.dconst0) :: st) f g cs ss)
  | .iload _ => ax_oi (ax_nth L t) fun x => k (pc + n) L (.inl (.int x) :: st) f g cs ss
  | .iload_n _ => ax_oi (ax_nth L t) fun x => k (pc + n) L (.inl (.int x) :: st) f g cs ss
  | .lload_n _ => ax_ol (ax_nth L t) fun x => k (pc + n) L (.inl (.long x) :: st) f g cs ss
  | .dload _ => ax_od (ax_nth L t) fun x => k (pc + n) L (.inl (.double x) :: st) f g cs ss
  | .dload_n _ => ax_od (ax_nth L t) fun x => k (pc + n) L (.inl (.double x) :: st) f g cs ss
  | .aload _ => ax_ob (ax_nth L t) fun x => ax_gd (ax_isr x) (k (pc + n) L (x :: st) f g cs ss)
  | .aload_n _ => ax_ob (ax_nth L t) fun x => ax_gd (ax_isr x) (k (pc + n) L (x :: st) f g cs ss)
  | .istore _ => ax_i1 st fun x r => ax_gd (Nat.blt t L.length) (k (pc + n) (ax_s1 L t (.inl (.int x))) r f g cs ss)
  | .istore_n _ => ax_i1 st fun x r => ax_gd (Nat.blt t L.length) (k (pc + n) (ax_s1 L t (.inl (.int x))) r f g cs ss)
  | .lstore_n _ => ax_l1 st fun x r => ax_gd (Nat.blt (t + 1) L.length) (k (pc + n) (ax_s2 L t (.inl (.long x))) r f g cs ss)
  | .dstore _ => ax_d1 st fun x r => ax_gd (Nat.blt (t + 1) L.length) (k (pc + n) (ax_s2 L t (.inl (.double x))) r f g cs ss)
  | .dstore_n _ => ax_d1 st fun x r => ax_gd (Nat.blt (t + 1) L.length) (k (pc + n) (ax_s2 L t (.inl (.double x))) r f g cs ss)
  | .astore _ => ax_v1 st fun x r => ax_gd (ax_isr x) (ax_gd (Nat.blt t L.length) (k (pc + n) (ax_s1 L t x) r f g cs ss))
  | .astore_n _ => ax_v1 st fun x r => ax_gd (ax_isr x) (ax_gd (Nat.blt t L.length) (k (pc + n) (ax_s1 L t x) r f g cs ss))
  | .iinc _ _ => ax_oi (ax_nth L t) fun x => ax_gd (Nat.blt t L.length) (k (pc + n) (ax_s1 L t (.inl (.int (x + v)))) st f g cs ss)
  | .pop => ax_v1 st fun x r => ax_gd (ax_one x) (k (pc + n) L r f g cs ss)
  | .dup => ax_v1 st fun x r => ax_gd (ax_one x) (k (pc + n) L (x :: x :: r) f g cs ss)
  | .dup2 => ax_v1 st fun x r => ax_v1 r fun y r => ax_gd (ax_one x) (ax_gd (ax_one y) (k (pc + n) L (x :: y :: x :: y :: r) f g cs ss))
  | .iadd => ax_i2 st fun x y r => k (pc + n) L (.inl (.int (x + y)) :: r) f g cs ss
  | .isub => ax_i2 st fun x y r => k (pc + n) L (.inl (.int (x - y)) :: r) f g cs ss
  | .imul => ax_i2 st fun x y r => k (pc + n) L (.inl (.int (x * y)) :: r) f g cs ss
  | .iand => ax_i2 st fun x y r => k (pc + n) L (.inl (.int (x &&& y)) :: r) f g cs ss
  | .ior => ax_i2 st fun x y r => k (pc + n) L (.inl (.int (x ||| y)) :: r) f g cs ss
  | .ixor => ax_i2 st fun x y r => k (pc + n) L (.inl (.int (x ^^^ y)) :: r) f g cs ss
  | .ishl => ax_i2 st fun x y r => k (pc + n) L (.inl (.int (x <<< (y &&& 31))) :: r) f g cs ss
  | .ishr => ax_i2 st fun x y r => k (pc + n) L (.inl (.int (x >>> (y &&& 31))) :: r) f g cs ss
  | .iushr => ax_i2 st fun x y r => k (pc + n) L (.inl (.int (x.toUInt32 >>> (y.toUInt32 &&& Int32.toUInt32 31)).toInt32) :: r) f g cs ss
  | .idiv => ax_i2 st fun x y r => if y = 0 then none else k (pc + n) L (.inl (.int (x / y)) :: r) f g cs ss
  | .irem => ax_i2 st fun x y r => if y = 0 then none else k (pc + n) L (.inl (.int (x - x / y * y)) :: r) f g cs ss
  | .ladd => ax_l2 st fun x y r => k (pc + n) L (.inl (.long (x + y)) :: r) f g cs ss
  | .lmul => ax_l2 st fun x y r => k (pc + n) L (.inl (.long (x * y)) :: r) f g cs ss
  | .lcmp => ax_l2 st fun x y r => k (pc + n) L (.inl (.int (lg_cmp x y)) :: r) f g cs ss
  | .i2l => ax_i1 st fun x r => k (pc + n) L (.inl (.long x.toInt64) :: r) f g cs ss
  | .i2d => ax_i1 st fun x r => k (pc + n) L (.inl (.double (FP.i2d x)) :: r) f g cs ss
  | .dadd => ax_d2 st fun x y r => if FP.dadd x y &&& 0x7fffffffffffffff ≤ 0x7ff0000000000000 then k (pc + n) L (.inl (.double (FP.dadd x y)) :: r) f g cs ss else none
  | .ddiv => ax_d2 st fun x y r => if FP.ddiv x y &&& 0x7fffffffffffffff ≤ 0x7ff0000000000000 then k (pc + n) L (.inl (.double (FP.ddiv x y)) :: r) f g cs ss else none
  | .dcmp o => ax_d2 st fun x y r => k (pc + n) L (.inl (.int (Op.cmpValue (FP.dcmp x y) o)) :: r) f g cs ss
  | .goto _ => k t L st f g cs ss
  | .ifCond .eq _ => ax_i1 st fun x r => if x = 0 then k t L r f g cs ss else k (pc + n) L r f g cs ss
  | .ifCond .ne _ => ax_i1 st fun x r => if x = 0 then k (pc + n) L r f g cs ss else k t L r f g cs ss
  | .ifCond .lt _ => ax_i1 st fun x r => if x < 0 then k t L r f g cs ss else k (pc + n) L r f g cs ss
  | .ifCond .ge _ => ax_i1 st fun x r => if 0 ≤ x then k t L r f g cs ss else k (pc + n) L r f g cs ss
  | .ifCond .gt _ => ax_i1 st fun x r => if 0 < x then k t L r f g cs ss else k (pc + n) L r f g cs ss
  | .ifCond .le _ => ax_i1 st fun x r => if x ≤ 0 then k t L r f g cs ss else k (pc + n) L r f g cs ss
  | .if_icmp .eq _ => ax_i2 st fun x y r => if x = y then k t L r f g cs ss else k (pc + n) L r f g cs ss
  | .if_icmp .ne _ => ax_i2 st fun x y r => if x = y then k (pc + n) L r f g cs ss else k t L r f g cs ss
  | .if_icmp .lt _ => ax_i2 st fun x y r => if x < y then k t L r f g cs ss else k (pc + n) L r f g cs ss
  | .if_icmp .ge _ => ax_i2 st fun x y r => if y ≤ x then k t L r f g cs ss else k (pc + n) L r f g cs ss
  | .if_icmp .gt _ => ax_i2 st fun x y r => if y < x then k t L r f g cs ss else k (pc + n) L r f g cs ss
  | .if_icmp .le _ => ax_i2 st fun x y r => if x ≤ y then k t L r f g cs ss else k (pc + n) L r f g cs ss
  | .ifnull _ => ax_v1 st fun x r => ax_nu x (k t L r f g cs ss) (k (pc + n) L r f g cs ss)
  | .ifnonnull _ => ax_v1 st fun x r => ax_nu x (k (pc + n) L r f g cs ss) (k t L r f g cs ss)
  | .tableswitch _ _ _ _ => ax_ob (ax_lk (ax_sws P) pc) fun q => ax_i1 st fun x r => ax_sw q.1 q.2 x fun tt => k tt L r f g cs ss
  | .arraylength => ax_v1 st fun x r => ax_rs x (fun a _ => ax_ob (ax_ka a) fun q => k (pc + n) L (.inl (.int (nI q.2)) :: r) f g cs ss) (fun b => ax_ob (ax_scr P) fun q => ax_gd (Nat.beq b q.1) (k (pc + n) L (.inl (.int (nI q.2.1)) :: r) f g cs ss))
  | .iaload => ax_i1 st fun j r => ax_v1 r fun x r => ax_rs x (fun a i => ax_ob (ax_ka a) fun q => ax_0 q.1 (ax_bd j q.2 fun j => k (pc + n) L (.inl (.int (f a i j)) :: r) f g cs ss)) (fun b => ax_ob (ax_scr P) fun q => ax_gd (Nat.beq b q.1) (ax_bd j q.2.1 fun j => k (pc + n) L (.inl (.int (q.2.2 j)) :: r) f g cs ss))
  | .baload => ax_i1 st fun j r => ax_r1 r fun a i r => ax_ob (ax_ka a) fun q => ax_1 q.1 (ax_bd j q.2 fun j => k (pc + n) L (.inl (.int (f a i j)) :: r) f g cs ss)
  | .laload => ax_i1 st fun j r => ax_r1 r fun a i r => ax_ob (ax_ka a) fun q => ax_2 q.1 (ax_bd j q.2 fun j => k (pc + n) L (.inl (.long (g a i j)) :: r) f g cs ss)
  | .aaload => ax_i1 st fun j r => ax_r1 r fun a i r => ax_ob (ax_ka a) fun q => ax_3 q.1 (ax_bd j q.2 fun j => k (pc + n) L (ax_rv (ax_r0 a i j) :: r) f g cs ss)
  | .iastore => ax_i2 st fun j x r => ax_r1 r fun a i r => ax_ob (ax_ka a) fun q => ax_0 q.1 (ax_bd j q.2 fun j => k (pc + n) L r (ax_up f a i j x) g cs ss)
  | .bastore => ax_i2 st fun j x r => ax_r1 r fun a i r => ax_ob (ax_ka a) fun q => ax_1 q.1 (ax_bd j q.2 fun j => ax_bb x (k (pc + n) L r (ax_up f a i j x) g cs ss))
  | .lastore => ax_l1 st fun x r => ax_i1 r fun j r => ax_r1 r fun a i r => ax_ob (ax_ka a) fun q => ax_2 q.1 (ax_bd j q.2 fun j => k (pc + n) L r f (ax_ug g a i j x) cs ss)
  | .getfield x => ax_r1 st fun a i r => ax_ob (ax_lk (ax_flds P) x) fun q => ax_ob (ax_kc a) fun ca => ax_gd (Nat.beq ca q.1) (k (pc + n) L (ax_fv f g (ax_ft q.1 q.2) a i q.2 :: r) f g cs ss)
  | .putfield x => ax_v1 st fun y r => ax_r1 r fun a i r => ax_ob (ax_lk (ax_flds P) x) fun q => ax_ob (ax_kc a) fun ca => ax_gd (Nat.beq ca q.1) (ax_pf f g (ax_ft q.1 q.2) a i q.2 y fun f g => k (pc + n) L r f g cs ss)
  | .invokevirtual x => ax_ob (ax_lk (ax_calls P) x) fun q => ax_0 q.1 (ax_pop q.2.2.1 st [] fun as r => ax_r1 r fun a i rest => ax_ob (ax_kc a) fun ca => ax_gd (Nat.beq ca q.2.1) (ax_gd (Nat.ble (ax_wd rest) 8) (ax_gd (Nat.ble (cs + q.2.2.2.2.2.1) (ax_mc P)) (ax_gd (Nat.ble (ss + q.2.2.2.2.2.2) (ax_ms P)) (ax_cal q.2.2.2.1 (q.2.2.2.2.1 (.inr (a, i) :: as) f g) (fun e f g => ax_thr (ax_hand P) pc e L f g (cs + q.2.2.2.2.2.1) (ss + q.2.2.2.2.2.2) k) rest (fun s1 f g => k (pc + n) L s1 f g (cs + q.2.2.2.2.2.1) (ss + q.2.2.2.2.2.2)))))))
  | .invokestatic x => ax_ob (ax_lk (ax_calls P) x) fun q => ax_gd (Nat.blt 0 q.1) (ax_pop q.2.2.1 st [] fun as rest => ax_gd (Nat.ble (ax_wd rest) 8) (ax_gd (Nat.ble (cs + q.2.2.2.2.2.1) (ax_mc P)) (ax_gd (Nat.ble (ss + q.2.2.2.2.2.2) (ax_ms P)) (ax_cal q.2.2.2.1 (q.2.2.2.2.1 as f g) (fun e f g => ax_thr (ax_hand P) pc e L f g (cs + q.2.2.2.2.2.1) (ss + q.2.2.2.2.2.2) k) rest (fun s1 f g => k (pc + n) L s1 f g (cs + q.2.2.2.2.2.1) (ss + q.2.2.2.2.2.2))))))
  | .new _ => ax_ob (ax_lk (ax_excs P) pc) fun e => ax_nil (ax_hand P) (ax_gd (Nat.ble (ax_wd st) 8) (ax_gd (Nat.ble (cs + 1) (ax_mc P)) (ax_gd (Nat.ble (ss + 6) (ax_ms P)) (some (.inr e, f, g)))))
  | .return_ => ax_0 (ax_ret P) (ax_nil st (some (.inl none, f, g)))
  | .ireturn => ax_i1 st fun x r => ax_nil r (ax_ir (ax_ret P) x (some (.inl (some (.inl (.int x))), f, g)))
  | .lreturn => ax_l1 st fun x r => ax_nil r (ax_gd (Nat.beq (ax_ret P) 3) (some (.inl (some (.inl (.long x))), f, g)))
  | .dreturn => ax_d1 st fun x r => ax_nil r (ax_gd (Nat.beq (ax_ret P) 4) (some (.inl (some (.inl (.double x))), f, g)))
  | .areturn => ax_v1 st fun x r => ax_nil r (ax_gd (Nat.beq (ax_ret P) 5) (ax_gd (ax_isr x) (some (.inl (some x), f, g))))
  | _ => none
def ax_step (P : ax_P) (pc : Nat) (L : ax_L) (st : List ax_V) (f : ax_F) (g : ax_G) (cs ss : Nat) (k : ax_K) : Option ax_Fin := ax_ob (ax_at (ax_code P) pc) fun q => ax_ins P pc q.2.1 q.2.2.1 q.2.2.2 q.1 L st f g cs ss k
def ax_exec (P : ax_P) : Nat → ax_K
  | 0 => fun _ _ _ _ _ _ _ => none
  | n + 1 => fun pc L st f g cs ss => ax_step P pc (ax_norm P pc L) st f g cs ss (ax_exec P n)
