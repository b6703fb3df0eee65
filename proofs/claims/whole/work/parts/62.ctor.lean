/-! THE CONSTRUCTORS: a machine that makes things; the j-th thing that is made is the j-th of ax_all -/
section BXA
/-- a row: type, length, what it refers to; or an object: class, fields -/
abbrev bx_C : Type := (Nat × Nat × List (Option (Nat × Nat))) ⊕ (Nat × List ax_V)
abbrev bx_S : Type := Nat × ax_L × List ax_V × List bx_C × Nat × Nat
abbrev bx_M : Type := List ax_V → List bx_C → Option (List bx_C)
/-- code; fields; classes that are made; rows of references that are made; calls (0: the root's, 1: by its link, 2: a nest mate's; arguments; meaning; cells; slots); cells, slots -/
abbrev bx_P : Type := List (Nat × List ax_En) × List (Nat × Nat × Nat) × List (Nat × Nat) × List (Nat × Nat) × List (Nat × Nat × Nat × bx_M × Nat × Nat) × Nat × Nat
def bx_code (P : bx_P) : List (Nat × List ax_En) := P.1
def bx_fl (P : bx_P) : List (Nat × Nat × Nat) := P.2.1
def bx_nw (P : bx_P) : List (Nat × Nat) := P.2.2.1
def bx_rw (P : bx_P) : List (Nat × Nat) := P.2.2.2.1
def bx_cl (P : bx_P) : List (Nat × Nat × Nat × bx_M × Nat × Nat) := P.2.2.2.2.1
def bx_mc (P : bx_P) : Nat := P.2.2.2.2.2.1
def bx_ms (P : bx_P) : Nat := P.2.2.2.2.2.2
def bx_if {α : Type} (b : Bool) (x : Option α) : Option α := match b with
  | true => x
  | false => none
theorem bx_if_i {α : Type} {b : Bool} {x : Option α} {r : α} (h : bx_if b x = some r) : b = true ∧ x = some r := by
  cases b with
  | true => exact ⟨rfl, h⟩
  | false => cases h
theorem bx_b_i {α β : Type} {o : Option α} {k : α → Option β} {r : β} (h : o.bind k = some r) : ∃ a, o = some a ∧ k a = some r := by
  cases o with
  | none => cases h
  | some a => exact ⟨a, rfl, h⟩
def bx_pV (st : List ax_V) : Option (ax_V × List ax_V) := match st with
  | x :: r => some (x, r)
  | [] => none
theorem bx_pV_i {st : List ax_V} {q} (h : bx_pV st = some q) : st = q.1 :: q.2 := by
  cases st with
  | nil => cases h
  | cons x r => cases h; rfl
def bx_pI (st : List ax_V) : Option (Int32 × List ax_V) := match st with
  | .inl (.int x) :: r => some (x, r)
  | _ => none
theorem bx_pI_i {st : List ax_V} {q} (h : bx_pI st = some q) : st = .inl (.int q.1) :: q.2 := by
  cases st with
  | nil => cases h
  | cons x r =>
    rcases x with x | x
    · cases x <;> first | (cases h; rfl) | cases h
    · cases h
def bx_pR (st : List ax_V) : Option ((Nat × Nat) × List ax_V) := match st with
  | .inr x :: r => some (x, r)
  | _ => none
theorem bx_pR_i {st : List ax_V} {q} (h : bx_pR st = some q) : st = .inr q.1 :: q.2 := by
  cases st with
  | nil => cases h
  | cons x r =>
    rcases x with x | x
    · cases h
    · cases h; rfl
def bx_oi (o : Option ax_V) : Option Int32 := match o with
  | some (.inl (.int x)) => some x
  | _ => none
theorem bx_oi_i {o : Option ax_V} {x} (h : bx_oi o = some x) : o = some (.inl (.int x)) := by
  rcases o with _ | v | q
  · cases h
  · cases v <;> first | (cases h; rfl) | cases h
  · cases h
/-- the row, or the object, at a place -/
def bx_oa (w : List bx_C) (q : Nat × Nat) : Option (Nat × Nat × List (Option (Nat × Nat))) := match w[ax_all.idxOf q]? with
  | some (.inl r) => some r
  | _ => none
theorem bx_oa_i {w : List bx_C} {q r} (h : bx_oa w q = some r) : w[ax_all.idxOf q]? = some (.inl r) := by
  unfold bx_oa at h
  split at h
  · rename_i e; cases h; exact e
  · cases h
def bx_oo (w : List bx_C) (q : Nat × Nat) : Option (Nat × List ax_V) := match w[ax_all.idxOf q]? with
  | some (.inr r) => some r
  | _ => none
theorem bx_oo_i {w : List bx_C} {q r} (h : bx_oo w q = some r) : w[ax_all.idxOf q]? = some (.inr r) := by
  unfold bx_oo at h
  split at h
  · rename_i e; cases h; exact e
  · cases h
def bx_pn (n : Nat) (st : List ax_V) : Option (List ax_V × List ax_V) := match n, st with
  | 0, st => some ([], st)
  | 1, x :: r => some ([x], r)
  | _, _ => none
theorem bx_pn_i {n : Nat} {st : List ax_V} {z} (h : bx_pn n st = some z) : st = z.1.reverse ++ z.2 ∧ z.1.length = n := by
  match n, st, h with
  | 0, st, h => cases h; exact ⟨rfl, rfl⟩
  | 1, x :: r, h => cases h; exact ⟨rfl, rfl⟩
  | 1, [], h => cases h
  | n + 2, st, h => cases st <;> cases h
/-- fields as they begin -/
def bx_def (ci : Nat) : List ax_V := (List.range (ax_nf ci)).map (fun j => match ax_ft ci j with
  | 0 => .inl (.int 0)
  | 1 => .inl (.int 0)
  | 2 => .inl (.long 0)
  | _ => .inl .null)
/-- what fits a field: a number, or a thing -/
def bx_fit (t : Nat) (v : ax_V) : Bool := match t, v with
  | 0, .inl (.int _) => true
  | 3, .inr _ => true
  | _, _ => false
/-- the class of a row's elements -/
def bx_el (t ci : Nat) : Bool := match t with
  | 3 => Nat.beq ci 6
  | 4 => Nat.beq ci 2
  | 5 => Nat.beq ci 4
  | 6 => Nat.beq ci 1
  | _ => false
def bx_ins (P : bx_P) (pc n t : Nat) (v : Int32) (i : Instr) (L : ax_L) (st : List ax_V) (w : List bx_C) (cs ss : Nat) : Option bx_S := match i with
  | .iconst _ => some (pc + n, L, .inl (.int v) :: st, w, cs, ss)
  | .bipush _ => some (pc + n, L, .inl (.int v) :: st, w, cs, ss)
  | .sipush _ => some (pc + n, L, .inl (.int v) :: st, w, cs, ss)
  | .iload_n _ => (bx_oi (ax_nth L t)).bind fun x => some (pc + n, L, .inl (.int x) :: st, w, cs, ss)
  | .aload_n _ => (ax_nth L t).bind fun x => bx_if (ax_isr x) (some (pc + n, L, x :: st, w, cs, ss))
  | .istore _ => (bx_pI st).bind fun q => bx_if (Nat.blt t L.length) (some (pc + n, ax_s1 L t (.inl (.int q.1)), q.2, w, cs, ss))
  | .istore_n _ => (bx_pI st).bind fun q => bx_if (Nat.blt t L.length) (some (pc + n, ax_s1 L t (.inl (.int q.1)), q.2, w, cs, ss))
  | .astore_n _ => (bx_pR st).bind fun q => bx_if (Nat.blt t L.length) (some (pc + n, ax_s1 L t (.inr q.1), q.2, w, cs, ss))
  | .iinc _ _ => (bx_oi (ax_nth L t)).bind fun x => bx_if (Nat.blt t L.length) (some (pc + n, ax_s1 L t (.inl (.int (x + v))), st, w, cs, ss))
  | .dup => (bx_pV st).bind fun q => bx_if (ax_one q.1) (some (pc + n, L, q.1 :: q.1 :: q.2, w, cs, ss))
  | .goto _ => some (t, L, st, w, cs, ss)
  | .if_icmp .ge _ => (bx_pI st).bind fun y => (bx_pI y.2).bind fun x => if y.1 ≤ x.1 then some (t, L, x.2, w, cs, ss) else some (pc + n, L, x.2, w, cs, ss)
  | .arraylength => (bx_pR st).bind fun a => (bx_oa w a.1).bind fun r => bx_if (Nat.ble r.1 6) (some (pc + n, L, .inl (.int (nI r.2.1)) :: a.2, w, cs, ss))
  | .getfield x => (bx_pR st).bind fun a => (ax_lk (bx_fl P) x).bind fun q => (bx_oo w a.1).bind fun o => bx_if (Nat.beq o.1 q.1) ((o.2[q.2]?).bind fun z => some (pc + n, L, z :: a.2, w, cs, ss))
  | .putfield x => (bx_pV st).bind fun y => (bx_pR y.2).bind fun a => (ax_lk (bx_fl P) x).bind fun q => (bx_oo w a.1).bind fun o => bx_if (Nat.beq o.1 q.1) (bx_if (Nat.blt q.2 o.2.length) (bx_if (bx_fit (ax_ft q.1 q.2) y.1) (some (pc + n, L, a.2, w.set (ax_all.idxOf a.1) (.inr (o.1, o.2.set q.2 y.1)), cs, ss))))
  | .new x => (ax_lk (bx_nw P) x).bind fun ci => (ax_all[w.length]?).bind fun q => bx_if (Nat.ble (cs + 1) (bx_mc P)) (bx_if (Nat.ble (ss + ax_nf ci) (bx_ms P)) (some (pc + n, L, .inr q :: st, w ++ [.inr (ci, bx_def ci)], cs + 1, ss + ax_nf ci)))
  | .newarray _ => (bx_pI st).bind fun k => (ax_all[w.length]?).bind fun q => bx_if (Nat.ble (cs + 1) (bx_mc P)) (bx_if (Nat.ble (ss + k.1.toNatClampNeg) (bx_ms P)) (bx_if (Nat.ble k.1.toNatClampNeg 1000) (if k.1 < 0 then none else some (pc + n, L, .inr q :: k.2, w ++ [.inl (t, k.1.toNatClampNeg, [])], cs + 1, ss + k.1.toNatClampNeg))))
  | .anewarray x => (bx_pI st).bind fun k => (ax_lk (bx_rw P) x).bind fun ty => (ax_all[w.length]?).bind fun q => bx_if (Nat.ble (cs + 1) (bx_mc P)) (bx_if (Nat.ble (ss + k.1.toNatClampNeg) (bx_ms P)) (bx_if (Nat.ble k.1.toNatClampNeg 1000) (if k.1 < 0 then none else some (pc + n, L, .inr q :: k.2, w ++ [.inl (ty, k.1.toNatClampNeg, List.replicate k.1.toNatClampNeg none)], cs + 1, ss + k.1.toNatClampNeg))))
  | .aastore => (bx_pR st).bind fun x => (bx_pI x.2).bind fun j => (bx_pR j.2).bind fun a => (bx_oa w a.1).bind fun r => (bx_oo w x.1).bind fun o => bx_if (bx_el r.1 o.1) (bx_if (Nat.blt j.1.toNatClampNeg r.2.1) (bx_if (Nat.beq r.2.2.length r.2.1) (if j.1 < 0 then none else some (pc + n, L, a.2, w.set (ax_all.idxOf a.1) (.inl (r.1, r.2.1, r.2.2.set j.1.toNatClampNeg (some x.1))), cs, ss))))
  | .invokespecial x => (ax_lk (bx_cl P) x).bind fun q => (bx_pn q.2.1 st).bind fun z => (bx_pR z.2).bind fun a => bx_if (Nat.ble (ax_wd a.2) 8) (bx_if (Nat.ble (cs + q.2.2.2.1) (bx_mc P)) (bx_if (Nat.ble (ss + q.2.2.2.2) (bx_ms P)) ((q.2.2.1 (.inr a.1 :: z.1) w).bind fun w' => bx_if (Nat.beq w'.length (w.length + q.2.2.2.1)) (some (pc + n, L, a.2, w', cs + q.2.2.2.1, ss + q.2.2.2.2)))))
  | _ => none
def bx_step (P : bx_P) (x : bx_S) : Option bx_S := (ax_at (bx_code P) x.1).bind fun q => bx_ins P x.1 q.2.1 q.2.2.1 q.2.2.2 q.1 x.2.1 x.2.2.1 x.2.2.2.1 x.2.2.2.2.1 x.2.2.2.2.2
/-- on, until a place is come to -/
def bx_go (P : bx_P) (stop : Nat) : Nat → bx_S → Option bx_S
  | 0, x => bx_if (Nat.beq x.1 stop) (some x)
  | n + 1, x => match Nat.beq x.1 stop with
    | true => some x
    | false => (bx_step P x).bind (bx_go P stop n)
/-- what a constructor means: it ends at its return, with the cells and slots that it says -/
def bx_sem (P : bx_P) (nL stop fuel : Nat) : bx_M := fun as w => bx_if (Nat.ble (ax_wd as) nL) ((bx_go P stop fuel (0, ax_loc nL as, [], w, 0, 0)).bind fun x => bx_if (x.2.2.1.isEmpty) (bx_if (Nat.ble x.2.2.2.2.1 (bx_mc P)) (bx_if (Nat.ble x.2.2.2.2.2 (bx_ms P)) (some x.2.2.2.1))))
/-- the world -/
def bx_row (base : Nat) (t : Nat) (l : List (Option (Nat × Nat))) : (Nat → Int32) ⊕ (Nat → Int64) ⊕ (Nat → UInt32) ⊕ (Nat → UInt64) ⊕ (Nat → Option Nat) := match t with
  | 0 => .inl (fun _ => 0)
  | 1 => .inl (fun _ => 0)
  | 2 => .inr (.inl (fun _ => 0))
  | _ => .inr (.inr (.inr (.inr (fun j => (l.getD j none).map (ax_ad base)))))
def bx_c (base : Nat) (cA : Nat → ClassId) (c : bx_C) : va_E := match c with
  | .inl (t, n, l) => .inl (cA t, n, bx_row base t l)
  | .inr (ci, fs) => .inr (ci, fs.map (ax_c base))
def bx_w (base : Nat) (cA : Nat → ClassId) (w : List bx_C) : va_W := w.mapIdx (fun j c => (base + j, bx_c base cA c))
theorem bx_w_get {base cA} {w : List bx_C} {k : Nat} {c : bx_C} (h : w[k]? = some c) : (bx_w base cA w)[k]? = some (base + k, bx_c base cA c) := by
  unfold bx_w
  rw [List.getElem?_mapIdx, h]
  rfl
theorem bx_w_inv {base cA} {w : List bx_C} {k : Nat} {p : Nat × va_E} (h : (bx_w base cA w)[k]? = some p) : k < w.length ∧ p.1 = base + k := by
  unfold bx_w at h
  rw [List.getElem?_mapIdx] at h
  cases e : w[k]? with
  | none => rw [e] at h; cases h
  | some c =>
    rw [e] at h
    cases h
    exact ⟨(List.getElem?_eq_some_iff.mp e).1, rfl⟩
theorem bx_w_app (base cA) (w : List bx_C) (c : bx_C) : bx_w base cA (w ++ [c]) = bx_w base cA w ++ [(base + w.length, bx_c base cA c)] := by
  unfold bx_w
  rw [List.mapIdx_append, List.mapIdx_singleton, Nat.zero_add]
theorem bx_w_set (base cA) (w : List bx_C) (k : Nat) (c : bx_C) : bx_w base cA (w.set k c) = (bx_w base cA w).set k (base + k, bx_c base cA c) := by
  unfold bx_w
  apply List.ext_getElem?
  intro i
  rw [List.getElem?_mapIdx, List.getElem?_set, List.getElem?_set, List.length_mapIdx, List.getElem?_mapIdx]
  by_cases e : k = i
  · subst e
    by_cases l : k < w.length
    · simp [l]
    · simp [l]
  · simp [e]
theorem bx_w_D (base cA) (w : List bx_C) : va_D (ax_A base) (bx_w base cA w) := by
  refine ⟨fun i j p q hp hq e => ?_, fun k q h => ?_⟩
  · have h1 := (bx_w_inv hp).2
    have h2 := (bx_w_inv hq).2
    omega
  · show base ≤ q.1
    rw [(bx_w_inv h).2]
    exact Nat.le_add_right _ _
end BXA
