/-! the small machine's run, free of a counter: it unrolls -/
section AXR
/-- a step asks its continuation at most at one place, and that place doesn't depend on it -/
def ax_fm (F : ax_K → Option ax_Fin) : Prop := (∃ x, ∀ k, F k = x) ∨ ∃ pc L st f g cs ss, ∀ k : ax_K, F k = k pc L st f g cs ss
theorem ax_fm_c (x : Option ax_Fin) : ax_fm (fun _ => x) := Or.inl ⟨x, fun _ => rfl⟩
theorem ax_fm_k (pc L st f g cs ss) : ax_fm (fun k => k pc L st f g cs ss) := Or.inr ⟨pc, L, st, f, g, cs, ss, fun _ => rfl⟩
theorem ax_fm_ite {c : Prop} [Decidable c] {A B : ax_K → Option ax_Fin} (a : ax_fm A) (b : ax_fm B) : ax_fm (fun k => if c then A k else B k) := by
  by_cases h : c
  · simp only [h, if_true]; exact a
  · simp only [h, if_false]; exact b
theorem ax_fm_ob {α : Type} (o : Option α) {A : α → ax_K → Option ax_Fin} (a : ∀ x, ax_fm (A x)) : ax_fm (fun k => ax_ob o fun x => A x k) := by
  cases o with
  | none => exact ax_fm_c none
  | some x => exact a x
theorem ax_fm_gd (b : Bool) {A : ax_K → Option ax_Fin} (a : ax_fm A) : ax_fm (fun k => ax_gd b (A k)) := by
  cases b with
  | false => exact ax_fm_c none
  | true => exact a
theorem ax_fm_bd (j len) {A : Nat → ax_K → Option ax_Fin} (a : ∀ x, ax_fm (A x)) : ax_fm (fun k => ax_bd j len fun x => A x k) := ax_fm_ite (ax_fm_c none) (a _)
theorem ax_fm_bb (x) {A : ax_K → Option ax_Fin} (a : ax_fm A) : ax_fm (fun k => ax_bb x (A k)) := ax_fm_ite a (ax_fm_c none)
theorem ax_fm_v1 (st) {A : ax_V → List ax_V → ax_K → Option ax_Fin} (a : ∀ x r, ax_fm (A x r)) : ax_fm (fun k => ax_v1 st fun x r => A x r k) := by
  cases st with
  | nil => exact ax_fm_c none
  | cons x r => exact a x r
theorem ax_fm_r1 (st) {A : Nat → Nat → List ax_V → ax_K → Option ax_Fin} (a : ∀ x y r, ax_fm (A x y r)) : ax_fm (fun k => ax_r1 st fun x y r => A x y r k) := by
  rcases st with _ | ⟨v | ⟨x, y⟩, r⟩
  · exact ax_fm_c none
  · exact ax_fm_c none
  · exact a x y r
theorem ax_fm_i1 (st) {A : Int32 → List ax_V → ax_K → Option ax_Fin} (a : ∀ x r, ax_fm (A x r)) : ax_fm (fun k => ax_i1 st fun x r => A x r k) := by
  rcases st with _ | ⟨v | q, r⟩
  · exact ax_fm_c none
  · cases v <;> first | exact a _ r | exact ax_fm_c none
  · exact ax_fm_c none
theorem ax_fm_l1 (st) {A : Int64 → List ax_V → ax_K → Option ax_Fin} (a : ∀ x r, ax_fm (A x r)) : ax_fm (fun k => ax_l1 st fun x r => A x r k) := by
  rcases st with _ | ⟨v | q, r⟩
  · exact ax_fm_c none
  · cases v <;> first | exact a _ r | exact ax_fm_c none
  · exact ax_fm_c none
theorem ax_fm_d1 (st) {A : UInt64 → List ax_V → ax_K → Option ax_Fin} (a : ∀ x r, ax_fm (A x r)) : ax_fm (fun k => ax_d1 st fun x r => A x r k) := by
  rcases st with _ | ⟨v | q, r⟩
  · exact ax_fm_c none
  · cases v <;> first | exact a _ r | exact ax_fm_c none
  · exact ax_fm_c none
theorem ax_fm_i2 (st) {A : Int32 → Int32 → List ax_V → ax_K → Option ax_Fin} (a : ∀ x y r, ax_fm (A x y r)) : ax_fm (fun k => ax_i2 st fun x y r => A x y r k) := by
  rcases st with _ | ⟨v | q, _ | ⟨w | q2, r⟩⟩
  · exact ax_fm_c none
  · cases v <;> exact ax_fm_c none
  · cases v <;> cases w <;> first | exact a _ _ r | exact ax_fm_c none
  · cases v <;> exact ax_fm_c none
  · exact ax_fm_c none
  · exact ax_fm_c none
  · exact ax_fm_c none
theorem ax_fm_l2 (st) {A : Int64 → Int64 → List ax_V → ax_K → Option ax_Fin} (a : ∀ x y r, ax_fm (A x y r)) : ax_fm (fun k => ax_l2 st fun x y r => A x y r k) := by
  rcases st with _ | ⟨v | q, _ | ⟨w | q2, r⟩⟩
  · exact ax_fm_c none
  · cases v <;> exact ax_fm_c none
  · cases v <;> cases w <;> first | exact a _ _ r | exact ax_fm_c none
  · cases v <;> exact ax_fm_c none
  · exact ax_fm_c none
  · exact ax_fm_c none
  · exact ax_fm_c none
theorem ax_fm_d2 (st) {A : UInt64 → UInt64 → List ax_V → ax_K → Option ax_Fin} (a : ∀ x y r, ax_fm (A x y r)) : ax_fm (fun k => ax_d2 st fun x y r => A x y r k) := by
  rcases st with _ | ⟨v | q, _ | ⟨w | q2, r⟩⟩
  · exact ax_fm_c none
  · cases v <;> exact ax_fm_c none
  · cases v <;> cases w <;> first | exact a _ _ r | exact ax_fm_c none
  · cases v <;> exact ax_fm_c none
  · exact ax_fm_c none
  · exact ax_fm_c none
  · exact ax_fm_c none
theorem ax_fm_oi (o) {A : Int32 → ax_K → Option ax_Fin} (a : ∀ x, ax_fm (A x)) : ax_fm (fun k => ax_oi o fun x => A x k) := by
  rcases o with _ | v | q
  · exact ax_fm_c none
  · cases v <;> first | exact a _ | exact ax_fm_c none
  · exact ax_fm_c none
theorem ax_fm_ol (o) {A : Int64 → ax_K → Option ax_Fin} (a : ∀ x, ax_fm (A x)) : ax_fm (fun k => ax_ol o fun x => A x k) := by
  rcases o with _ | v | q
  · exact ax_fm_c none
  · cases v <;> first | exact a _ | exact ax_fm_c none
  · exact ax_fm_c none
theorem ax_fm_od (o) {A : UInt64 → ax_K → Option ax_Fin} (a : ∀ x, ax_fm (A x)) : ax_fm (fun k => ax_od o fun x => A x k) := by
  rcases o with _ | v | q
  · exact ax_fm_c none
  · cases v <;> first | exact a _ | exact ax_fm_c none
  · exact ax_fm_c none
theorem ax_fm_nu (v) {A B : ax_K → Option ax_Fin} (a : ax_fm A) (b : ax_fm B) : ax_fm (fun k => ax_nu v (A k) (B k)) := by
  rcases v with v | q
  · cases v <;> first | exact a | exact ax_fm_c none
  · exact b
theorem ax_fm_rs (v) {A : Nat → Nat → ax_K → Option ax_Fin} {B : Nat → ax_K → Option ax_Fin} (a : ∀ x y, ax_fm (A x y)) (b : ∀ x, ax_fm (B x)) : ax_fm (fun k => ax_rs v (fun x y => A x y k) (fun x => B x k)) := by
  rcases v with v | ⟨x, y⟩
  · cases v <;> first | exact b _ | exact ax_fm_c none
  · exact a x y
theorem ax_fm_0 (n) {A : ax_K → Option ax_Fin} (a : ax_fm A) : ax_fm (fun k => ax_0 n (A k)) := by
  rcases n with _ | n
  · exact a
  · exact ax_fm_c none
theorem ax_fm_1 (n) {A : ax_K → Option ax_Fin} (a : ax_fm A) : ax_fm (fun k => ax_1 n (A k)) := by
  rcases n with _ | _ | n
  · exact ax_fm_c none
  · exact a
  · exact ax_fm_c none
theorem ax_fm_2 (n) {A : ax_K → Option ax_Fin} (a : ax_fm A) : ax_fm (fun k => ax_2 n (A k)) := by
  rcases n with _ | _ | _ | n
  · exact ax_fm_c none
  · exact ax_fm_c none
  · exact a
  · exact ax_fm_c none
theorem ax_fm_3 (n) {A : ax_K → Option ax_Fin} (a : ax_fm A) : ax_fm (fun k => ax_3 n (A k)) := by
  rcases n with _ | _ | _ | n
  · exact ax_fm_c none
  · exact ax_fm_c none
  · exact ax_fm_c none
  · exact a
theorem ax_fm_nil {α : Type} (l : List α) {A : ax_K → Option ax_Fin} (a : ax_fm A) : ax_fm (fun k => ax_nil l (A k)) := by
  cases l with
  | nil => exact a
  | cons x r => exact ax_fm_c none
theorem ax_fm_sw (l d x) {A : Nat → ax_K → Option ax_Fin} (a : ∀ t, ax_fm (A t)) : ax_fm (fun k => ax_sw l d x fun t => A t k) := by
  induction l with
  | nil => exact a d
  | cons q r ih => exact ax_fm_ite (a _) ih
theorem ax_fm_pop (n) : ∀ (st as : List ax_V) {A : List ax_V → List ax_V → ax_K → Option ax_Fin}, (∀ x y, ax_fm (A x y)) → ax_fm (fun k => ax_pop n st as fun x y => A x y k) := by
  induction n with
  | zero => intro st as A a; cases st <;> exact a _ _
  | succ n ih =>
    intro st as A a
    cases st with
    | nil => exact ax_fm_c none
    | cons v st => exact ih st (v :: as) a
theorem ax_fm_thr (h pc e L f g cs ss) : ax_fm (fun k => ax_thr h pc e L f g cs ss k) := by
  induction h with
  | nil => exact ax_fm_c _
  | cons q r ih =>
    obtain ⟨a, b, x, n, t⟩ := q
    show ax_fm (fun k => bif Nat.ble a pc && Nat.blt pc b then (bif Nat.beq x e then k t (ax_kl L n) [] f g cs ss else bif ax_xd x e then ax_thr r pc e L f g cs ss k else none) else ax_thr r pc e L f g cs ss k)
    cases (Nat.ble a pc && Nat.blt pc b) with
    | false => exact ih
    | true =>
      cases Nat.beq x e with
      | true => exact ax_fm_k _ _ _ _ _ _ _
      | false =>
        cases ax_xd x e with
        | true => exact ih
        | false => exact ax_fm_c none
theorem ax_fm_pf (f g ty k0 i j v) {A : ax_F → ax_G → ax_K → Option ax_Fin} (a : ∀ x y, ax_fm (A x y)) : ax_fm (fun k => ax_pf f g ty k0 i j v fun x y => A x y k) := by
  rcases v with v | q
  · rcases ty with _ | _ | _ | ty
    · cases v <;> first | exact a _ _ | exact ax_fm_c none
    · cases v <;> first | exact ax_fm_bb _ (a _ _) | exact ax_fm_c none
    · cases v <;> first | exact a _ _ | exact ax_fm_c none
    · cases v <;> exact ax_fm_c none
  · rcases ty with _ | _ | _ | ty <;> exact ax_fm_c none
theorem ax_fm_cal (rt r rest) {X : Nat → ax_F → ax_G → ax_K → Option ax_Fin} {A : List ax_V → ax_F → ax_G → ax_K → Option ax_Fin} (x : ∀ e f g, ax_fm (X e f g)) (a : ∀ s f g, ax_fm (A s f g)) : ax_fm (fun k => ax_cal rt r (fun e f g => X e f g k) rest (fun s f g => A s f g k)) := by
  rcases r with _ | ⟨(_ | v) | e, f, g⟩
  · rcases rt with _ | _ | _ | _ | _ | rt <;> exact ax_fm_c none
  · rcases rt with _ | _ | _ | _ | _ | rt <;> first | exact a _ _ _ | exact ax_fm_c none
  · rcases v with v | q
    · rcases rt with _ | _ | _ | _ | _ | rt
      · exact ax_fm_c none
      · cases v <;> first | exact a _ _ _ | exact ax_fm_c none
      · cases v <;> first | exact a _ _ _ | exact ax_fm_c none
      · cases v <;> first | exact a _ _ _ | exact ax_fm_c none
      · cases v <;> first | exact a _ _ _ | exact ax_fm_c none
      · cases v <;> first | exact a _ _ _ | exact ax_fm_c none
    · rcases rt with _ | _ | _ | _ | _ | rt <;> first | exact a _ _ _ | exact ax_fm_c none
  · rcases rt with _ | _ | _ | _ | _ | rt <;> exact x e f g
set_option maxHeartbeats 4000000 in
theorem ax_fm_ins (P pc n t v i L st f g cs ss) : ax_fm (fun k => ax_ins P pc n t v i L st f g cs ss k) := by
  cases i
  case ifCond c o => cases c <;> exact ax_fm_i1 _ fun _ _ => ax_fm_ite (ax_fm_k _ _ _ _ _ _ _) (ax_fm_k _ _ _ _ _ _ _)
  case if_icmp c o => cases c <;> exact ax_fm_i2 _ fun _ _ _ => ax_fm_ite (ax_fm_k _ _ _ _ _ _ _) (ax_fm_k _ _ _ _ _ _ _)
  case invokevirtual x => exact ax_fm_ob _ fun _ => ax_fm_0 _ (ax_fm_pop _ _ _ fun _ _ => ax_fm_r1 _ fun _ _ _ => ax_fm_ob _ fun _ => ax_fm_gd _ (ax_fm_gd _ (ax_fm_gd _ (ax_fm_gd _ (ax_fm_cal _ _ _ (fun _ _ _ => ax_fm_thr _ _ _ _ _ _ _ _) (fun _ _ _ => ax_fm_k _ _ _ _ _ _ _))))))
  case invokestatic x => exact ax_fm_ob _ fun _ => ax_fm_gd _ (ax_fm_pop _ _ _ fun _ _ => ax_fm_gd _ (ax_fm_gd _ (ax_fm_gd _ (ax_fm_cal _ _ _ (fun _ _ _ => ax_fm_thr _ _ _ _ _ _ _ _) (fun _ _ _ => ax_fm_k _ _ _ _ _ _ _)))))
  case putfield x => exact ax_fm_v1 _ fun _ _ => ax_fm_r1 _ fun _ _ _ => ax_fm_ob _ fun _ => ax_fm_ob _ fun _ => ax_fm_gd _ (ax_fm_pf _ _ _ _ _ _ _ fun _ _ => ax_fm_k _ _ _ _ _ _ _)
  case getfield x => exact ax_fm_r1 _ fun _ _ _ => ax_fm_ob _ fun _ => ax_fm_ob _ fun _ => ax_fm_gd _ (ax_fm_k _ _ _ _ _ _ _)
  case tableswitch => exact ax_fm_ob _ fun _ => ax_fm_i1 _ fun _ _ => ax_fm_sw _ _ _ fun _ => ax_fm_k _ _ _ _ _ _ _
  case arraylength => exact ax_fm_v1 _ fun _ _ => ax_fm_rs _ (fun _ _ => ax_fm_ob _ fun _ => ax_fm_k _ _ _ _ _ _ _) (fun _ => ax_fm_ob _ fun _ => ax_fm_gd _ (ax_fm_k _ _ _ _ _ _ _))
  case iaload => exact ax_fm_i1 _ fun _ _ => ax_fm_v1 _ fun _ _ => ax_fm_rs _ (fun _ _ => ax_fm_ob _ fun _ => ax_fm_0 _ (ax_fm_bd _ _ fun _ => ax_fm_k _ _ _ _ _ _ _)) (fun _ => ax_fm_ob _ fun _ => ax_fm_gd _ (ax_fm_bd _ _ fun _ => ax_fm_k _ _ _ _ _ _ _))
  case baload => exact ax_fm_i1 _ fun _ _ => ax_fm_r1 _ fun _ _ _ => ax_fm_ob _ fun _ => ax_fm_1 _ (ax_fm_bd _ _ fun _ => ax_fm_k _ _ _ _ _ _ _)
  case laload => exact ax_fm_i1 _ fun _ _ => ax_fm_r1 _ fun _ _ _ => ax_fm_ob _ fun _ => ax_fm_2 _ (ax_fm_bd _ _ fun _ => ax_fm_k _ _ _ _ _ _ _)
  case aaload => exact ax_fm_i1 _ fun _ _ => ax_fm_r1 _ fun _ _ _ => ax_fm_ob _ fun _ => ax_fm_3 _ (ax_fm_bd _ _ fun _ => ax_fm_k _ _ _ _ _ _ _)
  case iastore => exact ax_fm_i2 _ fun _ _ _ => ax_fm_r1 _ fun _ _ _ => ax_fm_ob _ fun _ => ax_fm_0 _ (ax_fm_bd _ _ fun _ => ax_fm_k _ _ _ _ _ _ _)
  case bastore => exact ax_fm_i2 _ fun _ _ _ => ax_fm_r1 _ fun _ _ _ => ax_fm_ob _ fun _ => ax_fm_1 _ (ax_fm_bd _ _ fun _ => ax_fm_bb _ (ax_fm_k _ _ _ _ _ _ _))
  case lastore => exact ax_fm_l1 _ fun _ _ => ax_fm_i1 _ fun _ _ => ax_fm_r1 _ fun _ _ _ => ax_fm_ob _ fun _ => ax_fm_2 _ (ax_fm_bd _ _ fun _ => ax_fm_k _ _ _ _ _ _ _)
  case ifnull => exact ax_fm_v1 _ fun _ _ => ax_fm_nu _ (ax_fm_k _ _ _ _ _ _ _) (ax_fm_k _ _ _ _ _ _ _)
  case ifnonnull => exact ax_fm_v1 _ fun _ _ => ax_fm_nu _ (ax_fm_k _ _ _ _ _ _ _) (ax_fm_k _ _ _ _ _ _ _)
  case dup2 => exact ax_fm_v1 _ fun _ _ => ax_fm_v1 _ fun _ _ => ax_fm_gd _ (ax_fm_gd _ (ax_fm_k _ _ _ _ _ _ _))
  case astore => exact ax_fm_v1 _ fun _ _ => ax_fm_gd _ (ax_fm_gd _ (ax_fm_k _ _ _ _ _ _ _))
  case astore_n => exact ax_fm_v1 _ fun _ _ => ax_fm_gd _ (ax_fm_gd _ (ax_fm_k _ _ _ _ _ _ _))
  case aload => exact ax_fm_ob _ fun _ => ax_fm_gd _ (ax_fm_k _ _ _ _ _ _ _)
  case aload_n => exact ax_fm_ob _ fun _ => ax_fm_gd _ (ax_fm_k _ _ _ _ _ _ _)
  all_goals first
    | exact ax_fm_c _
    | exact ax_fm_k _ _ _ _ _ _ _
    | exact ax_fm_i2 _ fun _ _ _ => ax_fm_k _ _ _ _ _ _ _
    | exact ax_fm_i2 _ fun _ _ _ => ax_fm_ite (ax_fm_c _) (ax_fm_k _ _ _ _ _ _ _)
    | exact ax_fm_i1 _ fun _ _ => ax_fm_k _ _ _ _ _ _ _
    | exact ax_fm_l2 _ fun _ _ _ => ax_fm_k _ _ _ _ _ _ _
    | exact ax_fm_d2 _ fun _ _ _ => ax_fm_k _ _ _ _ _ _ _
    | exact ax_fm_d2 _ fun _ _ _ => ax_fm_ite (ax_fm_k _ _ _ _ _ _ _) (ax_fm_c _)
    | exact ax_fm_oi _ fun _ => ax_fm_k _ _ _ _ _ _ _
    | exact ax_fm_ol _ fun _ => ax_fm_k _ _ _ _ _ _ _
    | exact ax_fm_od _ fun _ => ax_fm_k _ _ _ _ _ _ _
    | exact ax_fm_oi _ fun _ => ax_fm_gd _ (ax_fm_k _ _ _ _ _ _ _)
    | exact ax_fm_ob _ fun _ => ax_fm_k _ _ _ _ _ _ _
    | exact ax_fm_gd _ (ax_fm_k _ _ _ _ _ _ _)
    | exact ax_fm_i1 _ fun _ _ => ax_fm_gd _ (ax_fm_k _ _ _ _ _ _ _)
    | exact ax_fm_l1 _ fun _ _ => ax_fm_gd _ (ax_fm_k _ _ _ _ _ _ _)
    | exact ax_fm_d1 _ fun _ _ => ax_fm_gd _ (ax_fm_k _ _ _ _ _ _ _)
    | exact ax_fm_v1 _ fun _ _ => ax_fm_gd _ (ax_fm_k _ _ _ _ _ _ _)
theorem ax_fm_step (P pc L st f g cs ss) : ax_fm (fun k => ax_step P pc L st f g cs ss k) := ax_fm_ob _ fun _ => ax_fm_ins _ _ _ _ _ _ _ _ _ _ _ _
theorem ax_stp (P pc L st f g cs ss) : (∃ x, ∀ k, ax_step P pc L st f g cs ss k = x) ∨ ∃ pc' L' st' f' g' cs' ss', ∀ k : ax_K, ax_step P pc L st f g cs ss k = k pc' L' st' f' g' cs' ss' := ax_fm_step P pc L st f g cs ss
theorem ax_kill_kill (n : Nat) (L : ax_L) : ax_kill n (ax_kill n L) = ax_kill n L := by
  induction L generalizing n with
  | nil => cases n <;> rfl
  | cons a l ih =>
    cases n with
    | zero => show none :: ax_kill 0 (ax_kill 0 l) = none :: ax_kill 0 l; rw [ih]
    | succ n => show a :: ax_kill n (ax_kill n l) = a :: ax_kill n l; rw [ih]
theorem ax_norm_norm (P : ax_P) (pc : Nat) (L : ax_L) : ax_norm P pc (ax_norm P pc L) = ax_norm P pc L := by
  unfold ax_norm
  cases ax_lk (ax_live P) pc with
  | none => rfl
  | some n => exact ax_kill_kill n L
theorem ax_exec_succ (P : ax_P) (n pc L st f g cs ss) : ax_exec P (n + 1) pc L st f g cs ss = ax_step P pc (ax_norm P pc L) st f g cs ss (ax_exec P n) := rfl
theorem ax_exec_up (P : ax_P) : ∀ (n pc L st f g cs ss r), ax_exec P n pc L st f g cs ss = some r → ax_exec P (n + 1) pc L st f g cs ss = some r := by
  intro n
  induction n with
  | zero => intro pc L st f g cs ss r h; cases h
  | succ n ih =>
    intro pc L st f g cs ss r h
    rw [ax_exec_succ] at h ⊢
    rcases ax_stp P pc (ax_norm P pc L) st f g cs ss with ⟨x, hx⟩ | ⟨a, b, c, d, e, i, j, hx⟩
    · rw [hx] at h ⊢; exact h
    · rw [hx] at h ⊢; exact ih _ _ _ _ _ _ _ _ h
theorem ax_exec_le (P : ax_P) {n m : Nat} (hm : n ≤ m) {pc L st f g cs ss r} (h : ax_exec P n pc L st f g cs ss = some r) : ax_exec P m pc L st f g cs ss = some r := by
  induction hm with
  | refl => exact h
  | step _ ih => exact ax_exec_up P _ _ _ _ _ _ _ _ _ ih
/-- the run: what it comes to, if it ends -/
noncomputable def ax_run (P : ax_P) : ax_K := fun pc L st f g cs ss => (Classical.epsilon (fun o : Option ax_Fin => (∃ n r, ax_exec P n pc L st f g cs ss = some r ∧ o = some r) ∨ ((∀ n, ax_exec P n pc L st f g cs ss = none) ∧ o = none)))
theorem ax_run_spec (P : ax_P) (pc L st f g cs ss) : (∃ n r, ax_exec P n pc L st f g cs ss = some r ∧ ax_run P pc L st f g cs ss = some r) ∨ ((∀ n, ax_exec P n pc L st f g cs ss = none) ∧ ax_run P pc L st f g cs ss = none) := by
  have h : ∃ o : Option ax_Fin, (∃ n r, ax_exec P n pc L st f g cs ss = some r ∧ o = some r) ∨ ((∀ n, ax_exec P n pc L st f g cs ss = none) ∧ o = none) := by
    by_cases h : ∃ n r, ax_exec P n pc L st f g cs ss = some r
    · obtain ⟨n, r, h⟩ := h
      exact ⟨some r, Or.inl ⟨n, r, h, rfl⟩⟩
    · refine ⟨none, Or.inr ⟨fun n => ?_, rfl⟩⟩
      cases e : ax_exec P n pc L st f g cs ss with
      | none => rfl
      | some r => exact absurd ⟨n, r, e⟩ h
  exact Classical.epsilon_spec h
theorem ax_run_of (P : ax_P) {n pc L st f g cs ss r} (h : ax_exec P n pc L st f g cs ss = some r) : ax_run P pc L st f g cs ss = some r := by
  rcases ax_run_spec P pc L st f g cs ss with ⟨m, r', h1, h2⟩ | ⟨h1, -⟩
  · rw [h2]
    have a := ax_exec_le P (Nat.le_max_left n m) h
    have b := ax_exec_le P (Nat.le_max_right n m) h1
    exact b.symm.trans a
  · rw [h1 n] at h; cases h
theorem ax_of_run (P : ax_P) {pc L st f g cs ss r} (h : ax_run P pc L st f g cs ss = some r) : ∃ n, ax_exec P n pc L st f g cs ss = some r := by
  rcases ax_run_spec P pc L st f g cs ss with ⟨m, r', h1, h2⟩ | ⟨-, h2⟩
  · rw [h2] at h; cases h; exact ⟨m, h1⟩
  · rw [h2] at h; cases h
/-- it unrolls -/
theorem ax_run_step (P : ax_P) (pc L st f g cs ss) : ax_run P pc L st f g cs ss = ax_step P pc (ax_norm P pc L) st f g cs ss (ax_run P) := by
  rcases ax_stp P pc (ax_norm P pc L) st f g cs ss with ⟨x, hx⟩ | ⟨a, b, c, d, e, i, j, hx⟩
  · rw [hx]
    cases x with
    | some r => exact ax_run_of P (n := 1) (by rw [ax_exec_succ, hx])
    | none =>
      rcases ax_run_spec P pc L st f g cs ss with ⟨m, r', h1, -⟩ | ⟨-, h2⟩
      · cases m with
        | zero => cases h1
        | succ m => rw [ax_exec_succ, hx] at h1; cases h1
      · exact h2
  · rw [hx]
    rcases ax_run_spec P a b c d e i j with ⟨m, r, h1, h2⟩ | ⟨h1, h2⟩
    · rw [h2]
      exact ax_run_of P (n := m + 1) (by rw [ax_exec_succ, hx]; exact h1)
    · rw [h2]
      rcases ax_run_spec P pc L st f g cs ss with ⟨m, r', h3, -⟩ | ⟨-, h4⟩
      · cases m with
        | zero => cases h3
        | succ m => rw [ax_exec_succ, hx, h1] at h3; cases h3
      · exact h4
theorem ax_run_norm (P : ax_P) (pc L st f g cs ss) : ax_run P pc L st f g cs ss = ax_run P pc (ax_norm P pc L) st f g cs ss := by
  rw [ax_run_step P pc L, ax_run_step P pc (ax_norm P pc L), ax_norm_norm]
/-- on to the next heads of loops, at most n steps -/
def ax_segc (P : ax_P) (run : ax_K) : Nat → ax_K
  | 0 => fun pc L st f g cs ss => run pc (ax_norm P pc L) st f g cs ss
  | n + 1 => fun pc L st f g cs ss => match ax_lk (ax_live P) pc with
    | some m => run pc (ax_kill m L) st f g cs ss
    | none => ax_step P pc L st f g cs ss (ax_segc P run n)
def ax_seg (P : ax_P) (run : ax_K) (n : Nat) : ax_K := fun pc L st f g cs ss => ax_step P pc (ax_norm P pc L) st f g cs ss (ax_segc P run n)
theorem ax_run_segc (P : ax_P) : ∀ (n pc L st f g cs ss), ax_run P pc L st f g cs ss = ax_segc P (ax_run P) n pc L st f g cs ss := by
  intro n
  induction n with
  | zero => intro pc L st f g cs ss; exact ax_run_norm P pc L st f g cs ss
  | succ n ih =>
    intro pc L st f g cs ss
    have hn : ax_norm P pc L = match ax_lk (ax_live P) pc with | some n => ax_kill n L | none => L := rfl
    unfold ax_segc
    cases e : ax_lk (ax_live P) pc with
    | some m =>
      rw [ax_run_norm, hn, e]
    | none =>
      rw [ax_run_step, hn, e]
      show ax_step P pc L st f g cs ss (ax_run P) = ax_step P pc L st f g cs ss (ax_segc P (ax_run P) n)
      have : ax_run P = ax_segc P (ax_run P) n := by
        funext a b c d e i j
        exact ih a b c d e i j
      exact congrArg _ this
theorem ax_run_seg (P : ax_P) (n pc L st f g cs ss) : ax_run P pc L st f g cs ss = ax_seg P (ax_run P) n pc L st f g cs ss := by
  rw [ax_run_step]
  have : ax_run P = ax_segc P (ax_run P) n := by
    funext a b c d e i j
    exact ax_run_segc P n a b c d e i j
  exact congrArg _ this
/-- arguments as locals -/
def ax_loc : Nat → List ax_V → ax_L
  | n, [] => List.replicate n none
  | n, v :: l => bif ax_two v then some v :: none :: ax_loc (n - 2) l else some v :: ax_loc (n - 1) l
/-- what a method means -/
noncomputable def ax_sem (P : ax_P) (nL : Nat) : ax_S := fun as f g => ax_gd (Nat.ble (ax_wd as) nL) (ax_run P 0 (ax_loc nL as) [] f g 0 0)
end AXR
