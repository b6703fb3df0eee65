/-! contracts out of the small machine: definitions, inversions, locals -/
section AXS
def ax_sts : List (String × Nat × String) := [(RX9, 51, "sections is not 1 to 5"), (RX9, 71, "no such section"), (RX9, 74, "size is not 1 to 99"), (RX9, 292, "the set has a package that does not exist"), (RX9, 84, "there are 12 packages"), (RX9, 290, "no such package"), (RX9, 103, "the version is 30"), (RX9, 105, "there are no packages"), (RX9, 110, "there are 20 indexes"), (RX9, 119, "minutes is not 1 to 999"), (RX9, 124, "code is not 32 to 126"), (RX9, 129, "the buffer has 60 characters"), (RX9, 142, "the buffer is not a complete text"), (RX9, 150, "no such upstream"), (RX9, 156, "sections is empty or has one that does not exist"), (RX9, 158, "interval is not 1 to 60"), (RX9, 160, "offset is not 0 to interval minus 1"), (RX9, 162, "capacity is not 1 to 200"), (RX9, 164, "there are 6 mirrors"), (RX9, 294, "no such mirror"), (RX9, 181, "the mirror has no index"), (RX9, 190, "the mirror does not have this file"), (RX9, 200, "minutes is not 1 to 200"), (RX9, 288, "what is out of range"), (RX9, 219, "mirrors is empty or has one that does not exist"), (RX9, 221, "there are 4 clients"), (RX9, 296, "no such client"), (RX9, 254, "no such index")]
def ax_nes : List (String × Nat × MethodName × String) := [(RX7, 66, yX9_hasBitFrom, RX9), (RX8, 53, yX9_hasBitFrom, RX9)]
def ax_Wd (base : Nat) (D : va_G) (cA : Nat → ClassId) (f : ax_F) (g : ax_G) (U : State) : Prop := va_P D vwCl (ax_ws base cA f g) U.heap ∧ va_K D vwCl (ax_tys cA) U ∧ ax_Z base U U.heap ∧ ax_Y ax_sts ax_nes U
theorem ax_blind (vs : List Value) (base D cA f g) : FrameBlind (va_Pc vs (ax_Wd base D cA f g)) := by
  intro a U g mk h
  obtain ⟨h0, h1, h2, h3, h4⟩ := h
  exact ⟨h0, h1, va_K.moved (u := U) (U := U.calling g mk a) (Vm.Alike.refl U.vm) h2, ⟨vx_Zq.moved (u := U) (U := U.calling g mk a) (Vm.Alike.refl U.vm) h3.1, vx_Zq.moved (u := U) (U := U.calling g mk a) (Vm.Alike.refl U.vm) h3.2⟩, h4.same rfl⟩
def ax_Qr (base : Nat) (D : va_G) (cA : Nat → ClassId) (r : ax_Fin) : Array Value → State → Outcome → State → Prop := fun _ st o t => (∃ v f g, r = (.inl v, f, g) ∧ o = .returned (v.map (ax_c base)) ∧ (∀ x, v = some x → ax_ok x) ∧ va_P D vwCl (ax_ws base cA f g) t.heap) ∧ va_F (ax_A base) st t
def ax_Xr (base : Nat) (D : va_G) (cA : Nat → ClassId) (r : ax_Fin) : String → State → State → Prop := fun E st t => (∃ e f g, r = (.inr e, f, g) ∧ E = ax_en e ∧ va_P D vwCl (ax_ws base cA f g) t.heap) ∧ va_F (ax_A base) st t
/-- a method does what its meaning says -/
def ax_Impl (l : Launch) (y : MethodName) (cw : Cond) (fr lo : Nat) (sem : ax_S) (mc ms : Nat) : Prop :=
  ∀ (base : Nat) (D : va_G) (cA : Nat → ClassId) (as : List ax_V) (f : ax_F) (g : ax_G) (r : ax_Fin), (∀ v ∈ as, ax_ok v) → sem as f g = some r →
    vx_Met l y (cw :: ax_T) { frames := fr, cells := mc, slots := ms, locals := lo } (va_Pc (as.map (ax_c base)) (ax_Wd base D cA f g)) (ax_Qr base D cA r) (ax_Xr base D cA r) mc ms (ax_A base)
theorem ax_lk_mem {α : Type} : ∀ (l : List (Nat × α)) {k : Nat} {a : α}, ax_lk l k = some a → (k, a) ∈ l := by
  intro l
  induction l with
  | nil => intro k a h; cases h
  | cons q r ih =>
    obtain ⟨n, b⟩ := q
    intro k a h
    have h' : (bif Nat.beq n k then some b else ax_lk r k) = some a := h
    cases e : Nat.beq n k with
    | true =>
      rw [e] at h'
      have h2 : some b = some a := h'
      cases h2
      rw [Nat.eq_of_beq_eq_true e]
      exact List.mem_cons_self
    | false =>
      rw [e] at h'
      exact List.mem_cons_of_mem _ (ih h')
theorem ax_at_mem : ∀ (c : List (Nat × List ax_En)) {pc : Nat} {x}, ax_at c pc = some x → ∃ e ∈ c, (pc, x) ∈ e.2 := by
  intro c
  induction c with
  | nil => intro pc x h; cases h
  | cons q r ih =>
    obtain ⟨b, l⟩ := q
    intro pc x h
    have h' : (bif Nat.blt pc b then ax_lk l pc else ax_at r pc) = some x := h
    cases e : Nat.blt pc b with
    | true =>
      rw [e] at h'
      exact ⟨(b, l), List.mem_cons_self, ax_lk_mem l h'⟩
    | false =>
      rw [e] at h'
      obtain ⟨e1, h1, h2⟩ := ih h'
      exact ⟨e1, List.mem_cons_of_mem _ h1, h2⟩
theorem ax_ob_i {α : Type} {o : Option α} {kk : α → Option ax_Fin} {r} (h : ax_ob o kk = some r) : ∃ x, o = some x ∧ kk x = some r := by
  cases o with
  | none => cases h
  | some x => exact ⟨x, rfl, h⟩
theorem ax_gd_i {b : Bool} {x : Option ax_Fin} {r} (h : ax_gd b x = some r) : b = true ∧ x = some r := by
  cases b with
  | false => cases h
  | true => exact ⟨rfl, h⟩
theorem ax_v1_i {st : List ax_V} {kk} {r : ax_Fin} (h : ax_v1 st kk = some r) : ∃ x t, st = x :: t ∧ kk x t = some r := by
  cases st with
  | nil => cases h
  | cons x t => exact ⟨x, t, rfl, h⟩
theorem ax_r1_i {st : List ax_V} {kk} {r : ax_Fin} (h : ax_r1 st kk = some r) : ∃ a i t, st = .inr (a, i) :: t ∧ kk a i t = some r := by
  rcases st with _ | ⟨v | ⟨a, i⟩, t⟩
  · cases h
  · cases h
  · exact ⟨a, i, t, rfl, h⟩
theorem ax_i1_i {st : List ax_V} {kk} {r : ax_Fin} (h : ax_i1 st kk = some r) : ∃ x t, st = .inl (.int x) :: t ∧ kk x t = some r := by
  rcases st with _ | ⟨v | q, t⟩
  · cases h
  · cases v <;> first | exact ⟨_, t, rfl, h⟩ | cases h
  · cases h
theorem ax_l1_i {st : List ax_V} {kk} {r : ax_Fin} (h : ax_l1 st kk = some r) : ∃ x t, st = .inl (.long x) :: t ∧ kk x t = some r := by
  rcases st with _ | ⟨v | q, t⟩
  · cases h
  · cases v <;> first | exact ⟨_, t, rfl, h⟩ | cases h
  · cases h
theorem ax_d1_i {st : List ax_V} {kk} {r : ax_Fin} (h : ax_d1 st kk = some r) : ∃ x t, st = .inl (.double x) :: t ∧ kk x t = some r := by
  rcases st with _ | ⟨v | q, t⟩
  · cases h
  · cases v <;> first | exact ⟨_, t, rfl, h⟩ | cases h
  · cases h
theorem ax_i2_i {st : List ax_V} {kk} {r : ax_Fin} (h : ax_i2 st kk = some r) : ∃ x y t, st = .inl (.int y) :: .inl (.int x) :: t ∧ kk x y t = some r := by
  rcases st with _ | ⟨v | q, _ | ⟨w | q2, t⟩⟩
  · cases h
  · cases v <;> cases h
  · cases v <;> cases w <;> first | exact ⟨_, _, t, rfl, h⟩ | cases h
  · cases v <;> cases h
  · cases h
  · cases h
  · cases h
theorem ax_l2_i {st : List ax_V} {kk} {r : ax_Fin} (h : ax_l2 st kk = some r) : ∃ x y t, st = .inl (.long y) :: .inl (.long x) :: t ∧ kk x y t = some r := by
  rcases st with _ | ⟨v | q, _ | ⟨w | q2, t⟩⟩
  · cases h
  · cases v <;> cases h
  · cases v <;> cases w <;> first | exact ⟨_, _, t, rfl, h⟩ | cases h
  · cases v <;> cases h
  · cases h
  · cases h
  · cases h
theorem ax_d2_i {st : List ax_V} {kk} {r : ax_Fin} (h : ax_d2 st kk = some r) : ∃ x y t, st = .inl (.double y) :: .inl (.double x) :: t ∧ kk x y t = some r := by
  rcases st with _ | ⟨v | q, _ | ⟨w | q2, t⟩⟩
  · cases h
  · cases v <;> cases h
  · cases v <;> cases w <;> first | exact ⟨_, _, t, rfl, h⟩ | cases h
  · cases v <;> cases h
  · cases h
  · cases h
  · cases h
theorem ax_oi_i {o : Option ax_V} {kk} {r : ax_Fin} (h : ax_oi o kk = some r) : ∃ x, o = some (.inl (.int x)) ∧ kk x = some r := by
  rcases o with _ | v | q
  · cases h
  · cases v <;> first | exact ⟨_, rfl, h⟩ | cases h
  · cases h
theorem ax_ol_i {o : Option ax_V} {kk} {r : ax_Fin} (h : ax_ol o kk = some r) : ∃ x, o = some (.inl (.long x)) ∧ kk x = some r := by
  rcases o with _ | v | q
  · cases h
  · cases v <;> first | exact ⟨_, rfl, h⟩ | cases h
  · cases h
theorem ax_od_i {o : Option ax_V} {kk} {r : ax_Fin} (h : ax_od o kk = some r) : ∃ x, o = some (.inl (.double x)) ∧ kk x = some r := by
  rcases o with _ | v | q
  · cases h
  · cases v <;> first | exact ⟨_, rfl, h⟩ | cases h
  · cases h
theorem ax_nu_i {v : ax_V} {a b} {r : ax_Fin} (h : ax_nu v a b = some r) : (v = .inl .null ∧ a = some r) ∨ (∃ q, v = .inr q ∧ b = some r) := by
  rcases v with v | q
  · cases v <;> first | exact Or.inl ⟨rfl, h⟩ | cases h
  · exact Or.inr ⟨q, rfl, h⟩
theorem ax_rs_i {v : ax_V} {kk ks} {r : ax_Fin} (h : ax_rs v kk ks = some r) : (∃ a i, v = .inr (a, i) ∧ kk a i = some r) ∨ (∃ b, v = .inl (.ref b) ∧ ks b = some r) := by
  rcases v with v | ⟨a, i⟩
  · cases v <;> first | exact Or.inr ⟨_, rfl, h⟩ | cases h
  · exact Or.inl ⟨a, i, rfl, h⟩
theorem ax_isr_i {v : ax_V} (h : ax_isr v = true) : v = .inl .null ∨ (∃ b, v = .inl (.ref b)) ∨ ∃ q, v = .inr q := by
  rcases v with v | q
  · cases v <;> first | exact Or.inl rfl | exact Or.inr (Or.inl ⟨_, rfl⟩) | cases h
  · exact Or.inr (Or.inr ⟨q, rfl⟩)
theorem ax_0_i {n : Nat} {a} {r : ax_Fin} (h : ax_0 n a = some r) : n = 0 ∧ a = some r := by
  rcases n with _ | n
  · exact ⟨rfl, h⟩
  · cases h
theorem ax_1_i {n : Nat} {a} {r : ax_Fin} (h : ax_1 n a = some r) : n = 1 ∧ a = some r := by
  rcases n with _ | _ | n
  · cases h
  · exact ⟨rfl, h⟩
  · cases h
theorem ax_2_i {n : Nat} {a} {r : ax_Fin} (h : ax_2 n a = some r) : n = 2 ∧ a = some r := by
  rcases n with _ | _ | _ | n
  · cases h
  · cases h
  · exact ⟨rfl, h⟩
  · cases h
theorem ax_3_i {n : Nat} {a} {r : ax_Fin} (h : ax_3 n a = some r) : 3 ≤ n ∧ a = some r := by
  rcases n with _ | _ | _ | n
  · cases h
  · cases h
  · cases h
  · exact ⟨Nat.le_add_left 3 n, h⟩
theorem ax_nil_i {α : Type} {l : List α} {a} {r : ax_Fin} (h : ax_nil l a = some r) : l = [] ∧ a = some r := by
  cases l with
  | nil => exact ⟨rfl, h⟩
  | cons x t => cases h
theorem ax_bb_i {x : Int32} {a} {r : ax_Fin} (h : ax_bb x a = some r) : (x = 0 ∨ x = 1) ∧ a = some r := by
  unfold ax_bb at h
  by_cases c : x = 0 ∨ x = 1
  · rw [if_pos c] at h; exact ⟨c, h⟩
  · rw [if_neg c] at h; cases h
theorem ax_bd_i {j : Int32} {len : Nat} (hl : len < 2 ^ 31) {kk} {r : ax_Fin} (h : ax_bd j len kk = some r) : vp_in j len ∧ kk j.toNatClampNeg = some r := by
  unfold ax_bd at h
  by_cases c : j < 0 ∨ nI len ≤ j
  · rw [if_pos c] at h; cases h
  · rw [if_neg c] at h
    refine ⟨?_, h⟩
    rcases pk_ix j hl with h1 | h1 | ⟨n, hn, rfl⟩
    · exact absurd (Or.inl h1) c
    · exact absurd (Or.inr h1) c
    · exact vp_in_nI hn hl
theorem ax_ir_i {t : Nat} {x : Int32} {a} {r : ax_Fin} (h : ax_ir t x a = some r) : ((t = 1) ∨ (t = 2 ∧ (x = 0 ∨ x = 1))) ∧ a = some r := by
  rcases t with _ | _ | _ | t
  · cases h
  · exact ⟨Or.inl rfl, h⟩
  · obtain ⟨h1, h2⟩ := ax_bb_i h
    exact ⟨Or.inr ⟨rfl, h1⟩, h2⟩
  · cases h
theorem ax_pf_i {f g ty k i j v kk} {r : ax_Fin} (h : ax_pf f g ty k i j v kk = some r) : (ty = 0 ∧ ∃ y, v = .inl (.int y) ∧ kk (ax_up f k i j y) g = some r) ∨ (ty = 1 ∧ ∃ y, v = .inl (.int y) ∧ (y = 0 ∨ y = 1) ∧ kk (ax_up f k i j y) g = some r) ∨ (ty = 2 ∧ ∃ y, v = .inl (.long y) ∧ kk f (ax_ug g k i j y) = some r) := by
  rcases v with v | q
  · rcases ty with _ | _ | _ | ty
    · cases v <;> first | exact Or.inl ⟨rfl, _, rfl, h⟩ | cases h
    · cases v <;> first | exact Or.inr (Or.inl ⟨rfl, _, rfl, ax_bb_i h⟩) | cases h
    · cases v <;> first | exact Or.inr (Or.inr ⟨rfl, _, rfl, h⟩) | cases h
    · cases v <;> cases h
  · rcases ty with _ | _ | _ | ty <;> cases h
theorem ax_sw_i {l d x kk} {r : ax_Fin} (h : ax_sw l d x kk = some r) : ((∀ q ∈ l, x ≠ q.1) ∧ kk d = some r) ∨ ∃ q ∈ l, x = q.1 ∧ kk q.2 = some r := by
  induction l with
  | nil => exact Or.inl ⟨fun q hq => (by cases hq), h⟩
  | cons q t ih =>
    obtain ⟨c, u⟩ := q
    have h' : (if x = c then kk u else ax_sw t d x kk) = some r := h
    by_cases e : x = c
    · rw [if_pos e] at h'
      exact Or.inr ⟨(c, u), List.mem_cons_self, e, h'⟩
    · rw [if_neg e] at h'
      rcases ih h' with ⟨h1, h2⟩ | ⟨q, hq, h1, h2⟩
      · refine Or.inl ⟨fun q hq => ?_, h2⟩
        rcases List.mem_cons.mp hq with rfl | hq
        · exact e
        · exact h1 q hq
      · exact Or.inr ⟨q, List.mem_cons_of_mem _ hq, h1, h2⟩
theorem ax_pop_i : ∀ (n : Nat) {st as : List ax_V} {kk} {r : ax_Fin}, ax_pop n st as kk = some r → ∃ xs t, st = xs.reverse ++ t ∧ xs.length = n ∧ kk (xs ++ as) t = some r := by
  intro n
  induction n with
  | zero =>
    intro st as kk r h
    refine ⟨[], st, rfl, rfl, ?_⟩
    cases st <;> exact h
  | succ n ih =>
    intro st as kk r h
    cases st with
    | nil => cases h
    | cons v st =>
      obtain ⟨xs, t, rfl, h2, h3⟩ := ih (as := v :: as) h
      refine ⟨xs ++ [v], t, ?_, ?_, ?_⟩
      · rw [List.reverse_append]; rfl
      · rw [List.length_append, h2]; rfl
      · rw [List.append_assoc]; exact h3
theorem ax_cal_i {rt : Nat} {q : Option ax_Fin} {kx rest kk} {r : ax_Fin} (h : ax_cal rt q kx rest kk = some r) : (∃ v f g, q = some (.inl v, f, g) ∧ kk (v.toList ++ rest) f g = some r) ∨ (∃ e f g, q = some (.inr e, f, g) ∧ kx e f g = some r) := by
  rcases q with _ | ⟨(_ | v) | e, f, g⟩
  · rcases rt with _ | _ | _ | _ | _ | rt <;> cases h
  · rcases rt with _ | _ | _ | _ | _ | rt <;> first | exact Or.inl ⟨_, _, _, rfl, h⟩ | cases h
  · rcases v with v | q
    · rcases rt with _ | _ | _ | _ | _ | rt <;> cases v <;> first | exact Or.inl ⟨_, _, _, rfl, h⟩ | cases h
    · rcases rt with _ | _ | _ | _ | _ | rt <;> first | exact Or.inl ⟨_, _, _, rfl, h⟩ | cases h
  · refine Or.inr ⟨e, f, g, rfl, ?_⟩
    rcases rt with _ | _ | _ | _ | _ | rt <;> exact h
/-- locals -/
theorem ax_nth_lt : ∀ (L : ax_L) {i : Nat} {v : ax_V}, ax_nth L i = some v → i < L.length := by
  intro L
  induction L with
  | nil => intro i v h; cases h
  | cons a l ih =>
    intro i v h
    cases i with
    | zero => exact Nat.succ_pos _
    | succ i => exact Nat.succ_lt_succ (ih h)
theorem ax_nth_s1 : ∀ (L : ax_L) (t j : Nat) (v : ax_V), ax_nth (ax_s1 L t v) j = if j = t then (if t < L.length then some v else none) else if j + 1 = t then ax_nl (ax_nth L j) else ax_nth L j := by
  intro L
  induction L with
  | nil =>
    intro t j v
    show none = _
    have e : ax_nl none = none := rfl
    simp [ax_nth, e]
  | cons a l ih =>
    intro t j v
    cases t with
    | zero =>
      cases j with
      | zero => simp [ax_s1, ax_nth]
      | succ j => simp [ax_s1, ax_nth]
    | succ t =>
      cases j with
      | zero =>
        cases t with
        | zero => simp [ax_s1, ax_nth]
        | succ t => simp [ax_s1, ax_nth]; rfl
      | succ j =>
        have := ih t j v
        simp only [ax_s1, ax_nth, this]
        simp
theorem ax_nth_n0 (L : ax_L) (j : Nat) : ax_nth (ax_n0 L) j = if j = 0 then none else ax_nth L j := by
  cases L with
  | nil => simp [ax_n0, ax_nth]
  | cons a l => cases j <;> simp [ax_n0, ax_nth]
theorem ax_nth_s2 : ∀ (L : ax_L) (t j : Nat) (v : ax_V), ax_nth (ax_s2 L t v) j = if j = t then (if t < L.length then some v else none) else if j = t + 1 then none else if j + 1 = t then ax_nl (ax_nth L j) else ax_nth L j := by
  intro L
  induction L with
  | nil =>
    intro t j v
    show none = _
    have e : ax_nl none = none := rfl
    simp [ax_nth, e]
  | cons a l ih =>
    intro t j v
    cases t with
    | zero =>
      cases j with
      | zero => simp [ax_s2, ax_nth]
      | succ j => simp [ax_s2, ax_nth, ax_nth_n0]
    | succ t =>
      cases j with
      | zero =>
        cases t with
        | zero => simp [ax_s2, ax_nth]
        | succ t => simp [ax_s2, ax_nth]; rfl
      | succ j =>
        have := ih t j v
        simp only [ax_s2, ax_nth, this]
        simp
theorem ax_nth_kl : ∀ (L : ax_L) (t j : Nat), ax_nth (ax_kl L t) j = if j = t then none else if j + 1 = t then ax_nl (ax_nth L j) else ax_nth L j := by
  intro L
  induction L with
  | nil =>
    intro t j
    show none = _
    have e : ax_nl none = none := rfl
    simp [ax_nth, e]
  | cons a l ih =>
    intro t j
    cases t with
    | zero => cases j <;> simp [ax_kl, ax_nth]
    | succ t =>
      cases j with
      | zero =>
        cases t with
        | zero => simp [ax_kl, ax_nth]
        | succ t => simp [ax_kl, ax_nth]; rfl
      | succ j =>
        have := ih t j
        simp only [ax_kl, ax_nth, this]
        simp
theorem ax_nth_kill : ∀ (L : ax_L) (n j : Nat) {v : ax_V}, ax_nth (ax_kill n L) j = some v → ax_nth L j = some v := by
  intro L
  induction L with
  | nil => intro n j v h; cases n <;> exact h
  | cons a l ih =>
    intro n j v h
    cases n with
    | zero =>
      cases j with
      | zero => cases h
      | succ j => exact ih 0 j h
    | succ n =>
      cases j with
      | zero => exact h
      | succ j => exact ih n j h
theorem ax_len_kill : ∀ (L : ax_L) (n : Nat), (ax_kill n L).length = L.length := by
  intro L
  induction L with
  | nil => intro n; cases n <;> rfl
  | cons a l ih => intro n; cases n <;> simp [ax_kill, ih]
theorem ax_len_s1 : ∀ (L : ax_L) (t : Nat) (v : ax_V), (ax_s1 L t v).length = L.length := by
  intro L
  induction L with
  | nil => intro t v; rfl
  | cons a l ih => intro t v; cases t <;> simp [ax_s1, ih]
theorem ax_len_s2 : ∀ (L : ax_L) (t : Nat) (v : ax_V), (ax_s2 L t v).length = L.length := by
  intro L
  induction L with
  | nil => intro t v; rfl
  | cons a l ih =>
    intro t v
    cases t with
    | zero => cases l <;> rfl
    | succ t => simp [ax_s2, ih]
theorem ax_len_kl : ∀ (L : ax_L) (t : Nat), (ax_kl L t).length = L.length := by
  intro L
  induction L with
  | nil => intro t; rfl
  | cons a l ih => intro t; cases t <;> simp [ax_kl, ih]
def ax_Ls (base nL : Nat) (L : ax_L) (ls : Array Slot) : Prop := L.length = nL ∧ ls.size = nL ∧ lv_wf ls ∧ ∀ i v, ax_nth L i = some v → ls[i]? = some (.val (ax_c base v))
def ax_lv (base : Nat) (L : ax_L) : List (Nat × Value) := (List.range L.length).filterMap (fun i => (ax_nth L i).map (fun v => (i, ax_c base v)))
theorem ax_lv_in {base : Nat} {L : ax_L} {i : Nat} {v : ax_V} (h : ax_nth L i = some v) : (i, ax_c base v) ∈ ax_lv base L := by
  unfold ax_lv
  rw [List.mem_filterMap]
  exact ⟨i, List.mem_range.mpr (ax_nth_lt L h), by rw [h]; rfl⟩
theorem ax_lv_of {base : Nat} {L : ax_L} {q : Nat × Value} (h : q ∈ ax_lv base L) : ∃ v, ax_nth L q.1 = some v ∧ q.2 = ax_c base v := by
  unfold ax_lv at h
  rw [List.mem_filterMap] at h
  obtain ⟨i, -, h⟩ := h
  cases e : ax_nth L i with
  | none => rw [e] at h; cases h
  | some v =>
    rw [e] at h
    have h2 : (i, ax_c base v) = q := Option.some.inj h
    subst h2
    exact ⟨v, e, rfl⟩
theorem ax_Ls.has {base nL L ls} (h : ax_Ls base nL L ls) : lv_has ls nL (ax_lv base L) := by
  refine ⟨h.2.1, h.2.2.1, fun q hq => ?_⟩
  obtain ⟨v, h1, h2⟩ := ax_lv_of hq
  rw [h2]
  exact h.2.2.2 _ _ h1
theorem ax_two_c (base : Nat) (v : ax_V) : ((ax_c base v).category == 2) = ax_two v := by
  rcases v with v | q
  · cases v <;> rfl
  · rfl
theorem ax_nl_i {a : Option ax_V} {v : ax_V} (h : ax_nl a = some v) : a = some v ∧ ax_two v = false := by
  cases a with
  | none => cases h
  | some w =>
    have h' : (bif ax_two w then none else some w) = some v := h
    cases e : ax_two w with
    | true => rw [e] at h'; cases h'
    | false => rw [e] at h'; cases h'; exact ⟨rfl, e⟩
theorem ax_Ls_s1 {base nL L ls' t} {v : ax_V} (hlen : L.length = nL) (h : lv_has ls' nL ((t, ax_c base v) :: (ax_lv base L).filter (fun q => !(q.1 == t) && !(q.1 + 1 == t && q.2.category == 2)))) : ax_Ls base nL (ax_s1 L t v) ls' := by
  refine ⟨by rw [ax_len_s1]; exact hlen, h.1, h.2.1, fun i w hw => ?_⟩
  rw [ax_nth_s1] at hw
  by_cases e : i = t
  · rw [if_pos e] at hw
    by_cases e2 : t < L.length
    · rw [if_pos e2] at hw
      cases hw
      subst e
      exact h.2.2 (i, ax_c base v) List.mem_cons_self
    · rw [if_neg e2] at hw; cases hw
  · rw [if_neg e] at hw
    refine h.2.2 (i, ax_c base w) (List.mem_cons_of_mem _ (List.mem_filter.mpr ?_))
    by_cases e2 : i + 1 = t
    · rw [if_pos e2] at hw
      obtain ⟨h1, h2⟩ := ax_nl_i hw
      refine ⟨ax_lv_in h1, ?_⟩
      simp [e, ax_two_c, h2]
    · rw [if_neg e2] at hw
      refine ⟨ax_lv_in hw, ?_⟩
      simp [e, e2]
theorem ax_Ls_s2 {base nL L ls' t} {v : ax_V} (hlen : L.length = nL) (h : lv_has ls' nL ((t, ax_c base v) :: (ax_lv base L).filter (fun q => !(q.1 == t) && (!(q.1 == t + 1) && !(q.1 + 1 == t && q.2.category == 2))))) : ax_Ls base nL (ax_s2 L t v) ls' := by
  refine ⟨by rw [ax_len_s2]; exact hlen, h.1, h.2.1, fun i w hw => ?_⟩
  rw [ax_nth_s2] at hw
  by_cases e : i = t
  · rw [if_pos e] at hw
    by_cases e2 : t < L.length
    · rw [if_pos e2] at hw
      cases hw
      subst e
      exact h.2.2 (i, ax_c base v) List.mem_cons_self
    · rw [if_neg e2] at hw; cases hw
  · rw [if_neg e] at hw
    by_cases e3 : i = t + 1
    · rw [if_pos e3] at hw; cases hw
    rw [if_neg e3] at hw
    refine h.2.2 (i, ax_c base w) (List.mem_cons_of_mem _ (List.mem_filter.mpr ?_))
    by_cases e2 : i + 1 = t
    · rw [if_pos e2] at hw
      obtain ⟨h1, h2⟩ := ax_nl_i hw
      refine ⟨ax_lv_in h1, ?_⟩
      simp [e, e3, ax_two_c, h2]
    · rw [if_neg e2] at hw
      refine ⟨ax_lv_in hw, ?_⟩
      simp [e, e2, e3]
theorem ax_Ls_kl {base nL L ls' t} {w : Value} (hlen : L.length = nL) (h : lv_has ls' nL ((t, w) :: (ax_lv base L).filter (fun q => !(q.1 == t) && !(q.1 + 1 == t && q.2.category == 2)))) : ax_Ls base nL (ax_kl L t) ls' := by
  refine ⟨by rw [ax_len_kl]; exact hlen, h.1, h.2.1, fun i v hv => ?_⟩
  rw [ax_nth_kl] at hv
  by_cases e : i = t
  · rw [if_pos e] at hv; cases hv
  · rw [if_neg e] at hv
    refine h.2.2 (i, ax_c base v) (List.mem_cons_of_mem _ (List.mem_filter.mpr ?_))
    by_cases e2 : i + 1 = t
    · rw [if_pos e2] at hv
      obtain ⟨h1, h2⟩ := ax_nl_i hv
      refine ⟨ax_lv_in h1, ?_⟩
      simp [e, ax_two_c, h2]
    · rw [if_neg e2] at hv
      refine ⟨ax_lv_in hv, ?_⟩
      simp [e, e2]
theorem ax_Ls_kill {base nL L ls n} (h : ax_Ls base nL L ls) : ax_Ls base nL (ax_kill n L) ls := ⟨by rw [ax_len_kill]; exact h.1, h.2.1, h.2.2.1, fun i v hv => h.2.2.2 i v (ax_nth_kill L n i hv)⟩
theorem ax_Ls_norm {base nL P pc L ls} (h : ax_Ls base nL L ls) : ax_Ls base nL (ax_norm P pc L) ls := by
  unfold ax_norm
  cases ax_lk (ax_live P) pc with
  | none => exact h
  | some n => exact ax_Ls_kill h
end AXS
