/-! the world: where each thing lies, what the heap holds of the numbers -/
section AXW
/-- all things, in the order in which they are made -/
def ax_all : List (Nat × Nat) := [(0, 0), (1, 0), (2, 0), (4, 0)] ++ (List.range 12).map (fun i => (3, i)) ++ (List.range 20).flatMap (fun i => [(5, i), (6, i)]) ++ [(7, 0), (8, 0)] ++ (List.range 6).flatMap (fun i => [(9, i), (10, i)]) ++ [(7, 1), (8, 1)] ++ (List.range 6).flatMap (fun i => [(9, 6 + i), (10, 6 + i)]) ++ [(11, 0)] ++ (List.range 4).flatMap (fun i => [(12, i), (13, i)]) ++ [(14, 0), (15, 0), (16, 0), (17, 0), (18, 0), (19, 0)] ++ (List.range 19).map (fun i => (29 + i, 0)) ++ [(49, 0)] ++ (List.range 6).map (fun i => (54 + i, 0)) ++ [(60, 0)]
theorem ax_all_len : ax_all.length = 126 := by decide +kernel
theorem ax_all_idx : ∀ i, i < 126 → ∀ q, ax_all[i]? = some q → ax_all.idxOf q = i := by decide +kernel
def ax_ad (base : Nat) (q : Nat × Nat) : Nat := base + ax_all.idxOf q
def ax_c (base : Nat) (v : ax_V) : Value := match v with
  | .inl x => x
  | .inr q => .ref (ax_ad base q)
def ax_ok (v : ax_V) : Prop := match v with
  | .inl _ => True
  | .inr q => q ∈ ax_all
def ax_A (base : Nat) : Nat → Prop := fun q => base ≤ q
def ax_nf (ci : Nat) : Nat := match ci with
  | 0 => 6 | 1 => 3 | 2 => 4 | 3 => 3 | 4 => 9 | 5 => 5 | 6 => 5 | 7 => 5 | 8 => 6 | 9 => 7 | 10 => 41
  | _ => 0
def ax_row (base : Nat) (f : ax_F) (g : ax_G) (t : Nat) (q : Nat × Nat) : (Nat → Int32) ⊕ (Nat → Int64) ⊕ (Nat → UInt32) ⊕ (Nat → UInt64) ⊕ (Nat → Option Nat) := match t with
  | 0 => .inl (f q.1 q.2)
  | 1 => .inl (f q.1 q.2)
  | 2 => .inr (.inl (g q.1 q.2))
  | _ => .inr (.inr (.inr (.inr (fun j => (ax_r0 q.1 q.2 j).map (ax_ad base)))))
def ax_obj (base : Nat) (f : ax_F) (g : ax_G) (ci : Nat) (q : Nat × Nat) : List Value := (List.range (ax_nf ci)).map (fun j => ax_c base (ax_fv f g (ax_ft ci j) q.1 q.2 j))
def ax_cell (base : Nat) (cA : Nat → ClassId) (f : ax_F) (g : ax_G) (q : Nat × Nat) : va_E := match ax_ka q.1 with
  | some (t, n) => .inl (cA t, n, ax_row base f g t q)
  | none => .inr ((ax_kc q.1).getD 0, ax_obj base f g ((ax_kc q.1).getD 0) q)
def ax_ws (base : Nat) (cA : Nat → ClassId) (f : ax_F) (g : ax_G) : va_W := ax_all.map (fun q => (ax_ad base q, ax_cell base cA f g q))
theorem ax_mem_idx : ∀ (l : List (Nat × Nat)) (q : Nat × Nat), q ∈ l → l[l.idxOf q]? = some q := by
  intro l
  induction l with
  | nil => intro q h; cases h
  | cons a l ih =>
    intro q h
    rw [List.idxOf_cons]
    by_cases e : a == q
    · rw [e]
      have : a = q := by simpa using e
      subst this
      rfl
    · have hne : ¬ a = q := by simpa using e
      have e' : (a == q) = false := by simpa using e
      rw [e']
      rcases List.mem_cons.mp h with h | h
      · exact absurd h.symm hne
      · exact ih q h
theorem ax_ws_get (base cA f g) {q : Nat × Nat} (h : q ∈ ax_all) : (ax_ws base cA f g)[ax_all.idxOf q]? = some (ax_ad base q, ax_cell base cA f g q) := by
  unfold ax_ws
  rw [List.getElem?_map, ax_mem_idx _ _ h]
  rfl
theorem ax_ws_inv (base cA f g) {i : Nat} {p : Nat × va_E} (h : (ax_ws base cA f g)[i]? = some p) : ∃ q, q ∈ ax_all ∧ ax_all[i]? = some q ∧ p = (base + i, ax_cell base cA f g q) := by
  unfold ax_ws at h
  rw [List.getElem?_map] at h
  cases e : ax_all[i]? with
  | none => rw [e] at h; cases h
  | some q =>
    rw [e] at h
    have hi : i < 126 := by
      have := (List.getElem?_eq_some_iff.mp e).1
      rw [ax_all_len] at this
      exact this
    refine ⟨q, List.mem_of_getElem? e, rfl, ?_⟩
    have h2 : (ax_ad base q, ax_cell base cA f g q) = p := Option.some.inj h
    rw [← h2]
    unfold ax_ad
    rw [ax_all_idx i hi q e]
theorem ax_ws_D (base cA f g) : va_D (ax_A base) (ax_ws base cA f g) := by
  refine ⟨fun i j p q hp hq e => ?_, fun k q h => ?_⟩
  · obtain ⟨a, -, -, rfl⟩ := ax_ws_inv base cA f g hp
    obtain ⟨b, -, -, rfl⟩ := ax_ws_inv base cA f g hq
    have : base + i = base + j := e
    omega
  · obtain ⟨a, -, -, rfl⟩ := ax_ws_inv base cA f g h
    exact Nat.le_add_right _ _
/-- one thing has changed -/
theorem ax_ws_set (base cA f g f' g') {q : Nat × Nat} (hq : q ∈ ax_all) (ho : ∀ q', q' ≠ q → ax_cell base cA f' g' q' = ax_cell base cA f g q') : (ax_ws base cA f g).set (ax_all.idxOf q) (ax_ad base q, ax_cell base cA f' g' q) = ax_ws base cA f' g' := by
  apply List.ext_getElem?
  intro i
  rw [List.getElem?_set]
  have hl : ax_all.idxOf q < (ax_ws base cA f g).length := by
    unfold ax_ws
    rw [List.length_map]
    exact List.idxOf_lt_length_iff.mpr hq
  by_cases e : ax_all.idxOf q = i
  · rw [if_pos e, if_pos (e ▸ hl), ← e, ax_ws_get base cA f' g' hq]
  · rw [if_neg e]
    unfold ax_ws
    rw [List.getElem?_map, List.getElem?_map]
    cases h : ax_all[i]? with
    | none => rfl
    | some q' =>
      have hi : i < 126 := by
        have := (List.getElem?_eq_some_iff.mp h).1
        rw [ax_all_len] at this
        exact this
      have hne : q' ≠ q := fun c => e (by rw [← c]; exact ax_all_idx i hi q' h)
      show some (ax_ad base q', ax_cell base cA f g q') = some (ax_ad base q', ax_cell base cA f' g' q')
      rw [ho q' hne]
theorem ax_up_o (f : ax_F) {k i j : Nat} {x : Int32} {k' i' : Nat} (h : (k', i') ≠ (k, i)) : (ax_up f k i j x) k' i' = f k' i' := by
  funext j'
  unfold ax_up
  rw [if_neg]
  rintro ⟨rfl, rfl, -⟩
  exact h rfl
theorem ax_ug_o (g : ax_G) {k i j : Nat} {x : Int64} {k' i' : Nat} (h : (k', i') ≠ (k, i)) : (ax_ug g k i j x) k' i' = g k' i' := by
  funext j'
  unfold ax_ug
  rw [if_neg]
  rintro ⟨rfl, rfl, -⟩
  exact h rfl
theorem ax_cell_c (base cA f g f' g') {q : Nat × Nat} (hf : f' q.1 q.2 = f q.1 q.2) (hg : g' q.1 q.2 = g q.1 q.2) : ax_cell base cA f' g' q = ax_cell base cA f g q := by
  unfold ax_cell ax_row ax_obj ax_fv
  rw [hf, hg]
theorem ax_cell_f (base cA f g) {k i j : Nat} {x : Int32} : ∀ q', q' ≠ (k, i) → ax_cell base cA (ax_up f k i j x) g q' = ax_cell base cA f g q' := fun q' h => ax_cell_c base cA f g _ _ (ax_up_o f h) rfl
theorem ax_cell_g (base cA f g) {k i j : Nat} {x : Int64} : ∀ q', q' ≠ (k, i) → ax_cell base cA f (ax_ug g k i j x) q' = ax_cell base cA f g q' := fun q' h => ax_cell_c base cA f g _ _ rfl (ax_ug_o g h)
/-- array classes -/
def ax_tys (cA : Nat → ClassId) : List (ClassId × FieldType) := [(cA 0, .int), (cA 1, .boolean), (cA 2, .long), (cA 3, .object RX6), (cA 4, .object RX2), (cA 5, .object RX4), (cA 6, .object RX1)]
def ax_Z (base : Nat) (U : State) (H : Heap) : Prop := vx_Zq Bundle.tN "UNASSIGNED_STACK" Bundle.steD (ax_A base) U H ∧ vx_Zq Bundle.tN "SUPPRESSED_SENTINEL" Bundle.listD (ax_A base) U H
/-- exceptions, by number -/
def ax_en (e : Nat) : String := match e with
  | 1 => "java/lang/IllegalArgumentException"
  | 2 => "java/lang/IllegalStateException"
  | _ => "java/lang/IndexOutOfBoundsException"
def ax_Y (sts : List (String × Nat × String)) (nes : List (String × Nat × MethodName × String)) (U : State) : Prop :=
  (∀ q ∈ sts, ∃ sa, vk_R q.1 q.2.1 q.2.2 sa U) ∧ (∀ q ∈ nes, va_Nw (.methodLinkNest q.1 q.2.1 q.2.2.1 q.2.2.2) U) ∧ (∀ a b, Cond.castable a b ∈ lw_tbl → va_Nw (.castable a b) U) ∧ (∀ a b, ax_en a ≠ ax_en b → va_Nc (ax_en a) (ax_en b) U) ∧ ∀ x, Cond.declares x ∈ lw_tbl → va_Nw (.declares x) U
theorem ax_Y.warm {sts nes} {s U : State} (hW : s.WarmedH U.vm) (h : ax_Y sts nes s) : ax_Y sts nes U := by
  obtain ⟨h1, h2, h3, h4, h5⟩ := h
  refine ⟨fun q hq => ?_, fun q hq => (h2 q hq).warmM hW, fun a b hab => (h3 a b hab).warmC hW, fun a b hab => (h4 a b hab).moved hW.alike, fun x hx => (h5 x hx).warmD hW⟩
  obtain ⟨sa, h⟩ := h1 q hq
  exact ⟨sa, h.warm hW⟩
theorem ax_Y.same {sts nes} {s U : State} (hv : U.vm = s.vm) (h : ax_Y sts nes s) : ax_Y sts nes U := by
  obtain ⟨h1, h2, h3, h4, h5⟩ := h
  refine ⟨fun q hq => ?_, fun q hq => (h2 q hq).same rfl hv.symm, fun a b hab => (h3 a b hab).same rfl hv.symm, fun a b hab => (h4 a b hab).moved (by rw [hv]; exact Vm.Alike.refl _), fun x hx => (h5 x hx).same rfl hv.symm⟩
  obtain ⟨sa, h⟩ := h1 q hq
  exact ⟨sa, h.same hv⟩
theorem ax_cast1 : Cond.castable (ax_en 1) (ax_en 1) ∈ lw_tbl := by decide +kernel
theorem ax_cast2 : Cond.castable (ax_en 2) (ax_en 2) ∈ lw_tbl := by decide +kernel
theorem ax_cast3 : Cond.castable (ax_en 3) (ax_en 3) ∈ lw_tbl := by decide +kernel
theorem ax_cast (a : Nat) : Cond.castable (ax_en a) (ax_en a) ∈ lw_tbl := by
  match a with
  | 0 => exact ax_cast3
  | 1 => exact ax_cast1
  | 2 => exact ax_cast2
  | n + 3 => exact ax_cast3
end AXW
