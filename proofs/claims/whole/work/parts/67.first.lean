/-! the first world: what the constructors leave -/
section BXE
def f0 : ax_F := fun k _ j => if k = 1 ∧ j = 2 then 1 else if k = 1 ∧ j = 5 then 60 else if k = 19 ∧ j = 1 then 1 else if k = 19 ∧ j = 7 then 60 else 0
def g0 : ax_G := fun _ _ _ => 0
def bx_exp (q : Nat × Nat) : bx_C := match ax_ka q.1 with
  | some (t, n) => .inl (t, n, match Nat.ble t 2 with | true => [] | false => (List.range n).map (fun j => ax_r0 q.1 q.2 j))
  | none => .inr ((ax_kc q.1).getD 0, (List.range (ax_nf ((ax_kc q.1).getD 0))).map (fun j => ax_fv f0 g0 (ax_ft ((ax_kc q.1).getD 0) j) q.1 q.2 j))
def eqV (a b : ax_V) : Bool := match a, b with
  | .inl (.int x), .inl (.int y) => decide (x = y)
  | .inl (.long x), .inl (.long y) => decide (x = y)
  | .inl .null, .inl .null => true
  | .inr x, .inr y => decide (x = y)
  | _, _ => false
theorem eqV_i {a b : ax_V} (h : eqV a b = true) : a = b := by
  unfold eqV at h
  split at h
  · rw [of_decide_eq_true h]
  · rw [of_decide_eq_true h]
  · rfl
  · rw [of_decide_eq_true h]
  · cases h
def eqL {α : Type} (f : α → α → Bool) : List α → List α → Bool
  | [], [] => true
  | a :: l, b :: r => f a b && eqL f l r
  | _, _ => false
theorem eqL_i {α : Type} {f : α → α → Bool} (hf : ∀ a b, f a b = true → a = b) : ∀ (l r : List α), eqL f l r = true → l = r := by
  intro l
  induction l with
  | nil => intro r h; cases r with
    | nil => rfl
    | cons b r => cases h
  | cons a l ih => intro r h; cases r with
    | nil => cases h
    | cons b r =>
      have h : (f a b && eqL f l r) = true := h
      rw [Bool.and_eq_true] at h
      rw [hf a b h.1, ih r h.2]
def eqC (a b : bx_C) : Bool := match a, b with
  | .inl (t, n, l), .inl (t', n', l') => decide (t = t') && (decide (n = n') && decide (l = l'))
  | .inr (c, f), .inr (c', f') => decide (c = c') && eqL eqV f f'
  | _, _ => false
theorem eqC_i {a b : bx_C} (h : eqC a b = true) : a = b := by
  unfold eqC at h
  split at h
  · simp only [Bool.and_eq_true, decide_eq_true_eq] at h
    rw [h.1, h.2.1, h.2.2]
  · simp only [Bool.and_eq_true, decide_eq_true_eq] at h
    rw [h.1, eqL_i (fun _ _ => eqV_i) _ _ h.2]
  · cases h
def eqO (a : Option (List bx_C)) (b : List bx_C) : Bool := match a with
  | some w => eqL eqC w b
  | none => false
theorem eqO_i {a : Option (List bx_C)} {b : List bx_C} (h : eqO a b = true) : a = some b := by
  cases a with
  | none => cases h
  | some w => rw [eqL_i (fun _ _ => eqC_i) w b h]
def W98 : List bx_C := (ax_all.take 98).map bx_exp
def W125 : List bx_C := (ax_all.take 125).map bx_exp
set_option maxRecDepth 100000 in
theorem wf_9 : m_X9 [.inr (0, 0)] [.inr (9, bx_def 9)] = some W98 := eqO_i (by decide +kernel)
set_option maxRecDepth 100000 in
theorem wf_10 : m_X10 [.inr (19, 0)] (W98 ++ [.inr (10, bx_def 10)]) = some W125 := eqO_i (by decide +kernel)
theorem wl_98 : W98.length = 98 := by decide +kernel
theorem wl_125 : W125.length = 125 := by decide +kernel
theorem wf_all : W125 ++ [.inl (2, 1, [])] = ax_all.map bx_exp := eqL_i (fun _ _ => eqC_i) _ _ (by decide +kernel)
theorem f0_arr {k : Nat} (h : ax_ka k ≠ none) (i : Nat) : f0 k i = fun _ => 0 := by
  have h1 : k ≠ 1 := fun z => h (by rw [z]; rfl)
  have h19 : k ≠ 19 := fun z => h (by rw [z]; rfl)
  funext j
  unfold f0
  simp [h1, h19]
theorem arrV_congr (cI : ClassId) (N : Nat) {f f' : Nat → Value} (h : ∀ j, j < N → f j = f' j) : arrV cI N f = arrV cI N f' := by
  unfold arrV
  have : (fun j : Fin N => f j.val) = (fun j : Fin N => f' j.val) := by
    funext j
    exact h j.val j.isLt
  rw [this]
theorem bx_first {base : Nat} {D : va_G} {cA : Nat → ClassId} {H : Heap} (hP : va_P D vwCl (bx_w base cA (ax_all.map bx_exp)) H) : va_P D vwCl (ax_ws base cA f0 g0) H := by
  intro k p hp
  obtain ⟨q, hq, hk, rfl⟩ := ax_ws_inv base cA f0 g0 hp
  have h1 := hP k _ (bx_w_get (c := bx_exp q) (by rw [List.getElem?_map, hk]; rfl))
  cases e : ax_ka q.1 with
  | none =>
    have e1 : bx_c base cA (bx_exp q) = ax_cell base cA f0 g0 q := by
      unfold bx_exp ax_cell ax_obj
      rw [e]
      show (.inr (_, List.map _ (List.map _ _)) : va_E) = .inr (_, _)
      rw [List.map_map]
      rfl
    rw [← e1]
    exact h1
  | some tn =>
    obtain ⟨t, n⟩ := tn
    have e2 : ax_cell base cA f0 g0 q = .inl (cA t, n, ax_row base f0 g0 t q) := by
      unfold ax_cell
      rw [e]
    rw [e2]
    show H[base + k]? = some (vp_cell (cA t) (n, ax_row base f0 g0 t q))
    have e3 : bx_exp q = .inl (t, n, match Nat.ble t 2 with | true => [] | false => (List.range n).map (fun j => ax_r0 q.1 q.2 j)) := by
      unfold bx_exp
      rw [e]
    rw [e3] at h1
    have h1 : H[base + k]? = some (vp_cell (cA t) (n, bx_row base t (match Nat.ble t 2 with | true => [] | false => (List.range n).map (fun j => ax_r0 q.1 q.2 j)))) := h1
    rw [h1]
    have hf := f0_arr (k := q.1) (by rw [e]; exact fun z => by cases z) q.2
    match t with
    | 0 => show some (vp_cell _ (n, .inl (fun _ => 0))) = some (vp_cell _ (n, .inl (f0 q.1 q.2))); rw [hf]
    | 1 => show some (vp_cell _ (n, .inl (fun _ => 0))) = some (vp_cell _ (n, .inl (f0 q.1 q.2))); rw [hf]
    | 2 => rfl
    | t + 3 =>
      show some (arrV _ n (fun j => va_rf ((((List.range n).map (fun j => ax_r0 q.1 q.2 j)).getD j none).map (ax_ad base)))) = some (arrV _ n (fun j => va_rf ((ax_r0 q.1 q.2 j).map (ax_ad base))))
      rw [arrV_congr]
      intro j hj
      rw [List.getD_eq_getElem?_getD, List.getElem?_map, List.getElem?_range hj]
      rfl
/-- the relation holds at the start -/
def E0 : Ev := (fun _ => 0, fun _ => 0, fun _ _ => 0, fun _ => 0, fun _ => 0, fun _ => 0, fun _ => 0, fun _ => none, fun _ => false, 0, 0, 0)
def S0 : St := (fun _ => 0, fun _ => false, fun _ _ => 0, 0, 0)
def R0 : Rt := (1, 60, fun _ => 0, fun _ => 0, fun _ => 0, fun _ => 0, fun _ => 0, 0, fun _ => 0, fun _ => 0, fun _ _ => 0, 0, fun _ => 0)
theorem Inv_0 : Inv 0 f0 := by
  have z : ∀ {n : Nat} {p : Prop}, n < 0 → p := fun h => absurd h (Nat.not_lt_zero _)
  have zj : ∀ {j : Nat} {p : Prop}, 0 < j → j ≤ 0 → p := fun h1 h2 => absurd h1 (Nat.not_lt.mpr h2)
  have hz : ∀ k i j, k ≠ 1 → k ≠ 19 → f0 k i j = 0 := fun k i j h1 h2 => by unfold f0; simp [h1, h2]
  refine ⟨E0, S0, R0, ⟨⟨by decide, by decide, by decide, fun m hm => z hm, fun j p => ⟨0, by decide, rfl⟩⟩, ⟨fun m hm => z hm, fun m hm => z hm, fun m hm => z hm, by decide⟩, ⟨by decide, fun p hp => z hp, fun j h1 h2 => zj h1 h2, ⟨by decide, fun c hc => z hc⟩, by decide, fun i hi => z hi⟩, ⟨⟨rfl, rfl, fun p hp => z hp, fun j p hj hp => ?_⟩, ⟨rfl, fun m hm => z hm⟩, rfl, rfl, fun m hm => z hm⟩, ⟨⟨rfl, rfl, fun p hp => z hp, fun j p hj hp => ?_, fun p hp => rfl⟩, ⟨rfl, fun m hm => z hm⟩, rfl, rfl, fun m hm => z hm⟩, ⟨rfl, rfl, fun p hp => z hp, fun j h1 h2 => zj h1 h2, ⟨rfl, fun c hc => z hc⟩, rfl, fun i hi => z hi⟩, ⟨rfl, rfl, fun p hp => z hp, fun j h1 h2 => zj h1 h2, ⟨rfl, fun c hc => z hc⟩, rfl, fun i hi => z hi, fun m hm => Or.inl (hz 43 0 m (by decide) (by decide))⟩⟩, by decide⟩
  · have h0 : j = 0 := Nat.le_zero.mp hj
    subst h0
    rfl
  · exact hz 35 0 _ (by decide) (by decide)
end BXE
