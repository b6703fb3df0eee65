/-! pure lemmas: loops, rows, numbers -/
section AXL
abbrev rI (x : Int32) (f : ax_F) (g : ax_G) : Option ax_Fin := some (.inl (some (.inl (.int x))), f, g)
abbrev rJ (x : Int64) (f : ax_F) (g : ax_G) : Option ax_Fin := some (.inl (some (.inl (.long x))), f, g)
abbrev rD (x : UInt64) (f : ax_F) (g : ax_G) : Option ax_Fin := some (.inl (some (.inl (.double x))), f, g)
abbrev rV (f : ax_F) (g : ax_G) : Option ax_Fin := some (.inl none, f, g)
abbrev rX (e : Nat) (f : ax_F) (g : ax_G) : Option ax_Fin := some (.inr e, f, g)
theorem cali_r (x f g kx kk) : ax_cali (rI x f g) kx kk = kk x f g := rfl
theorem cali_x (e f g kx kk) : ax_cali (rX e f g) kx kk = kx e f g := rfl
theorem calv_r (f g kx kk) : ax_calv (rV f g) kx kk = kk f g := rfl
theorem calv_x (e f g kx kk) : ax_calv (rX e f g) kx kk = kx e f g := rfl
theorem call_r (x f g kx kk) : ax_call (rJ x f g) kx kk = kk x f g := rfl
theorem cald_r (x f g kx kk) : ax_cald (rD x f g) kx kk = kk x f g := rfl
theorem calr_n (f g kx kk) : ax_calr (some (.inl (some (.inl .null)), f, g)) kx kk = kk (.inl .null) f g := rfl
theorem calr_r (q f g kx kk) : ax_calr (some (.inl (some (.inr q)), f, g)) kx kk = kk (.inr q) f g := rfl
/-- n steps -/
def ax_it {α : Type} (n : Nat) (st : Nat → α → α) (a : α) : α := match n with
  | 0 => a
  | n + 1 => st n (ax_it n st a)
theorem ax_it_0 {α : Type} (st : Nat → α → α) (a : α) : ax_it 0 st a = a := rfl
theorem ax_it_s {α : Type} (n : Nat) (st : Nat → α → α) (a : α) : ax_it (n + 1) st a = st n (ax_it n st a) := rfl
theorem ax_lp {α β : Type} (R : Nat → α → β) (st : Nat → α → α) (N : Nat) (a : α) (h : ∀ i, i < N → R i (ax_it i st a) = R (i + 1) (st i (ax_it i st a))) : R 0 a = R N (ax_it N st a) := by
  have key : ∀ k, k ≤ N → R 0 a = R k (ax_it k st a) := by
    intro k
    induction k with
    | zero => intro _; rfl
    | succ k ih => intro hk; rw [ih (by omega), h k (by omega)]; rfl
  exact key N (Nat.le_refl N)
theorem ax_it_inv {α : Type} (I : Nat → α → Prop) (st : Nat → α → α) (N : Nat) (a : α) (h0 : I 0 a) (hs : ∀ i x, i < N → I i x → I (i + 1) (st i x)) : ∀ k, k ≤ N → I k (ax_it k st a) := by
  intro k
  induction k with
  | zero => intro _; exact h0
  | succ k ih => intro hk; exact hs k _ (by omega) (ih (by omega))
theorem ax_it_congr {α : Type} {st st' : Nat → α → α} (N : Nat) (a : α) (h : ∀ i x, i < N → st i x = st' i x) : ax_it N st a = ax_it N st' a := by
  induction N with
  | zero => rfl
  | succ n ih => rw [ax_it_s, ax_it_s, ih (fun i x hi => h i x (by omega)), h n _ (by omega)]
/-- with an invariant -/
theorem ax_it_congrI {α : Type} (I : Nat → α → Prop) {st st' : Nat → α → α} (N : Nat) (a : α) (h0 : I 0 a) (h : ∀ i x, i < N → I i x → st i x = st' i x ∧ I (i + 1) (st i x)) : ax_it N st a = ax_it N st' a ∧ I N (ax_it N st a) := by
  induction N with
  | zero => exact ⟨rfl, h0⟩
  | succ n ih =>
    obtain ⟨e, hi⟩ := ih (fun i x hi => h i x (by omega))
    obtain ⟨a1, a2⟩ := h n _ (Nat.lt_succ_self n) hi
    exact ⟨by rw [ax_it_s, ax_it_s, a1, e], a2⟩
theorem ax_up_ap (f : ax_F) (k i j : Nat) (x : Int32) (k' i' j' : Nat) : ax_up f k i j x k' i' j' = if k' = k ∧ i' = i ∧ j' = j then x else f k' i' j' := rfl
theorem ax_ug_ap (f : ax_G) (k i j : Nat) (x : Int64) (k' i' j' : Nat) : ax_ug f k i j x k' i' j' = if k' = k ∧ i' = i ∧ j' = j then x else f k' i' j' := rfl
theorem upd_ap (f : Nat → Int32) (k : Nat) (x : Int32) (j : Nat) : upd f k x j = if j = k then x else f j := rfl
theorem bd_n {i len : Nat} (h : i < len) (hl : len < 2 ^ 31) (kk) : ax_bd (nI i) len kk = kk i := by
  unfold ax_bd
  rw [if_neg, nI_clamp (Nat.lt_trans h hl)]
  rintro (q | q)
  · exact nI_pos (Nat.lt_trans h hl) q
  · exact nI_ge h hl q
theorem bb_0 (y) : ax_bb 0 y = y := if_pos (Or.inl rfl)
theorem bb_1 (y) : ax_bb 1 y = y := if_pos (Or.inr rfl)
theorem bb_i (c : Prop) [Decidable c] (y) : ax_bb (if c then 1 else 0) y = y := by
  by_cases h : c
  · rw [if_pos h]; exact bb_1 y
  · rw [if_neg h]; exact bb_0 y
theorem bb_of {x : Int32} (h : x = 0 ∨ x = 1) (y) : ax_bb x y = y := if_pos h
theorem one_ne : ¬ (1 : Int32) = 0 := by decide +kernel
theorem b2_eq (c : Prop) [Decidable c] : ((if c then (1 : Int32) else 0) = 0) ↔ ¬ c := by
  by_cases h : c
  · rw [if_pos h]; exact ⟨fun q => absurd q one_ne, fun q => absurd h q⟩
  · rw [if_neg h]; exact ⟨fun _ => h, fun _ => rfl⟩
/-- Int32 order by its integers -/
theorem i_lt (a b : Int32) : a < b ↔ a.toInt < b.toInt := Int32.lt_iff_toInt_lt
theorem i_le (a b : Int32) : a ≤ b ↔ a.toInt ≤ b.toInt := Int32.le_iff_toInt_le
theorem i_eq (a b : Int32) : a = b ↔ a.toInt = b.toInt := ⟨fun h => by rw [h], fun h => Int32.toInt_inj.mp h⟩
theorem nI_lit (n : Nat) : (OfNat.ofNat n : Int32) = nI n := rfl
theorem nI_inj {a b : Nat} (ha : a < 2 ^ 31) (hb : b < 2 ^ 31) (h : nI a = nI b) : a = b := (nI_eq ha hb).mp h
/-- rows replaced -/
def ax_row1 (f : ax_F) (k i : Nat) (F : Nat → Int32) : ax_F := fun k' i' j' => if k' = k ∧ i' = i then F j' else f k' i' j'
theorem row1_ap (f : ax_F) (k i : Nat) (F : Nat → Int32) (k' i' j' : Nat) : ax_row1 f k i F k' i' j' = if k' = k ∧ i' = i then F j' else f k' i' j' := rfl
theorem row1_up (f : ax_F) (k i : Nat) (F : Nat → Int32) (j : Nat) (x : Int32) : ax_up (ax_row1 f k i F) k i j x = ax_row1 f k i (upd F j x) := by
  funext a b c
  simp only [ax_up_ap, row1_ap, upd_ap]
  by_cases h1 : a = k ∧ b = i
  · obtain ⟨rfl, rfl⟩ := h1; by_cases h2 : c = j <;> simp [h2]
  · have : ¬ (a = k ∧ b = i ∧ c = j) := fun q => h1 ⟨q.1, q.2.1⟩
    simp [h1, this]
theorem row1_self (f : ax_F) (k i : Nat) : ax_row1 f k i (f k i) = f := by
  funext a b c
  simp only [row1_ap]
  by_cases h1 : a = k ∧ b = i
  · obtain ⟨rfl, rfl⟩ := h1; simp
  · simp [h1]
/-- a row of the first n places -/
theorem row1_lp (f : ax_F) (k i : Nat) (F : Nat → Int32) (n : Nat) : ax_it n (fun j h => ax_up h k i j (F j)) f = ax_row1 f k i (fun j => if j < n then F j else f k i j) := by
  induction n with
  | zero => rw [ax_it_0]; simp only [Nat.not_lt_zero, if_false]; exact (row1_self f k i).symm
  | succ n ih =>
    rw [ax_it_s, ih, row1_up]
    congr 1
    funext j
    simp only [upd_ap]
    by_cases h : j = n
    · subst h; simp
    · by_cases h2 : j < n
      · have : j < n + 1 := by omega
        simp [h, h2, this]
      · have : ¬ j < n + 1 := by omega
        simp [h, h2, this]
/-- sums -/
def ax_sum (n : Nat) (h : Nat → Int32) : Int32 := ax_it n (fun i a => a + h i) 0
theorem ax_sum_congr {n : Nat} {h h' : Nat → Int32} (e : ∀ i, i < n → h i = h' i) : ax_sum n h = ax_sum n h' := ax_it_congr n 0 (fun i x hi => by rw [e i hi])
theorem ax_it_sum (n : Nat) (h : Nat → Int32) (a : Int32) : ax_it n (fun i a => a + h i) a = a + ax_sum n h := by
  unfold ax_sum
  induction n with
  | zero => rw [ax_it_0, ax_it_0]; exact (Int32.add_zero a).symm
  | succ n ih => rw [ax_it_s, ax_it_s, ih, Int32.add_assoc]
/-- a bit -/
def hs (x v : Int32) : Bool := decide (¬ ((x >>> (v &&& 31)) &&& 1 = 0))
theorem hs_f {x v : Int32} : hs x v = false ↔ (x >>> (v &&& 31)) &&& 1 = 0 := by unfold hs; simp
theorem hs_t {x v : Int32} : hs x v = true ↔ ¬ ((x >>> (v &&& 31)) &&& 1 = 0) := by unfold hs; simp
theorem and1 (x : Int32) : x &&& 1 = 0 ∨ x &&& 1 = 1 := by
  obtain ⟨j, hj, h⟩ := pk_andE x (m := 1) 1 (by decide +kernel)
  rw [h]
  have : j = 0 ∨ j = 1 := by omega
  rcases this with rfl | rfl
  · exact Or.inl rfl
  · exact Or.inr rfl
theorem hs_1 {x v : Int32} : hs x v = true ↔ (x >>> (v &&& 31)) &&& 1 = 1 := by
  rw [hs_t]
  rcases and1 (x >>> (v &&& 31)) with h | h
  · rw [h]; exact ⟨fun q => absurd rfl q, fun q => absurd q.symm one_ne⟩
  · rw [h]; exact ⟨fun _ => rfl, fun _ => one_ne⟩
end AXL
