/-! the text: one reader for both -/
section AYM
/-- place, number, section, size, needs, highest + 1 -/
abbrev Qs : Type := Nat × Nat × Int32 × Nat × Int32 × Nat
def qP (Q : Qs) : Nat := Q.1
def qN (Q : Qs) : Nat := Q.2.1
def qA (Q : Qs) : Int32 := Q.2.2.1
def qB (Q : Qs) : Nat := Q.2.2.2.1
def qC (Q : Qs) : Int32 := Q.2.2.2.2.1
def qH (Q : Qs) : Nat := Q.2.2.2.2.2
def qEnd (Q : Qs) : Bool := decide (qP Q = 3 ∨ qP Q = 4 ∨ qP Q = 6)
def pst (ns : Nat) (Q : Qs) (v : Nat) : Option Qs :=
  if v = 59 ∧ qEnd Q = true then some (0, qN Q + 1, 0, 0, 0, 0)
  else if qP Q = 0 then (if 48 ≤ v ∧ v < 48 + ns ∧ qN Q < 12 then some (1, qN Q, nI (v - 48), 0, 0, 0) else none)
  else if qP Q = 1 then (if v = 58 then some (2, qN Q, qA Q, qB Q, qC Q, qH Q) else none)
  else if qP Q = 2 then (if 49 ≤ v ∧ v ≤ 57 then some (3, qN Q, qA Q, v - 48, qC Q, qH Q) else none)
  else if qP Q = 3 then (if 48 ≤ v ∧ v ≤ 57 then some (4, qN Q, qA Q, 10 * qB Q + (v - 48), qC Q, qH Q) else if v = 43 then some (5, qN Q, qA Q, qB Q, qC Q, qH Q) else none)
  else if qP Q = 4 then (if v = 43 then some (5, qN Q, qA Q, qB Q, qC Q, qH Q) else none)
  else (if 97 ≤ v ∧ v - 97 < qN Q ∧ qH Q ≤ v - 97 then some (6, qN Q, qA Q, qB Q, qC Q ||| ((1 : Int32) <<< (nI (v - 97) &&& 31)), v - 97 + 1) else none)
/-- well made -/
def QW (ns : Nat) (Q : Qs) : Prop := qP Q ≤ 6 ∧ qN Q ≤ 12 ∧ (qP Q ≠ 0 → qN Q < 12) ∧ (qP Q ≤ 2 → qB Q = 0) ∧ (qP Q = 3 → 1 ≤ qB Q ∧ qB Q ≤ 9) ∧ (qP Q = 4 → 10 ≤ qB Q ∧ qB Q ≤ 99) ∧ (5 ≤ qP Q → 1 ≤ qB Q ∧ qB Q ≤ 99) ∧ (qP Q ≤ 5 → qH Q = 0) ∧ (qP Q = 6 → 0 < qH Q) ∧ qH Q ≤ qN Q ∧ (∀ k, k < 32 → qH Q ≤ k → bt (qC Q) k = false) ∧ (0 < qH Q → bt (qC Q) (qH Q - 1) = true) ∧ (qP Q = 0 ∨ ∃ a, a < ns ∧ qA Q = nI a)
theorem QW_0 {ns n : Nat} (hn : n ≤ 12) : QW ns (0, n, 0, 0, 0, 0) := ⟨Nat.le_of_ble_eq_true rfl, hn, fun q => absurd rfl q, fun _ => rfl, fun q => absurd q (show ¬ 0 = 3 by decide), fun q => absurd q (show ¬ 0 = 4 by decide), fun q => absurd q (show ¬ 5 ≤ 0 by decide), fun _ => rfl, fun q => absurd q (show ¬ 0 = 6 by decide), Nat.zero_le _, fun k _ _ => b_0 k, fun q => absurd q (show ¬ 0 < 0 by decide), Or.inl rfl⟩
theorem QW_s {ns : Nat} {Q Q' : Qs} {v : Nat} (h : QW ns Q) (e : pst ns Q v = some Q') : QW ns Q' := by
  obtain ⟨w1, w2, w3, w4, w5, w6, w7, w8, w9, w10, w11, w12, w13⟩ := h
  unfold pst at e
  by_cases c0 : v = 59 ∧ qEnd Q = true
  · rw [if_pos c0] at e
    cases e
    have : qP Q ≠ 0 := by
      intro z
      have := c0.2
      unfold qEnd at this
      rw [decide_eq_true_eq] at this
      omega
    exact QW_0 (w3 this)
  rw [if_neg c0] at e
  by_cases p0 : qP Q = 0
  · rw [if_pos p0] at e
    by_cases q : 48 ≤ v ∧ v < 48 + ns ∧ qN Q < 12
    · rw [if_pos q] at e
      cases e
      exact ⟨Nat.le_of_ble_eq_true rfl, w2, fun _ => q.2.2, fun _ => rfl, fun q => absurd q (show ¬ 1 = 3 by decide), fun q => absurd q (show ¬ 1 = 4 by decide), fun q => absurd q (show ¬ 5 ≤ 1 by decide), fun _ => rfl, fun q => absurd q (show ¬ 1 = 6 by decide), Nat.zero_le _, fun k _ _ => b_0 k, fun q => absurd q (show ¬ 0 < 0 by decide), Or.inr ⟨v - 48, by omega, rfl⟩⟩
    · rw [if_neg q] at e; cases e
  rw [if_neg p0] at e
  have w13' := w13.resolve_left p0
  by_cases p1 : qP Q = 1
  · rw [if_pos p1] at e
    by_cases q : v = 58
    · rw [if_pos q] at e
      cases e
      exact ⟨Nat.le_of_ble_eq_true rfl, w2, fun _ => w3 p0, fun _ => w4 (by omega), fun q => absurd q (show ¬ 2 = 3 by decide), fun q => absurd q (show ¬ 2 = 4 by decide), fun q => absurd q (show ¬ 5 ≤ 2 by decide), fun _ => w8 (by omega), fun q => absurd q (show ¬ 2 = 6 by decide), w10, w11, w12, Or.inr w13'⟩
    · rw [if_neg q] at e; cases e
  rw [if_neg p1] at e
  by_cases p2 : qP Q = 2
  · rw [if_pos p2] at e
    by_cases q : 49 ≤ v ∧ v ≤ 57
    · rw [if_pos q] at e
      cases e
      exact ⟨Nat.le_of_ble_eq_true rfl, w2, fun _ => w3 p0, fun q => absurd q (show ¬ 3 ≤ 2 by decide), fun _ => ⟨show 1 ≤ v - 48 by omega, show v - 48 ≤ 9 by omega⟩, fun q => absurd q (show ¬ 3 = 4 by decide), fun q => absurd q (show ¬ 5 ≤ 3 by decide), fun _ => w8 (by omega), fun q => absurd q (show ¬ 3 = 6 by decide), w10, w11, w12, Or.inr w13'⟩
    · rw [if_neg q] at e; cases e
  rw [if_neg p2] at e
  by_cases p3 : qP Q = 3
  · rw [if_pos p3] at e
    by_cases q : 48 ≤ v ∧ v ≤ 57
    · rw [if_pos q] at e
      cases e
      have := w5 p3
      exact ⟨Nat.le_of_ble_eq_true rfl, w2, fun _ => w3 p0, fun q => absurd q (show ¬ 4 ≤ 2 by decide), fun q => absurd q (show ¬ 4 = 3 by decide), fun _ => ⟨show 10 ≤ 10 * qB Q + (v - 48) by omega, show 10 * qB Q + (v - 48) ≤ 99 by omega⟩, fun q => absurd q (show ¬ 5 ≤ 4 by decide), fun _ => w8 (by omega), fun q => absurd q (show ¬ 4 = 6 by decide), w10, w11, w12, Or.inr w13'⟩
    · rw [if_neg q] at e
      by_cases q2 : v = 43
      · rw [if_pos q2] at e
        cases e
        have := w5 p3
        exact ⟨Nat.le_of_ble_eq_true rfl, w2, fun _ => w3 p0, fun q => absurd q (show ¬ 5 ≤ 2 by decide), fun q => absurd q (show ¬ 5 = 3 by decide), fun q => absurd q (show ¬ 5 = 4 by decide), fun _ => ⟨show 1 ≤ qB Q by omega, show qB Q ≤ 99 by omega⟩, fun _ => w8 (by omega), fun q => absurd q (show ¬ 5 = 6 by decide), w10, w11, w12, Or.inr w13'⟩
      · rw [if_neg q2] at e; cases e
  rw [if_neg p3] at e
  by_cases p4 : qP Q = 4
  · rw [if_pos p4] at e
    by_cases q2 : v = 43
    · rw [if_pos q2] at e
      cases e
      have := w6 p4
      exact ⟨Nat.le_of_ble_eq_true rfl, w2, fun _ => w3 p0, fun q => absurd q (show ¬ 5 ≤ 2 by decide), fun q => absurd q (show ¬ 5 = 3 by decide), fun q => absurd q (show ¬ 5 = 4 by decide), fun _ => ⟨show 1 ≤ qB Q by omega, show qB Q ≤ 99 by omega⟩, fun _ => w8 (by omega), fun q => absurd q (show ¬ 5 = 6 by decide), w10, w11, w12, Or.inr w13'⟩
    · rw [if_neg q2] at e; cases e
  rw [if_neg p4] at e
  by_cases q : 97 ≤ v ∧ v - 97 < qN Q ∧ qH Q ≤ v - 97
  · rw [if_pos q] at e
    cases e
    refine ⟨Nat.le_of_ble_eq_true rfl, w2, fun _ => w3 p0, fun q => absurd q (show ¬ 6 ≤ 2 by decide), fun q => absurd q (show ¬ 6 = 3 by decide), fun q => absurd q (show ¬ 6 = 4 by decide), fun _ => w7 (by omega), fun q => absurd q (show ¬ 6 ≤ 5 by decide), fun _ => Nat.succ_pos _, q.2.1, fun k h1 h2 => ?_, fun _ => ?_, Or.inr w13'⟩
    · show bt (qC Q ||| _) k = false
      have h2' : v - 97 + 1 ≤ k := h2
      rw [b_or, w11 k h1 (by omega), bit_bt (by omega), decide_eq_false (by omega)]
      rfl
    · show bt (qC Q ||| _) (v - 97 + 1 - 1) = true
      rw [b_or, bit_bt (by omega), decide_eq_true (by omega), Bool.or_true]
  · rw [if_neg q] at e; cases e
/-- the class's reader -/
def CQ (ns : Nat) (Q : Qs) (f : ax_F) : Prop := f 18 0 3 = nI (qP Q) ∧ f 18 0 5 = nI (qN Q) ∧ f 18 0 0 = qA Q ∧ f 18 0 1 = nI (qB Q) ∧ f 18 0 2 = qC Q ∧ f 18 0 4 = nI ns
def F18 (f f' : ax_F) : Prop := ∀ k i j, k ≠ 18 → f' k i j = f k i j
theorem F18.up {f : ax_F} (j : Nat) (x : Int32) : F18 f (ax_up f 18 0 j x) := fun k i j' h => upn (by omega)
theorem F18.trans {f f1 f2} (h : F18 f f1) (h2 : F18 f1 f2) : F18 f f2 := fun k i j q => (h2 k i j q).trans (h k i j q)
theorem x8_mayEnd (f g) {ns Q} (h : CQ ns Q f) (hw : QW ns Q) : s_X8_mayEnd [.inr (18, 0)] f g = rI (b2 (qEnd Q)) f g := by
  have h6 := hw.1
  rw [e_X8_mayEnd, g_X8_mayEnd_0, h.1]
  unfold qEnd
  rw [b2_d]
  by_cases c3 : qP Q = 3
  · rw [c3, if_pos (show nI 3 = 3 from rfl), if_pos (Or.inl rfl)]
  rw [if_neg (nI_neL 3 c3 (by omega) (by decide))]
  by_cases c4 : qP Q = 4
  · rw [c4, if_pos (show nI 4 = 4 from rfl), if_pos (Or.inr (Or.inl rfl))]
  rw [if_neg (nI_neL 4 c4 (by omega) (by decide))]
  by_cases c6 : qP Q = 6
  · rw [c6, if_pos (show nI 6 = 6 from rfl), if_pos (Or.inr (Or.inr rfl))]
  rw [if_neg (nI_neL 6 c6 (by omega) (by decide)), if_neg (by omega)]
end AYM
