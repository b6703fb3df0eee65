/-! the reference takes a character -/
section AYP
def mph (p : Nat) : Nat := if p = 0 then 0 else if p = 1 then 1 else if p ≤ 4 then 2 else 3
def hiI (h : Nat) : Int32 := if h = 0 then -1 else nI (h - 1)
def TQ (ns np it : Nat) (Q : Qs) (f : ax_F) : Prop := f 19 0 33 = nI it ∧ qN Q = np + it ∧ f 19 0 2 = nI np ∧ f 19 0 1 = nI ns ∧ f 19 0 30 = nI (mph (qP Q)) ∧ (qP Q ≠ 0 → f 19 0 31 = nI (qB Q) ∧ f 19 0 32 = hiI (qH Q) ∧ f 54 0 it = qA Q ∧ f 56 0 it = qC Q)
/-- what taking a character may change -/
def FT (it : Nat) (f f' : ax_F) : Prop := ∀ k i j, ¬ (k = 19 ∧ i = 0 ∧ 30 ≤ j ∧ j ≤ 33) → ¬ ((k = 54 ∨ k = 55 ∨ k = 56) ∧ i = 0 ∧ j = it) → f' k i j = f k i j
theorem x10_mayEnd (f g) {ns np it Q} (h : TQ ns np it Q f) (hw : QW ns Q) : s_X10_mayEnd [.inr (19, 0)] f g = rI (b2 (qEnd Q)) f g := by
  obtain ⟨w1, w2, w3, w4, w5, w6, w7, w8, w9, w10, w11, w12, w13⟩ := hw
  obtain ⟨h1, h2, h3, h4, h5, h6⟩ := h
  rw [e_X10_mayEnd, g_X10_mayEnd_0, h5]
  unfold qEnd
  rw [b2_d]
  have n23 : ¬ nI 2 = (3 : Int32) := by decide +kernel
  by_cases p0 : qP Q = 0
  · rw [p0, show mph 0 = 0 from rfl, if_neg (show ¬ nI 0 = (2 : Int32) by decide +kernel), if_neg (show ¬ nI 0 = (3 : Int32) by decide +kernel), if_neg (by omega)]
  obtain ⟨g1, g2, g3, g4⟩ := h6 p0
  by_cases p1 : qP Q = 1
  · rw [p1, show mph 1 = 1 from rfl, if_neg (show ¬ nI 1 = (2 : Int32) by decide +kernel), if_neg (show ¬ nI 1 = (3 : Int32) by decide +kernel), if_neg (by omega)]
  by_cases p4 : qP Q ≤ 4
  · have e : mph (qP Q) = 2 := by unfold mph; rw [if_neg p0, if_neg p1, if_pos p4]
    rw [e, if_pos (show nI 2 = (2 : Int32) from rfl), if_neg n23, g1]
    by_cases p2 : qP Q = 2
    · rw [w4 (by omega), if_neg (show ¬ (0 : Int32) < nI 0 by decide +kernel), if_neg (by omega)]
    · have hb : 1 ≤ qB Q ∧ qB Q ≤ 99 := by
        by_cases p3 : qP Q = 3
        · have := w5 p3; omega
        · have := w6 (by omega); omega
      rw [if_pos (show (0 : Int32) < nI (qB Q) from nI_lt (a := 0) (by omega) (sm31 (by omega))), if_pos (by omega)]
  · have e : mph (qP Q) = 3 := by unfold mph; rw [if_neg p0, if_neg p1, if_neg p4]
    rw [e, if_neg (show ¬ nI 3 = (2 : Int32) by decide +kernel), if_pos (show nI 3 = (3 : Int32) from rfl), g2]
    unfold hiI
    by_cases p5 : qP Q = 5
    · rw [w8 (by omega), if_pos rfl, if_pos rfl, if_neg (by omega)]
    · have hh := w9 (by omega)
      rw [if_neg (show ¬ qH Q = 0 by omega), if_neg (show ¬ nI (qH Q - 1) = (-1 : Int32) from fun z => nI_pos (n := qH Q - 1) (sm31 (by omega)) (by rw [z]; decide +kernel)), if_pos (show qP Q = 3 ∨ qP Q = 4 ∨ qP Q = 6 by omega)]
def RdM (ns np it : Nat) (Q : Qs) (v : Nat) (f : ax_F) (g : ax_G) (r : Option ax_Fin) : Prop := ∃ f', r = rI (b2 (pst ns Q v).isSome) f' g ∧ FT it f f' ∧ ∀ Q', pst ns Q v = some Q' → if v = 59 ∧ qEnd Q = true then (TQ ns np (it + 1) Q' f' ∧ f' 54 0 it = qA Q ∧ f' 55 0 it = nI (qB Q) ∧ f' 56 0 it = qC Q) else TQ ns np it Q' f'
theorem RdM.no {ns np it Q v f f' g} (h : pst ns Q v = none) (hF : FT it f f') : RdM ns np it Q v f g (rI 0 f' g) := ⟨f', by rw [h]; rfl, hF, fun Q' e => by rw [h] at e; cases e⟩
theorem RdM.yes {ns np it Q v f f' g Q'} (h : pst ns Q v = some Q') (c0 : ¬ (v = 59 ∧ qEnd Q = true)) (hF : FT it f f') (hQ : TQ ns np it Q' f') : RdM ns np it Q v f g (rI 1 f' g) := ⟨f', by rw [h]; rfl, hF, fun Q2 e => by rw [h] at e; cases e; rw [if_neg c0]; exact hQ⟩
theorem FT.refl (it f) : FT it f f := fun _ _ _ _ _ => rfl
theorem FT.trans {it f f1 f2} (h : FT it f f1) (h2 : FT it f1 f2) : FT it f f2 := fun k i j q1 q2 => (h2 k i j q1 q2).trans (h k i j q1 q2)
theorem FT.up {it} {f : ax_F} {j : Nat} (h1 : 30 ≤ j) (h2 : j ≤ 33) (x : Int32) : FT it f (ax_up f 19 0 j x) := fun k i j' q1 _ => upn (by omega)
theorem FT.up5 {it} {f : ax_F} {k : Nat} (h1 : 54 ≤ k) (h2 : k ≤ 56) (x : Int32) : FT it f (ax_up f k 0 it x) := fun k' i j' _ q2 => upn (by omega)
theorem x10_section (f g) {ns np it Q} {v : Nat} (hv : v ≤ 1000) (hns : 1 ≤ ns ∧ ns ≤ 5) (h : TQ ns np it Q f) (hw : QW ns Q) : s_X10_takesSection [.inr (19, 0), .inl (.int (nI v))] f g = if 48 ≤ v ∧ v < 48 + ns ∧ qN Q < 12 then rI 1 (ax_up (ax_up (ax_up (ax_up (ax_up f 54 0 it (nI (v - 48))) 56 0 it 0) 19 0 31 0) 19 0 32 (-1)) 19 0 30 1) g else rI 0 f g := by
  obtain ⟨h1, h2, h3, h4, h5, h6⟩ := h
  have w2 := hw.2.1
  rw [e_X10_takesSection, g_X10_takesSection_0, h3, h1, nI_add, ← h2, h4, show (48 : Int32) + nI ns - 1 = nI (48 + ns) - 1 from by rw [show (48 : Int32) + nI ns = nI (48 + ns) from nI_add 48 ns], nI_sub1 (by omega), x10_within, cali_r, ite_b2]
  by_cases e : qN Q < 12
  · rw [if_neg (show ¬ (12 : Int32) ≤ nI (qN Q) from nI_ge (b := 12) e (by decide))]
    by_cases c : 48 ≤ v ∧ v < 48 + ns
    · rw [if_pos (show 48 ≤ v ∧ v < 48 + ns ∧ qN Q < 12 from ⟨c.1, c.2, e⟩), decide_eq_true (show ¬ nI v < 48 ∧ ¬ nI (48 + ns - 1) < nI v from ⟨nI_nlt (b := 48) c.1 (sm31 hv), nI_nlt (by omega) (sm31 (by omega))⟩), if_pos rfl, h1, bd_n (by omega) (by decide), show (ax_up f 54 0 it (nI v - 48)) 19 0 33 = nI it from by rw [upn (by omega)]; exact h1, bd_n (by omega) (by decide), show nI v - 48 = nI (v - 48) from pk_sub (a := v) (b := 48) c.1]
    · have hd : ¬ (¬ nI v < 48 ∧ ¬ nI (48 + ns - 1) < nI v) := fun z => c (by
        refine ⟨?_, ?_⟩
        · rcases Nat.lt_or_ge v 48 with q | q
          · exact absurd (nI_lt (b := 48) q (by decide)) z.1
          · exact q
        · rcases Nat.lt_or_ge v (48 + ns) with q | q
          · exact q
          · exact absurd (nI_lt (a := 48 + ns - 1) (by omega) (sm31 hv)) z.2)
      rw [if_neg (show ¬ (48 ≤ v ∧ v < 48 + ns ∧ qN Q < 12) from fun z => c ⟨z.1, z.2.1⟩), decide_eq_false hd, if_neg (by decide)]
  · rw [if_pos (show (12 : Int32) ≤ nI (qN Q) from nI_le (a := 12) (by omega) (sm31 (by omega))), if_neg (show ¬ (48 ≤ v ∧ v < 48 + ns ∧ qN Q < 12) from fun z => e z.2.2)]
end AYP
