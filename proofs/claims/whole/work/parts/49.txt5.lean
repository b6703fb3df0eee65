/-! the reference takes a character, by place -/
section AYQ
theorem wi {v a b : Nat} (hv : v ≤ 1000) (ha : a ≤ 1000) (hb : b ≤ 1000) : (¬ nI v < nI a ∧ ¬ nI b < nI v) ↔ a ≤ v ∧ v ≤ b := by
  rw [nI_ltI (sm31 hv) (sm31 ha), nI_ltI (sm31 hb) (sm31 hv)]
  omega
theorem x10_size (f g) {v b : Nat} (hv : v ≤ 1000) (hb : b ≤ 99) (h : f 19 0 31 = nI b) : s_X10_takesSize [.inr (19, 0), .inl (.int (nI v))] f g = if v = 43 ∧ 0 < b then rI 1 (ax_up f 19 0 30 3) g else if (b = 0 ∧ 49 ≤ v ∧ v ≤ 57) ∨ (0 < b ∧ b < 10 ∧ 48 ≤ v ∧ v ≤ 57) then rI 1 (ax_up f 19 0 31 (nI (10 * b + (v - 48)))) g else rI 0 (ax_up f 19 0 31 (nI b)) g := by
  rw [e_X10_takesSize, g_X10_takesSize_0, h]
  have e : 48 ≤ v → 10 * nI b + nI v - 48 = nI (10 * b + (v - 48)) := fun q => by
    rw [show (10 : Int32) = nI 10 from rfl, pk_mul, nI_add]
    exact (pk_sub (a := 10 * b + v) (b := 48) (by omega)).trans (by congr 1; omega)
  have k0 : ∀ A : Nat, A ≤ 1000 → ax_cali (s_X10_within [.inl (.int (nI v)), .inl (.int (nI A)), .inl (.int (nI 57))] f g) (fun e f g => some (.inr e, f, g)) (fun z f g => if z = 0 then rI 0 (ax_up f 19 0 31 (f 19 0 31)) g else if (10 : Int32) ≤ f 19 0 31 then rI 0 (ax_up f 19 0 31 (f 19 0 31)) g else rI 1 (ax_up f 19 0 31 (10 * f 19 0 31 + nI v - 48)) g) = if A ≤ v ∧ v ≤ 57 ∧ b < 10 then rI 1 (ax_up f 19 0 31 (10 * nI b + nI v - 48)) g else rI 0 (ax_up f 19 0 31 (nI b)) g := fun A hA => by
    rw [x10_within, cali_r, ite_b2, h]
    by_cases c : A ≤ v ∧ v ≤ 57
    · rw [decide_eq_true ((wi hv hA (by decide)).mpr c), if_pos rfl]
      by_cases d : b < 10
      · rw [if_neg (show ¬ (10 : Int32) ≤ nI b from nI_ge (b := 10) d (by decide)), if_pos ⟨c.1, c.2, d⟩]
      · rw [if_pos (show (10 : Int32) ≤ nI b from nI_le (a := 10) (by omega) (sm31 (by omega))), if_neg (fun z => d z.2.2)]
    · rw [decide_eq_false (fun z => c ((wi hv hA (by decide)).mp z)), if_neg (by decide), if_neg (fun z => c ⟨z.1, z.2.1⟩)]
  have k49 := k0 49 (by decide)
  have k48 := k0 48 (by decide)
  have rest : (if nI b = 0 then (if 49 ≤ v ∧ v ≤ 57 ∧ b < 10 then rI 1 (ax_up f 19 0 31 (10 * nI b + nI v - 48)) g else rI 0 (ax_up f 19 0 31 (nI b)) g) else (if 48 ≤ v ∧ v ≤ 57 ∧ b < 10 then rI 1 (ax_up f 19 0 31 (10 * nI b + nI v - 48)) g else rI 0 (ax_up f 19 0 31 (nI b)) g)) = if (b = 0 ∧ 49 ≤ v ∧ v ≤ 57) ∨ (0 < b ∧ b < 10 ∧ 48 ≤ v ∧ v ≤ 57) then rI 1 (ax_up f 19 0 31 (nI (10 * b + (v - 48)))) g else rI 0 (ax_up f 19 0 31 (nI b)) g := by
    by_cases b0 : b = 0
    · rw [if_pos (show nI b = 0 by rw [b0]; rfl)]
      by_cases c : 49 ≤ v ∧ v ≤ 57
      · rw [if_pos ⟨c.1, c.2, by omega⟩, if_pos (Or.inl ⟨b0, c⟩), e (by omega)]
      · rw [if_neg (fun z => c ⟨z.1, z.2.1⟩), if_neg (by omega)]
    · rw [if_neg (nI_ne0 (by omega) (sm31 (by omega)))]
      by_cases c : 48 ≤ v ∧ v ≤ 57 ∧ b < 10
      · rw [if_pos c, if_pos (Or.inr ⟨by omega, c.2.2, c.1, c.2.1⟩), e c.1]
      · rw [if_neg c, if_neg (by omega)]
  by_cases v43 : v = 43
  · rw [if_pos (show nI v = (43 : Int32) by rw [v43]; rfl)]
    by_cases b0 : b = 0
    · rw [if_pos (show nI b ≤ 0 by rw [b0]; decide +kernel), if_neg (show ¬ (v = 43 ∧ 0 < b) by omega), ← rest]
      rw [if_pos (show nI b = 0 by rw [b0]; rfl), if_pos (show nI b = 0 by rw [b0]; rfl)]
      exact k49
    · rw [if_neg (nI_nle (by omega) (sm31 (by omega))), if_pos (show v = 43 ∧ 0 < b by omega)]
  · rw [if_neg (nI_neL 43 v43 hv (by decide)), if_neg (show ¬ (v = 43 ∧ 0 < b) by omega), ← rest]
    by_cases b0 : b = 0
    · rw [if_pos (show nI b = 0 by rw [b0]; rfl), if_pos (show nI b = 0 by rw [b0]; rfl)]
      exact k49
    · rw [if_neg (nI_ne0 (by omega) (sm31 (by omega))), if_neg (nI_ne0 (by omega) (sm31 (by omega)))]
      exact k48
theorem x10_letter (f g) {ns np it Q} {v : Nat} (hv : v ≤ 1000) (h : TQ ns np it Q f) (hw : QW ns Q) (hp : qP Q ≠ 0) : s_X10_takesLetter [.inr (19, 0), .inl (.int (nI v))] f g = if 97 ≤ v ∧ v - 97 < qN Q ∧ qH Q ≤ v - 97 then rI 1 (ax_up (ax_up f 19 0 32 (nI (v - 97))) 56 0 it (qC Q ||| ((1 : Int32) <<< (nI (v - 97) &&& 31)))) g else rI 0 f g := by
  obtain ⟨w1, w2, w3, w4, w5, w6, w7, w8, w9, w10, w11, w12, w13⟩ := hw
  obtain ⟨h1, h2, h3, h4, h5, h6⟩ := h
  obtain ⟨g1, g2, g3, g4⟩ := h6 hp
  rw [e_X10_takesLetter, g_X10_takesLetter_0, g2, h3, h1, nI_add, ← h2, x10_within, cali_r, ite_b2]
  have m1 : (-1 : Int32).toInt = -1 := by decide +kernel
  have i0 : (0 : Int32).toInt = 0 := rfl
  have n1 : (nI (qN Q) - 1).toInt = (qN Q : Int) - 1 := by
    have := pk_sub_toInt (a := qN Q) (b := 1) (by omega) (by decide)
    exact this
  have hT : (hiI (qH Q)).toInt = (qH Q : Int) - 1 := by
    unfold hiI
    by_cases c : qH Q = 0
    · rw [if_pos c, m1, c]; rfl
    · rw [if_neg c, nI_toInt (sm31 (by omega))]; omega
  have vT : (nI v - 97).toInt = (v : Int) - 97 := pk_sub_toInt (a := v) (b := 97) (by omega) (by decide)
  by_cases c : 97 ≤ v ∧ v - 97 < qN Q ∧ qH Q ≤ v - 97
  · have ev : nI v - 97 = nI (v - 97) := pk_sub (a := v) (b := 97) c.1
    rw [if_pos c, if_neg (show ¬ nI v - 97 ≤ hiI (qH Q) by rw [i_le, vT, hT]; omega), decide_eq_true (show ¬ nI v - 97 < 0 ∧ ¬ nI (qN Q) - 1 < nI v - 97 from ⟨by rw [i_lt, vT, i0]; omega, by rw [i_lt, n1, vT]; omega⟩), if_pos rfl, ev, show (ax_up f 19 0 32 (nI (v - 97))) 19 0 33 = nI it from by rw [upn (by omega)]; exact h1, bd_n (by omega) (by decide), bd_n (by omega) (by decide), show (ax_up f 19 0 32 (nI (v - 97))) 56 0 it = qC Q from by rw [upn (by omega)]; exact g4]
  · rw [if_neg c]
    by_cases d : nI v - 97 ≤ hiI (qH Q)
    · rw [if_pos d]
    · rw [if_neg d, decide_eq_false (fun z => ?_), if_neg (by decide)]
      rw [i_le, vT, hT] at d
      have z1 := z.1
      have z2 := z.2
      rw [i_lt, vT, i0] at z1
      rw [i_lt, n1, vT] at z2
      omega
end AYQ
