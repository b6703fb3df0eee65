/-! the class reads a character -/
section AYN
theorem x8_sign (f g) {v s k : Nat} (hv : v ≤ 1000) (hs' : s ≤ 1000) : s_X8_readsSign [.inr (18, 0), .inl (.int (nI v)), .inl (.int (nI s)), .inl (.int (nI k))] f g = if v = s then rI 1 (ax_up f 18 0 3 (nI k)) g else rI 0 f g := by
  rw [e_X8_readsSign, g_X8_readsSign_0]
  by_cases c : v = s
  · rw [if_pos c, if_pos (by rw [c])]
  · rw [if_neg c, if_neg (nI_ne c hv hs')]
theorem x8_digit (f g) {v b k : Nat} (hv : v ≤ 1000) (hb : f 18 0 1 = nI b) : s_X8_readsDigit [.inr (18, 0), .inl (.int (nI v)), .inl (.int (nI k))] f g = if 48 ≤ v ∧ v ≤ 57 then rI 1 (ax_up (ax_up f 18 0 1 (nI (10 * b + (v - 48)))) 18 0 3 (nI k)) g else rI 0 f g := by
  rw [e_X8_readsDigit, g_X8_readsDigit_0, hb]
  by_cases c : 48 ≤ v
  · rw [if_neg (show ¬ nI v < (48 : Int32) from nI_nlt (b := 48) c (sm31 hv))]
    by_cases d : v ≤ 57
    · rw [if_pos (show nI v ≤ (57 : Int32) from nI_le (b := 57) d (by decide)), if_pos ⟨c, d⟩]
      have e : 10 * nI b + nI v - 48 = nI (10 * b + (v - 48)) := by
        rw [show (10 : Int32) = nI 10 from rfl, pk_mul, nI_add]
        exact (pk_sub (a := 10 * b + v) (b := 48) (by omega)).trans (by congr 1; omega)
      rw [e]
    · rw [if_neg (show ¬ nI v ≤ (57 : Int32) from nI_ge (a := 57) (by omega) (sm31 hv)), if_neg (fun q => d q.2)]
  · rw [if_pos (show nI v < (48 : Int32) from nI_lt (b := 48) (by omega) (by decide)), if_neg (fun q => c q.1)]
theorem x8_section (f g) {v ns n : Nat} (hv : v ≤ 1000) (hns : ns ≤ 5) (hn : n ≤ 12) (h4 : f 18 0 4 = nI ns) (h5 : f 18 0 5 = nI n) : s_X8_readsSection [.inr (18, 0), .inl (.int (nI v))] f g = if 48 ≤ v ∧ v < 48 + ns ∧ n < 12 then rI 1 (ax_up (ax_up f 18 0 0 (nI (v - 48))) 18 0 3 1) g else rI 0 f g := by
  rw [e_X8_readsSection, g_X8_readsSection_0, h4, h5, show (48 : Int32) + nI ns = nI (48 + ns) from nI_add 48 ns]
  by_cases c : 48 ≤ v
  · rw [if_neg (show ¬ nI v < (48 : Int32) from nI_nlt (b := 48) c (sm31 hv))]
    by_cases d : v < 48 + ns
    · rw [if_neg (nI_ge d (sm31 (by omega)))]
      by_cases e : n < 12
      · rw [if_pos (show nI n < (12 : Int32) from nI_lt (b := 12) e (by decide)), if_pos ⟨c, d, e⟩, show nI v - 48 = nI (v - 48) from pk_sub (a := v) (b := 48) c]
      · rw [if_neg (show ¬ nI n < (12 : Int32) from nI_nlt (b := 12) (by omega) (sm31 (by omega))), if_neg (fun q => e q.2.2)]
    · rw [if_pos (nI_le (by omega) (sm31 (by omega))), if_neg (fun q => d q.2.1)]
  · rw [if_pos (show nI v < (48 : Int32) from nI_lt (b := 48) (by omega) (by decide)), if_neg (fun q => c q.1)]
theorem x8_letter (f g) {ns Q} {v : Nat} (hv : v ≤ 1000) (h : CQ ns Q f) (hw : QW ns Q) : s_X8_readsLetter [.inr (18, 0), .inl (.int (nI v))] f g = if 97 ≤ v ∧ v - 97 < qN Q ∧ qH Q ≤ v - 97 then rI 1 (ax_up (ax_up f 18 0 2 (qC Q ||| ((1 : Int32) <<< (nI (v - 97) &&& 31)))) 18 0 3 6) g else rI 0 f g := by
  obtain ⟨w1, w2, w3, w4, w5, w6, w7, w8, w9, w10, w11, w12, w13⟩ := hw
  rw [e_X8_readsLetter, g_X8_readsLetter_0, h.2.1, h.2.2.2.2.1]
  by_cases c : 97 ≤ v
  · rw [show nI v - 97 = nI (v - 97) from pk_sub (a := v) (b := 97) c, if_neg (nI_pos (sm31 (by omega)))]
    by_cases d : v - 97 < qN Q
    · rw [if_neg (nI_ge d (sm31 (by omega))), x9_hasBitFrom, cali_r, ite_b2, h.2.2.2.2.1]
      have e : hbf (qC Q) (v - 97) = true ↔ ¬ qH Q ≤ v - 97 := by
        unfold hbf
        rw [decide_eq_true_eq, us_bt (by omega)]
        constructor
        · intro z1 z2
          exact z1 (fun i h1 h2 => w11 i h2 (by omega))
        · intro z1 z2
          have := z2 (qH Q - 1) (by omega) (by omega)
          rw [w12 (by omega)] at this
          cases this
      by_cases k : qH Q ≤ v - 97
      · rw [if_neg (fun z => e.mp z k), if_pos ⟨c, d, k⟩]
      · rw [if_pos (e.mpr k), if_neg (fun z => k z.2.2)]
    · rw [if_pos (nI_le (by omega) (sm31 (by omega))), if_neg (fun z => d z.2.1)]
  · rw [if_pos (show nI v - 97 < 0 from pk_sneg (a := v) (b := 97) (by decide) (by omega)), if_neg (fun z => c z.1)]
end AYN
