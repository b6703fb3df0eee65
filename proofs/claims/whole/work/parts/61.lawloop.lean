/-! the law's loop -/
section AZE
theorem law_loop {b ln : Nat} {xs : Nat → Int32} {mc ms : Nat} (hl : ln ≤ 3584) : ∀ d i f g cs ss, i + d = 513 → Inv i f → cs + 10 * d ≤ mc → ss + 100 * d ≤ ms → ∃ f' g', RLw b ln xs mc ms 23 i f g cs ss = some (.inl (some (.inl (.int 1))), f', g') := by
  intro d
  induction d with
  | zero =>
    intro i f g cs ss hd hI hc hs
    refine ⟨f, g, ?_⟩
    unfold RLw
    rw [g_law_23, gdb, if_pos]
    rw [i_lt, show (nI ln - 7).toInt = (ln : Int) - 7 from pk_sub_toInt (a := ln) (b := 7) (by omega) (by decide), nI_toInt (by omega)]
    omega
  | succ d ih =>
    intro i f g cs ss hd hI hc hs
    by_cases hi : 7 * i + 7 ≤ ln
    · have nxt : ∀ f2 g2 c2 s2, c2 ≤ cs + 10 → s2 ≤ ss + 100 → Inv (i + 1) f2 → ∃ f' g', RLw b ln xs mc ms 1623 i f2 g2 c2 s2 = some (.inl (some (.inl (.int 1))), f', g') := by
        intro f2 g2 c2 s2 h1 h2 h3
        have h7 : nI (7 * i) + 7 = nI (7 * (i + 1)) := (nI_add (7 * i) 7).trans (by congr 1)
        unfold RLw
        rw [g_law_1623, h7]
        exact ih (i + 1) f2 g2 c2 s2 (by omega) h3 (by omega) (by omega)
      have go : ∀ pc, LC b ln xs mc ms pc i i f g cs ss → ∃ f' g', RLw b ln xs mc ms pc i f g cs ss = some (.inl (some (.inl (.int 1))), f', g') := by
        intro pc h
        obtain ⟨f2, g2, c2, s2, e, h1, h2, h3⟩ := h
        rw [e]
        exact nxt f2 g2 c2 s2 h1 h2 h3
      have hn : i ≤ 1000 := by omega
      have hc' : cs + 10 ≤ mc := by omega
      have hs' : ss + 100 ≤ ms := by omega
      unfold RLw
      rw [g_law_23, gdb, if_neg (show ¬ nI ln - 7 < nI (7 * i) by
        rw [i_lt, show (nI ln - 7).toInt = (ln : Int) - 7 from pk_sub_toInt (a := ln) (b := 7) (by omega) (by decide), nI_toInt (by omega)]
        omega), gdb, bd_n (by omega) (by omega)]
      by_cases c0 : xs (7 * i) &&& 31 = 0
      · rw [if_pos c0]
        exact go 156 (lc_begin hi hl hc' hs' hn hI)
      rw [if_neg c0]
      by_cases c1 : xs (7 * i) &&& 31 = 1
      · rw [if_pos c1]
        exact go 212 (lc_addPackage hi hl hc' hs' hn hI)
      rw [if_neg c1]
      by_cases c2 : xs (7 * i) &&& 31 = 2
      · rw [if_pos c2]
        exact go 292 (lc_publish hi hl hc' hs' hn hI)
      rw [if_neg c2]
      by_cases c3 : xs (7 * i) &&& 31 = 3
      · rw [if_pos c3]
        exact go 348 (lc_release hi hl hc' hs' hn hI)
      rw [if_neg c3]
      by_cases c4 : xs (7 * i) &&& 31 = 4
      · rw [if_pos c4]
        exact go 392 (lc_setValidity hi hl hc' hs' hn hI)
      rw [if_neg c4]
      by_cases c5 : xs (7 * i) &&& 31 = 5
      · rw [if_pos c5]
        exact go 448 (lc_append hi hl hc' hs' hn hI)
      rw [if_neg c5]
      by_cases c6 : xs (7 * i) &&& 31 = 6
      · rw [if_pos c6]
        exact go 504 (lc_clearInput hi hl hc' hs' hn hI)
      rw [if_neg c6]
      by_cases c7 : xs (7 * i) &&& 31 = 7
      · rw [if_pos c7]
        exact go 517 (lc_firstError hi hl hc' hs' hn hI)
      rw [if_neg c7]
      by_cases c8 : xs (7 * i) &&& 31 = 8
      · rw [if_pos c8]
        exact go 530 (lc_load hi hl hc' hs' hn hI)
      rw [if_neg c8]
      by_cases c9 : xs (7 * i) &&& 31 = 9
      · rw [if_pos c9]
        exact go 574 (lc_addMirror hi hl hc' hs' hn hI)
      rw [if_neg c9]
      by_cases c10 : xs (7 * i) &&& 31 = 10
      · rw [if_pos c10]
        exact go 708 (lc_tamper hi hl hc' hs' hn hI)
      rw [if_neg c10]
      by_cases c11 : xs (7 * i) &&& 31 = 11
      · rw [if_pos c11]
        exact go 764 (lc_removeFile hi hl hc' hs' hn hI)
      rw [if_neg c11]
      by_cases c12 : xs (7 * i) &&& 31 = 12
      · rw [if_pos c12]
        exact go 844 (lc_pass hi hl hc' hs' hn hI)
      rw [if_neg c12]
      by_cases c13 : xs (7 * i) &&& 31 = 13
      · rw [if_pos c13]
        exact go 900 (lc_mirror hi hl hc' hs' hn hI)
      rw [if_neg c13]
      by_cases c14 : xs (7 * i) &&& 31 = 14
      · rw [if_pos c14]
        exact go 968 (lc_files hi hl hc' hs' hn hI)
      rw [if_neg c14]
      by_cases c15 : xs (7 * i) &&& 31 = 15
      · rw [if_pos c15]
        exact go 1036 (lc_addClient hi hl hc' hs' hn hI)
      rw [if_neg c15]
      by_cases c16 : xs (7 * i) &&& 31 = 16
      · rw [if_pos c16]
        exact go 1092 (lc_install hi hl hc' hs' hn hI)
      rw [if_neg c16]
      by_cases c17 : xs (7 * i) &&& 31 = 17
      · rw [if_pos c17]
        exact go 1160 (lc_ifInstalled hi hl hc' hs' hn hI)
      rw [if_neg c17]
      by_cases c18 : xs (7 * i) &&& 31 = 18
      · rw [if_pos c18]
        exact go 1240 (lc_until hi hl hc' hs' hn hI)
      rw [if_neg c18]
      by_cases c19 : xs (7 * i) &&& 31 = 19
      · rw [if_pos c19]
        exact go 1308 (lc_client hi hl hc' hs' hn hI)
      rw [if_neg c19]
      by_cases c20 : xs (7 * i) &&& 31 = 20
      · rw [if_pos c20]
        exact go 1376 (lc_count hi hl hc' hs' hn hI)
      rw [if_neg c20]
      by_cases c21 : xs (7 * i) &&& 31 = 21
      · rw [if_pos c21]
        exact go 1432 (lc_packageAt hi hl hc' hs' hn hI)
      rw [if_neg c21]
      by_cases c22 : xs (7 * i) &&& 31 = 22
      · rw [if_pos c22]
        exact go 1500 (lc_index hi hl hc' hs' hn hI)
      rw [if_neg c22]
      by_cases c23 : xs (7 * i) &&& 31 = 23
      · rw [if_pos c23]
        exact go 1568 (lc_meanAge hi hl hc' hs' hn hI)
      rw [if_neg c23]
      by_cases c24 : xs (7 * i) &&& 31 = 24
      · rw [if_pos c24]
        exact go 1609 (lc_digest hi hl hc' hs' hn hI)
      rw [if_neg c24]
      exact nxt f g cs ss (by omega) (by omega) (hI.same (Same.refl f))
    · refine ⟨f, g, ?_⟩
      unfold RLw
      rw [g_law_23, gdb, if_pos]
      rw [i_lt, show (nI ln - 7).toInt = (ln : Int) - 7 from pk_sub_toInt (a := ln) (b := 7) (by omega) (by decide), nI_toInt (by omega)]
      omega
end AZE
