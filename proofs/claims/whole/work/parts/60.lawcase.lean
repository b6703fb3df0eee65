/-! the law: one call, class and reference -/
section AZD
noncomputable abbrev RLw (b ln : Nat) (xs : Nat → Int32) (mc ms pc i : Nat) (f : ax_F) (g : ax_G) (cs ss : Nat) : Option ax_Fin := ax_run (P_law b ln xs mc ms) pc [some (.inl (.ref b)), some (.inr (0, 0)), some (.inr (19, 0)), some (.inr (60, 0)), some (.inl (.int (nI (7 * i)))), none, none, none, none] [] f g cs ss
def LC (b ln : Nat) (xs : Nat → Int32) (mc ms pc i n : Nat) (f : ax_F) (g : ax_G) (cs ss : Nat) : Prop := ∃ f2 g2 c2 s2, RLw b ln xs mc ms pc i f g cs ss = RLw b ln xs mc ms 1623 i f2 g2 c2 s2 ∧ c2 ≤ cs + 10 ∧ s2 ≤ ss + 100 ∧ Inv (n + 1) f2
/-- the end of a call's case -/
theorem lc_fin {b ln : Nat} {xs : Nat → Int32} {mc ms i n : Nat} {f2 : ax_F} {g1 : ax_G} {c2 s2 cs ss : Nat} {k v : Int32} {X : Option ax_Fin} (ht : f2 19 0 0 = k) (hI : Inv (n + 1) f2) (hz : k = 0 → g1 60 0 0 = Int32.toInt64 v) (hc : c2 ≤ cs + 10) (hs : s2 ≤ ss + 100) (e : X = (if f2 19 0 0 = k then (if k = 0 then (if (lg_cmp (g1 60 0 0) (Int32.toInt64 v)) = 0 then RLw b ln xs mc ms 1623 i f2 g1 c2 s2 else (some (.inl (some (.inl (.int 0))), f2, g1))) else RLw b ln xs mc ms 1623 i f2 g1 c2 s2) else (some (.inl (some (.inl (.int 0))), f2, g1)))) : ∃ f2 g2 c2 s2, X = RLw b ln xs mc ms 1623 i f2 g2 c2 s2 ∧ c2 ≤ cs + 10 ∧ s2 ≤ ss + 100 ∧ Inv (n + 1) f2 := by
  refine ⟨f2, g1, c2, s2, ?_, hc, hs, hI⟩
  rw [e, if_pos ht]
  by_cases z : k = 0
  · rw [if_pos z, hz z, if_pos ((lg_cmp_eq _ _).mpr rfl)]
  · rw [if_neg z]
variable {b ln : Nat} {xs : Nat → Int32} {mc ms i n : Nat} {f : ax_F} {g : ax_G} {cs ss : Nat}
theorem lc_begin (hi : 7 * i + 7 ≤ ln) (hl : ln ≤ 3584) (hc : cs + 10 ≤ mc) (hs : ss + 100 ≤ ms) (hn : n ≤ 1000) (hI : Inv n f) : LC b ln xs mc ms 156 i n f g cs ss := by
  have q : ∀ k, 0 < k → k < 7 → ∀ kk, ax_bd (nI (7 * i) + nI k) ln kk = kk (7 * i + k) := fun k _ h kk => by rw [nI_add]; exact bd_n (by omega) (by omega) kk
  have q1 : ∀ kk, ax_bd (nI (7 * i) + 1) ln kk = kk (7 * i + 1) := q 1 (by decide) (by decide)
  unfold LC
  obtain ⟨k, f1, g1, v, f2, e1, e2, ht, hI2, hz⟩ := w_begin g (xs (7 * i + 1)) hI
  refine lc_fin (c2 := cs + 1 + 0 + 0) (s2 := ss + 6 + 0 + 0) ht hI2 hz (by omega) (by omega) ?_
  unfold RLw
  rw [g_law_156, gdb, q1, gdl (by omega), gdl (by omega), e1, cali_r, gdb, q1, gdl (by omega), gdl (by omega), e2, cali_r, gdl (by omega), gdl (by omega), x10_thrown, cali_r]
theorem lc_addPackage (hi : 7 * i + 7 ≤ ln) (hl : ln ≤ 3584) (hc : cs + 10 ≤ mc) (hs : ss + 100 ≤ ms) (hn : n ≤ 1000) (hI : Inv n f) : LC b ln xs mc ms 212 i n f g cs ss := by
  have q : ∀ k, 0 < k → k < 7 → ∀ kk, ax_bd (nI (7 * i) + nI k) ln kk = kk (7 * i + k) := fun k _ h kk => by rw [nI_add]; exact bd_n (by omega) (by omega) kk
  have q1 : ∀ kk, ax_bd (nI (7 * i) + 1) ln kk = kk (7 * i + 1) := q 1 (by decide) (by decide)
  have q2 : ∀ kk, ax_bd (nI (7 * i) + 2) ln kk = kk (7 * i + 2) := q 2 (by decide) (by decide)
  have q3 : ∀ kk, ax_bd (nI (7 * i) + 3) ln kk = kk (7 * i + 3) := q 3 (by decide) (by decide)
  unfold LC
  obtain ⟨k, f1, g1, v, f2, e1, e2, ht, hI2, hz⟩ := w_addPackage g (xs (7 * i + 1)) (xs (7 * i + 2)) (xs (7 * i + 3)) hI
  refine lc_fin (c2 := cs + 2 + 0 + 0) (s2 := ss + 12 + 0 + 0) ht hI2 hz (by omega) (by omega) ?_
  unfold RLw
  rw [g_law_212, gdb, q1, gdb, q2, gdb, q3, gdl (by omega), gdl (by omega), e1, cali_r, gdb, q1, gdb, q2, gdb, q3, gdl (by omega), gdl (by omega), e2, cali_r, gdl (by omega), gdl (by omega), x10_thrown, cali_r]
theorem lc_publish (hi : 7 * i + 7 ≤ ln) (hl : ln ≤ 3584) (hc : cs + 10 ≤ mc) (hs : ss + 100 ≤ ms) (hn : n ≤ 1000) (hI : Inv n f) : LC b ln xs mc ms 292 i n f g cs ss := by
  have q : ∀ k, 0 < k → k < 7 → ∀ kk, ax_bd (nI (7 * i) + nI k) ln kk = kk (7 * i + k) := fun k _ h kk => by rw [nI_add]; exact bd_n (by omega) (by omega) kk
  have q1 : ∀ kk, ax_bd (nI (7 * i) + 1) ln kk = kk (7 * i + 1) := q 1 (by decide) (by decide)
  unfold LC
  obtain ⟨k, f1, g1, v, f2, e1, e2, ht, hI2, hz⟩ := w_publish g (xs (7 * i + 1)) hI
  refine lc_fin (c2 := cs + 2 + 0 + 0) (s2 := ss + 12 + 0 + 0) ht hI2 hz (by omega) (by omega) ?_
  unfold RLw
  rw [g_law_292, gdb, q1, gdl (by omega), gdl (by omega), e1, cali_r, gdb, q1, gdl (by omega), gdl (by omega), e2, cali_r, gdl (by omega), gdl (by omega), x10_thrown, cali_r]
theorem lc_release (hi : 7 * i + 7 ≤ ln) (hl : ln ≤ 3584) (hc : cs + 10 ≤ mc) (hs : ss + 100 ≤ ms) (hn : n ≤ 1000) (hI : Inv n f) : LC b ln xs mc ms 348 i n f g cs ss := by
  unfold LC
  obtain ⟨k, f1, g1, v, f2, e1, e2, ht, hI2, hz⟩ := w_release g  hI
  refine lc_fin (c2 := cs + 1 + 0 + 0) (s2 := ss + 6 + 0 + 0) ht hI2 hz (by omega) (by omega) ?_
  unfold RLw
  rw [g_law_348, gdl (by omega), gdl (by omega), e1, cali_r, gdl (by omega), gdl (by omega), e2, cali_r, gdl (by omega), gdl (by omega), x10_thrown, cali_r]
theorem lc_setValidity (hi : 7 * i + 7 ≤ ln) (hl : ln ≤ 3584) (hc : cs + 10 ≤ mc) (hs : ss + 100 ≤ ms) (hn : n ≤ 1000) (hI : Inv n f) : LC b ln xs mc ms 392 i n f g cs ss := by
  have q : ∀ k, 0 < k → k < 7 → ∀ kk, ax_bd (nI (7 * i) + nI k) ln kk = kk (7 * i + k) := fun k _ h kk => by rw [nI_add]; exact bd_n (by omega) (by omega) kk
  have q1 : ∀ kk, ax_bd (nI (7 * i) + 1) ln kk = kk (7 * i + 1) := q 1 (by decide) (by decide)
  unfold LC
  obtain ⟨k, f1, g1, v, f2, e1, e2, ht, hI2, hz⟩ := w_setValidity g (xs (7 * i + 1)) hI
  refine lc_fin (c2 := cs + 1 + 0 + 0) (s2 := ss + 6 + 0 + 0) ht hI2 hz (by omega) (by omega) ?_
  unfold RLw
  rw [g_law_392, gdb, q1, gdl (by omega), gdl (by omega), e1, cali_r, gdb, q1, gdl (by omega), gdl (by omega), e2, cali_r, gdl (by omega), gdl (by omega), x10_thrown, cali_r]
theorem lc_append (hi : 7 * i + 7 ≤ ln) (hl : ln ≤ 3584) (hc : cs + 10 ≤ mc) (hs : ss + 100 ≤ ms) (hn : n ≤ 1000) (hI : Inv n f) : LC b ln xs mc ms 448 i n f g cs ss := by
  have q : ∀ k, 0 < k → k < 7 → ∀ kk, ax_bd (nI (7 * i) + nI k) ln kk = kk (7 * i + k) := fun k _ h kk => by rw [nI_add]; exact bd_n (by omega) (by omega) kk
  have q1 : ∀ kk, ax_bd (nI (7 * i) + 1) ln kk = kk (7 * i + 1) := q 1 (by decide) (by decide)
  unfold LC
  obtain ⟨k, f1, g1, v, f2, e1, e2, ht, hI2, hz⟩ := w_append g (xs (7 * i + 1)) hI
  refine lc_fin (c2 := cs + 1 + 0 + 0) (s2 := ss + 6 + 0 + 0) ht hI2 hz (by omega) (by omega) ?_
  unfold RLw
  rw [g_law_448, gdb, q1, gdl (by omega), gdl (by omega), e1, cali_r, gdb, q1, gdl (by omega), gdl (by omega), e2, cali_r, gdl (by omega), gdl (by omega), x10_thrown, cali_r]
theorem lc_clearInput (hi : 7 * i + 7 ≤ ln) (hl : ln ≤ 3584) (hc : cs + 10 ≤ mc) (hs : ss + 100 ≤ ms) (hn : n ≤ 1000) (hI : Inv n f) : LC b ln xs mc ms 504 i n f g cs ss := by
  rcases p_clearInput g hI with ⟨v, f1, e1, h2⟩ | ⟨e, k, f1, hk, -, -⟩
  · obtain ⟨f2, e2, -, hI2⟩ := h2 g
    refine ⟨f2, g, cs + 0 + 0, ss + 0 + 0, ?_, by omega, by omega, hI2⟩
    unfold RLw
    rw [g_law_504, gdl (by omega), gdl (by omega), e1, cali_r, gdl (by omega), gdl (by omega), e2, cali_r, if_pos rfl]
  · cases hk
theorem lc_firstError (hi : 7 * i + 7 ≤ ln) (hl : ln ≤ 3584) (hc : cs + 10 ≤ mc) (hs : ss + 100 ≤ ms) (hn : n ≤ 1000) (hI : Inv n f) : LC b ln xs mc ms 517 i n f g cs ss := by
  rcases p_firstError g hI with ⟨v, f1, e1, h2⟩ | ⟨e, k, f1, hk, -, -⟩
  · obtain ⟨f2, e2, -, hI2⟩ := h2 g
    refine ⟨f2, g, cs + 0 + 0, ss + 0 + 0, ?_, by omega, by omega, hI2⟩
    unfold RLw
    rw [g_law_517, gdl (by omega), gdl (by omega), e1, cali_r, gdl (by omega), gdl (by omega), e2, cali_r, if_pos rfl]
  · cases hk
theorem lc_load (hi : 7 * i + 7 ≤ ln) (hl : ln ≤ 3584) (hc : cs + 10 ≤ mc) (hs : ss + 100 ≤ ms) (hn : n ≤ 1000) (hI : Inv n f) : LC b ln xs mc ms 530 i n f g cs ss := by
  unfold LC
  obtain ⟨k, f1, g1, v, f2, e1, e2, ht, hI2, hz⟩ := w_load g  hI
  refine lc_fin (c2 := cs + 1 + 0 + 0) (s2 := ss + 6 + 0 + 0) ht hI2 hz (by omega) (by omega) ?_
  unfold RLw
  rw [g_law_530, gdl (by omega), gdl (by omega), e1, cali_r, gdl (by omega), gdl (by omega), e2, cali_r, gdl (by omega), gdl (by omega), x10_thrown, cali_r]
theorem lc_addMirror (hi : 7 * i + 7 ≤ ln) (hl : ln ≤ 3584) (hc : cs + 10 ≤ mc) (hs : ss + 100 ≤ ms) (hn : n ≤ 1000) (hI : Inv n f) : LC b ln xs mc ms 574 i n f g cs ss := by
  have q : ∀ k, 0 < k → k < 7 → ∀ kk, ax_bd (nI (7 * i) + nI k) ln kk = kk (7 * i + k) := fun k _ h kk => by rw [nI_add]; exact bd_n (by omega) (by omega) kk
  have q1 : ∀ kk, ax_bd (nI (7 * i) + 1) ln kk = kk (7 * i + 1) := q 1 (by decide) (by decide)
  have q2 : ∀ kk, ax_bd (nI (7 * i) + 2) ln kk = kk (7 * i + 2) := q 2 (by decide) (by decide)
  have q3 : ∀ kk, ax_bd (nI (7 * i) + 3) ln kk = kk (7 * i + 3) := q 3 (by decide) (by decide)
  have q4 : ∀ kk, ax_bd (nI (7 * i) + 4) ln kk = kk (7 * i + 4) := q 4 (by decide) (by decide)
  have q5 : ∀ kk, ax_bd (nI (7 * i) + 5) ln kk = kk (7 * i + 5) := q 5 (by decide) (by decide)
  have q6 : ∀ kk, ax_bd (nI (7 * i) + 6) ln kk = kk (7 * i + 6) := q 6 (by decide) (by decide)
  unfold LC
  by_cases hb : xs (7 * i + 6) = 0
  · obtain ⟨k, f1, g1, v, f2, e1, e2, ht, hI2, hz⟩ := w_addMirror g (xs (7 * i + 1)) (xs (7 * i + 2)) (xs (7 * i + 3)) (xs (7 * i + 4)) (xs (7 * i + 5)) false hI
    rw [show b2 false = 0 from rfl] at e1 e2
    refine lc_fin (c2 := cs + 1 + 0 + 0) (s2 := ss + 6 + 0 + 0) ht hI2 hz (by omega) (by omega) ?_
    unfold RLw
    rw [g_law_574, gdb, q1, gdb, q2, gdb, q3, gdb, q4, gdb, q5, gdb, q6, if_pos hb, gdl (by omega), gdl (by omega), e1, cali_r, gdb, q1, gdb, q2, gdb, q3, gdb, q4, gdb, q5, gdb, q6, if_pos hb, gdl (by omega), gdl (by omega), e2, cali_r, gdl (by omega), gdl (by omega), x10_thrown, cali_r]
  · obtain ⟨k, f1, g1, v, f2, e1, e2, ht, hI2, hz⟩ := w_addMirror g (xs (7 * i + 1)) (xs (7 * i + 2)) (xs (7 * i + 3)) (xs (7 * i + 4)) (xs (7 * i + 5)) true hI
    rw [show b2 true = 1 from rfl] at e1 e2
    refine lc_fin (c2 := cs + 1 + 0 + 0) (s2 := ss + 6 + 0 + 0) ht hI2 hz (by omega) (by omega) ?_
    unfold RLw
    rw [g_law_574, gdb, q1, gdb, q2, gdb, q3, gdb, q4, gdb, q5, gdb, q6, if_neg hb, gdl (by omega), gdl (by omega), e1, cali_r, gdb, q1, gdb, q2, gdb, q3, gdb, q4, gdb, q5, gdb, q6, if_neg hb, gdl (by omega), gdl (by omega), e2, cali_r, gdl (by omega), gdl (by omega), x10_thrown, cali_r]
theorem lc_tamper (hi : 7 * i + 7 ≤ ln) (hl : ln ≤ 3584) (hc : cs + 10 ≤ mc) (hs : ss + 100 ≤ ms) (hn : n ≤ 1000) (hI : Inv n f) : LC b ln xs mc ms 708 i n f g cs ss := by
  have q : ∀ k, 0 < k → k < 7 → ∀ kk, ax_bd (nI (7 * i) + nI k) ln kk = kk (7 * i + k) := fun k _ h kk => by rw [nI_add]; exact bd_n (by omega) (by omega) kk
  have q1 : ∀ kk, ax_bd (nI (7 * i) + 1) ln kk = kk (7 * i + 1) := q 1 (by decide) (by decide)
  unfold LC
  obtain ⟨k, f1, g1, v, f2, e1, e2, ht, hI2, hz⟩ := w_tamper g (xs (7 * i + 1)) hI
  refine lc_fin (c2 := cs + 2 + 0 + 0) (s2 := ss + 12 + 0 + 0) ht hI2 hz (by omega) (by omega) ?_
  unfold RLw
  rw [g_law_708, gdb, q1, gdl (by omega), gdl (by omega), e1, cali_r, gdb, q1, gdl (by omega), gdl (by omega), e2, cali_r, gdl (by omega), gdl (by omega), x10_thrown, cali_r]
theorem lc_removeFile (hi : 7 * i + 7 ≤ ln) (hl : ln ≤ 3584) (hc : cs + 10 ≤ mc) (hs : ss + 100 ≤ ms) (hn : n ≤ 1000) (hI : Inv n f) : LC b ln xs mc ms 764 i n f g cs ss := by
  have q : ∀ k, 0 < k → k < 7 → ∀ kk, ax_bd (nI (7 * i) + nI k) ln kk = kk (7 * i + k) := fun k _ h kk => by rw [nI_add]; exact bd_n (by omega) (by omega) kk
  have q1 : ∀ kk, ax_bd (nI (7 * i) + 1) ln kk = kk (7 * i + 1) := q 1 (by decide) (by decide)
  have q2 : ∀ kk, ax_bd (nI (7 * i) + 2) ln kk = kk (7 * i + 2) := q 2 (by decide) (by decide)
  have q3 : ∀ kk, ax_bd (nI (7 * i) + 3) ln kk = kk (7 * i + 3) := q 3 (by decide) (by decide)
  unfold LC
  obtain ⟨k, f1, g1, v, f2, e1, e2, ht, hI2, hz⟩ := w_removeFile g (xs (7 * i + 1)) (xs (7 * i + 2)) (xs (7 * i + 3)) hI
  refine lc_fin (c2 := cs + 3 + 0 + 0) (s2 := ss + 18 + 0 + 0) ht hI2 hz (by omega) (by omega) ?_
  unfold RLw
  rw [g_law_764, gdb, q1, gdb, q2, gdb, q3, gdl (by omega), gdl (by omega), e1, cali_r, gdb, q1, gdb, q2, gdb, q3, gdl (by omega), gdl (by omega), e2, cali_r, gdl (by omega), gdl (by omega), x10_thrown, cali_r]
theorem lc_pass (hi : 7 * i + 7 ≤ ln) (hl : ln ≤ 3584) (hc : cs + 10 ≤ mc) (hs : ss + 100 ≤ ms) (hn : n ≤ 1000) (hI : Inv n f) : LC b ln xs mc ms 844 i n f g cs ss := by
  have q : ∀ k, 0 < k → k < 7 → ∀ kk, ax_bd (nI (7 * i) + nI k) ln kk = kk (7 * i + k) := fun k _ h kk => by rw [nI_add]; exact bd_n (by omega) (by omega) kk
  have q1 : ∀ kk, ax_bd (nI (7 * i) + 1) ln kk = kk (7 * i + 1) := q 1 (by decide) (by decide)
  unfold LC
  obtain ⟨k, f1, g1, v, f2, e1, e2, ht, hI2, hz⟩ := w_pass g (xs (7 * i + 1)) hn hI
  refine lc_fin (c2 := cs + 1 + 0 + 0) (s2 := ss + 6 + 0 + 0) ht hI2 hz (by omega) (by omega) ?_
  unfold RLw
  rw [g_law_844, gdb, q1, gdl (by omega), gdl (by omega), e1, cali_r, gdb, q1, gdl (by omega), gdl (by omega), e2, cali_r, gdl (by omega), gdl (by omega), x10_thrown, cali_r]
theorem lc_mirror (hi : 7 * i + 7 ≤ ln) (hl : ln ≤ 3584) (hc : cs + 10 ≤ mc) (hs : ss + 100 ≤ ms) (hn : n ≤ 1000) (hI : Inv n f) : LC b ln xs mc ms 900 i n f g cs ss := by
  have q : ∀ k, 0 < k → k < 7 → ∀ kk, ax_bd (nI (7 * i) + nI k) ln kk = kk (7 * i + k) := fun k _ h kk => by rw [nI_add]; exact bd_n (by omega) (by omega) kk
  have q1 : ∀ kk, ax_bd (nI (7 * i) + 1) ln kk = kk (7 * i + 1) := q 1 (by decide) (by decide)
  have q2 : ∀ kk, ax_bd (nI (7 * i) + 2) ln kk = kk (7 * i + 2) := q 2 (by decide) (by decide)
  unfold LC
  obtain ⟨k, f1, g1, v, f2, e1, e2, ht, hI2, hz⟩ := w_mirror g (xs (7 * i + 1)) (xs (7 * i + 2)) hI
  refine lc_fin (c2 := cs + 2 + 0 + 0) (s2 := ss + 12 + 0 + 0) ht hI2 hz (by omega) (by omega) ?_
  unfold RLw
  rw [g_law_900, gdb, q1, gdb, q2, gdl (by omega), gdl (by omega), e1, cali_r, gdb, q1, gdb, q2, gdl (by omega), gdl (by omega), e2, cali_r, gdl (by omega), gdl (by omega), x10_thrown, cali_r]
theorem lc_files (hi : 7 * i + 7 ≤ ln) (hl : ln ≤ 3584) (hc : cs + 10 ≤ mc) (hs : ss + 100 ≤ ms) (hn : n ≤ 1000) (hI : Inv n f) : LC b ln xs mc ms 968 i n f g cs ss := by
  have q : ∀ k, 0 < k → k < 7 → ∀ kk, ax_bd (nI (7 * i) + nI k) ln kk = kk (7 * i + k) := fun k _ h kk => by rw [nI_add]; exact bd_n (by omega) (by omega) kk
  have q1 : ∀ kk, ax_bd (nI (7 * i) + 1) ln kk = kk (7 * i + 1) := q 1 (by decide) (by decide)
  have q2 : ∀ kk, ax_bd (nI (7 * i) + 2) ln kk = kk (7 * i + 2) := q 2 (by decide) (by decide)
  unfold LC
  obtain ⟨k, f1, g1, v, f2, e1, e2, ht, hI2, hz⟩ := w_files g (xs (7 * i + 1)) (xs (7 * i + 2)) hI
  refine lc_fin (c2 := cs + 2 + 0 + 0) (s2 := ss + 12 + 0 + 0) ht hI2 hz (by omega) (by omega) ?_
  unfold RLw
  rw [g_law_968, gdb, q1, gdb, q2, gdl (by omega), gdl (by omega), e1, cali_r, gdb, q1, gdb, q2, gdl (by omega), gdl (by omega), e2, cali_r, gdl (by omega), gdl (by omega), x10_thrown, cali_r]
theorem lc_addClient (hi : 7 * i + 7 ≤ ln) (hl : ln ≤ 3584) (hc : cs + 10 ≤ mc) (hs : ss + 100 ≤ ms) (hn : n ≤ 1000) (hI : Inv n f) : LC b ln xs mc ms 1036 i n f g cs ss := by
  have q : ∀ k, 0 < k → k < 7 → ∀ kk, ax_bd (nI (7 * i) + nI k) ln kk = kk (7 * i + k) := fun k _ h kk => by rw [nI_add]; exact bd_n (by omega) (by omega) kk
  have q1 : ∀ kk, ax_bd (nI (7 * i) + 1) ln kk = kk (7 * i + 1) := q 1 (by decide) (by decide)
  unfold LC
  obtain ⟨k, f1, g1, v, f2, e1, e2, ht, hI2, hz⟩ := w_addClient g (xs (7 * i + 1)) hI
  refine lc_fin (c2 := cs + 1 + 0 + 0) (s2 := ss + 6 + 0 + 0) ht hI2 hz (by omega) (by omega) ?_
  unfold RLw
  rw [g_law_1036, gdb, q1, gdl (by omega), gdl (by omega), e1, cali_r, gdb, q1, gdl (by omega), gdl (by omega), e2, cali_r, gdl (by omega), gdl (by omega), x10_thrown, cali_r]
theorem lc_install (hi : 7 * i + 7 ≤ ln) (hl : ln ≤ 3584) (hc : cs + 10 ≤ mc) (hs : ss + 100 ≤ ms) (hn : n ≤ 1000) (hI : Inv n f) : LC b ln xs mc ms 1092 i n f g cs ss := by
  have q : ∀ k, 0 < k → k < 7 → ∀ kk, ax_bd (nI (7 * i) + nI k) ln kk = kk (7 * i + k) := fun k _ h kk => by rw [nI_add]; exact bd_n (by omega) (by omega) kk
  have q1 : ∀ kk, ax_bd (nI (7 * i) + 1) ln kk = kk (7 * i + 1) := q 1 (by decide) (by decide)
  have q2 : ∀ kk, ax_bd (nI (7 * i) + 2) ln kk = kk (7 * i + 2) := q 2 (by decide) (by decide)
  unfold LC
  obtain ⟨k, f1, g1, v, f2, e1, e2, ht, hI2, hz⟩ := w_install g (xs (7 * i + 1)) (xs (7 * i + 2)) hI
  refine lc_fin (c2 := cs + 2 + 0 + 0) (s2 := ss + 12 + 0 + 0) ht hI2 hz (by omega) (by omega) ?_
  unfold RLw
  rw [g_law_1092, gdb, q1, gdb, q2, gdl (by omega), gdl (by omega), e1, cali_r, gdb, q1, gdb, q2, gdl (by omega), gdl (by omega), e2, cali_r, gdl (by omega), gdl (by omega), x10_thrown, cali_r]
theorem lc_ifInstalled (hi : 7 * i + 7 ≤ ln) (hl : ln ≤ 3584) (hc : cs + 10 ≤ mc) (hs : ss + 100 ≤ ms) (hn : n ≤ 1000) (hI : Inv n f) : LC b ln xs mc ms 1160 i n f g cs ss := by
  have q : ∀ k, 0 < k → k < 7 → ∀ kk, ax_bd (nI (7 * i) + nI k) ln kk = kk (7 * i + k) := fun k _ h kk => by rw [nI_add]; exact bd_n (by omega) (by omega) kk
  have q1 : ∀ kk, ax_bd (nI (7 * i) + 1) ln kk = kk (7 * i + 1) := q 1 (by decide) (by decide)
  have q2 : ∀ kk, ax_bd (nI (7 * i) + 2) ln kk = kk (7 * i + 2) := q 2 (by decide) (by decide)
  have q3 : ∀ kk, ax_bd (nI (7 * i) + 3) ln kk = kk (7 * i + 3) := q 3 (by decide) (by decide)
  unfold LC
  obtain ⟨k, f1, g1, v, f2, e1, e2, ht, hI2, hz⟩ := w_ifInstalled g (xs (7 * i + 1)) (xs (7 * i + 2)) (xs (7 * i + 3)) hI
  refine lc_fin (c2 := cs + 3 + 0 + 0) (s2 := ss + 18 + 0 + 0) ht hI2 hz (by omega) (by omega) ?_
  unfold RLw
  rw [g_law_1160, gdb, q1, gdb, q2, gdb, q3, gdl (by omega), gdl (by omega), e1, cali_r, gdb, q1, gdb, q2, gdb, q3, gdl (by omega), gdl (by omega), e2, cali_r, gdl (by omega), gdl (by omega), x10_thrown, cali_r]
theorem lc_until (hi : 7 * i + 7 ≤ ln) (hl : ln ≤ 3584) (hc : cs + 10 ≤ mc) (hs : ss + 100 ≤ ms) (hn : n ≤ 1000) (hI : Inv n f) : LC b ln xs mc ms 1240 i n f g cs ss := by
  have q : ∀ k, 0 < k → k < 7 → ∀ kk, ax_bd (nI (7 * i) + nI k) ln kk = kk (7 * i + k) := fun k _ h kk => by rw [nI_add]; exact bd_n (by omega) (by omega) kk
  have q1 : ∀ kk, ax_bd (nI (7 * i) + 1) ln kk = kk (7 * i + 1) := q 1 (by decide) (by decide)
  have q2 : ∀ kk, ax_bd (nI (7 * i) + 2) ln kk = kk (7 * i + 2) := q 2 (by decide) (by decide)
  unfold LC
  obtain ⟨k, f1, g1, v, f2, e1, e2, ht, hI2, hz⟩ := w_until g (xs (7 * i + 1)) (xs (7 * i + 2)) hn hI
  refine lc_fin (c2 := cs + 2 + 0 + 0) (s2 := ss + 12 + 0 + 0) ht hI2 hz (by omega) (by omega) ?_
  unfold RLw
  rw [g_law_1240, gdb, q1, gdb, q2, gdl (by omega), gdl (by omega), e1, cali_r, gdb, q1, gdb, q2, gdl (by omega), gdl (by omega), e2, cali_r, gdl (by omega), gdl (by omega), x10_thrown, cali_r]
theorem lc_client (hi : 7 * i + 7 ≤ ln) (hl : ln ≤ 3584) (hc : cs + 10 ≤ mc) (hs : ss + 100 ≤ ms) (hn : n ≤ 1000) (hI : Inv n f) : LC b ln xs mc ms 1308 i n f g cs ss := by
  have q : ∀ k, 0 < k → k < 7 → ∀ kk, ax_bd (nI (7 * i) + nI k) ln kk = kk (7 * i + k) := fun k _ h kk => by rw [nI_add]; exact bd_n (by omega) (by omega) kk
  have q1 : ∀ kk, ax_bd (nI (7 * i) + 1) ln kk = kk (7 * i + 1) := q 1 (by decide) (by decide)
  have q2 : ∀ kk, ax_bd (nI (7 * i) + 2) ln kk = kk (7 * i + 2) := q 2 (by decide) (by decide)
  unfold LC
  obtain ⟨k, f1, g1, v, f2, e1, e2, ht, hI2, hz⟩ := w_client g (xs (7 * i + 1)) (xs (7 * i + 2)) hI
  refine lc_fin (c2 := cs + 2 + 0 + 0) (s2 := ss + 12 + 0 + 0) ht hI2 hz (by omega) (by omega) ?_
  unfold RLw
  rw [g_law_1308, gdb, q1, gdb, q2, gdl (by omega), gdl (by omega), e1, cali_r, gdb, q1, gdb, q2, gdl (by omega), gdl (by omega), e2, cali_r, gdl (by omega), gdl (by omega), x10_thrown, cali_r]
theorem lc_count (hi : 7 * i + 7 ≤ ln) (hl : ln ≤ 3584) (hc : cs + 10 ≤ mc) (hs : ss + 100 ≤ ms) (hn : n ≤ 1000) (hI : Inv n f) : LC b ln xs mc ms 1376 i n f g cs ss := by
  have q : ∀ k, 0 < k → k < 7 → ∀ kk, ax_bd (nI (7 * i) + nI k) ln kk = kk (7 * i + k) := fun k _ h kk => by rw [nI_add]; exact bd_n (by omega) (by omega) kk
  have q1 : ∀ kk, ax_bd (nI (7 * i) + 1) ln kk = kk (7 * i + 1) := q 1 (by decide) (by decide)
  unfold LC
  obtain ⟨k, f1, g1, v, f2, e1, e2, ht, hI2, hz⟩ := w_count g (xs (7 * i + 1)) hI
  refine lc_fin (c2 := cs + 1 + 0 + 0) (s2 := ss + 6 + 0 + 0) ht hI2 hz (by omega) (by omega) ?_
  unfold RLw
  rw [g_law_1376, gdb, q1, gdl (by omega), gdl (by omega), e1, cali_r, gdb, q1, gdl (by omega), gdl (by omega), e2, cali_r, gdl (by omega), gdl (by omega), x10_thrown, cali_r]
theorem lc_packageAt (hi : 7 * i + 7 ≤ ln) (hl : ln ≤ 3584) (hc : cs + 10 ≤ mc) (hs : ss + 100 ≤ ms) (hn : n ≤ 1000) (hI : Inv n f) : LC b ln xs mc ms 1432 i n f g cs ss := by
  have q : ∀ k, 0 < k → k < 7 → ∀ kk, ax_bd (nI (7 * i) + nI k) ln kk = kk (7 * i + k) := fun k _ h kk => by rw [nI_add]; exact bd_n (by omega) (by omega) kk
  have q1 : ∀ kk, ax_bd (nI (7 * i) + 1) ln kk = kk (7 * i + 1) := q 1 (by decide) (by decide)
  have q2 : ∀ kk, ax_bd (nI (7 * i) + 2) ln kk = kk (7 * i + 2) := q 2 (by decide) (by decide)
  unfold LC
  obtain ⟨k, f1, g1, v, f2, e1, e2, ht, hI2, hz⟩ := w_packageAt g (xs (7 * i + 1)) (xs (7 * i + 2)) hI
  refine lc_fin (c2 := cs + 2 + 0 + 0) (s2 := ss + 12 + 0 + 0) ht hI2 hz (by omega) (by omega) ?_
  unfold RLw
  rw [g_law_1432, gdb, q1, gdb, q2, gdl (by omega), gdl (by omega), e1, cali_r, gdb, q1, gdb, q2, gdl (by omega), gdl (by omega), e2, cali_r, gdl (by omega), gdl (by omega), x10_thrown, cali_r]
theorem lc_index (hi : 7 * i + 7 ≤ ln) (hl : ln ≤ 3584) (hc : cs + 10 ≤ mc) (hs : ss + 100 ≤ ms) (hn : n ≤ 1000) (hI : Inv n f) : LC b ln xs mc ms 1500 i n f g cs ss := by
  have q : ∀ k, 0 < k → k < 7 → ∀ kk, ax_bd (nI (7 * i) + nI k) ln kk = kk (7 * i + k) := fun k _ h kk => by rw [nI_add]; exact bd_n (by omega) (by omega) kk
  have q1 : ∀ kk, ax_bd (nI (7 * i) + 1) ln kk = kk (7 * i + 1) := q 1 (by decide) (by decide)
  have q2 : ∀ kk, ax_bd (nI (7 * i) + 2) ln kk = kk (7 * i + 2) := q 2 (by decide) (by decide)
  unfold LC
  obtain ⟨k, f1, g1, v, f2, e1, e2, ht, hI2, hz⟩ := w_index g (xs (7 * i + 1)) (xs (7 * i + 2)) hI
  refine lc_fin (c2 := cs + 2 + 0 + 0) (s2 := ss + 12 + 0 + 0) ht hI2 hz (by omega) (by omega) ?_
  unfold RLw
  rw [g_law_1500, gdb, q1, gdb, q2, gdl (by omega), gdl (by omega), e1, cali_r, gdb, q1, gdb, q2, gdl (by omega), gdl (by omega), e2, cali_r, gdl (by omega), gdl (by omega), x10_thrown, cali_r]
theorem lc_meanAge (hi : 7 * i + 7 ≤ ln) (hl : ln ≤ 3584) (hc : cs + 10 ≤ mc) (hs : ss + 100 ≤ ms) (hn : n ≤ 1000) (hI : Inv n f) : LC b ln xs mc ms 1568 i n f g cs ss := by
  obtain ⟨v, e1, hv, e2, hI2⟩ := p_meanAge g hn hI
  refine ⟨_, g, cs + 0 + 0, ss + 0 + 0, ?_, by omega, by omega, hI2⟩
  unfold RLw
  rw [g_law_1568, gdl (by omega), gdl (by omega), e1, cald_r, gdl (by omega), gdl (by omega), e2 g, cald_r, if_pos (show Op.cmpValue (FP.dcmp v v) .l = 0 by rw [show FP.dcmp v v = some .eq from FP.Core.dcmp_refl hv]; rfl)]
theorem lc_digest (hi : 7 * i + 7 ≤ ln) (hl : ln ≤ 3584) (hc : cs + 10 ≤ mc) (hs : ss + 100 ≤ ms) (hn : n ≤ 1000) (hI : Inv n f) : LC b ln xs mc ms 1609 i n f g cs ss := by
  obtain ⟨v, f1, e1, h2⟩ := p_digest g hn hI
  obtain ⟨f2, g2, e2, hI2⟩ := h2 g
  refine ⟨f2, g2, cs + 0 + 0, ss + 0 + 0, ?_, by omega, by omega, hI2⟩
  unfold RLw
  rw [g_law_1609, gdl (by omega), gdl (by omega), e1, call_r, gdl (by omega), gdl (by omega), e2, call_r, if_pos ((lg_cmp_eq _ _).mpr rfl)]
end AZD
