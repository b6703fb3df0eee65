/-! questions -/
section AYD
theorem W7.up0 {E S R f} (h : W7 E S R f) (k) : W7 E S R (ax_up f 19 0 0 k) := h.same (Same.up0 f k)
/-! count -/
def cnt (E : Ev) (S : St) (R : Rt) (w : Nat) : Int32 := if w = 0 then nI (rSec R) else if w = 1 then nI (eNp E) else if w = 2 then nI (eNi E) else if w = 3 then nI (eNm E) else if w = 4 then nI (rNc R) else if w = 5 then nI (sTm S) else if w = 6 then rVal R else if w = 7 then ax_sum (eNm E) (fun m => b2 (cmp E S m)) else if w = 8 then ax_sum (eNm E) (fun m => ax_sum 12 (fun p => bts (sFl S m p))) else sCp S
theorem x9_counted (g) {E S R f} {w : Nat} (h : W7 E S R f) (hw : w < 10) : s_X9_counted [.inr (0, 0), .inl (.int (nI w))] f g = rI (cnt E S R w) f g := by
  obtain ⟨hE, hS, hR, hX, hM, hC, hN⟩ := h
  rw [e_X9_counted, g_X9_counted_0, hC.1, hX.1.1, hX.1.2.1, hX.2.1.1, hC.2.2.2.2.1.1, hX.2.2.1, hC.2.1, x5_completeMirrors g hE hS hX, cali_r, x5_fileCount g hE hS hX, cali_r, hX.2.2.2.1]
  unfold cnt
  by_cases h0 : w = 0
  · subst h0; rfl
  rw [if_neg (nI_neL 0 h0 (by omega) (by decide)), if_neg h0]
  by_cases h1 : w = 1
  · subst h1; rfl
  rw [if_neg (nI_neL 1 h1 (by omega) (by decide)), if_neg h1]
  by_cases h2 : w = 2
  · subst h2; rfl
  rw [if_neg (nI_neL 2 h2 (by omega) (by decide)), if_neg h2]
  by_cases h3 : w = 3
  · subst h3; rfl
  rw [if_neg (nI_neL 3 h3 (by omega) (by decide)), if_neg h3]
  by_cases h4 : w = 4
  · subst h4; rfl
  rw [if_neg (nI_neL 4 h4 (by omega) (by decide)), if_neg h4]
  by_cases h5 : w = 5
  · subst h5; rfl
  rw [if_neg (nI_neL 5 h5 (by omega) (by decide)), if_neg h5]
  by_cases h6 : w = 6
  · subst h6; rfl
  rw [if_neg (nI_neL 6 h6 (by omega) (by decide)), if_neg h6]
  by_cases h7 : w = 7
  · subst h7; rfl
  rw [if_neg (nI_neL 7 h7 (by omega) (by decide)), if_neg h7]
  by_cases h8 : w = 8
  · subst h8; rfl
  rw [if_neg (nI_neL 8 h8 (by omega) (by decide)), if_neg h8]
theorem x10_counted (g) {E S R f} {w : Nat} (h : W7 E S R f) (hw : w < 10) : s_X10_counted [.inr (19, 0), .inl (.int (nI w))] f g = rI (cnt E S R w) f g := by
  obtain ⟨hE, hS, hR, hX, hM, hC, hN⟩ := h
  have h6 := hE.2.1
  rw [e_X10_counted, g_X10_counted_0]
  have l := ax_lp (fun i (x : Int32 × Int32) => ax_run P_X10_counted 7 [some (.inr (19, 0)), some (.inl (.int (nI w))), some (.inl (.int x.1)), some (.inl (.int x.2)), some (.inl (.int (nI i)))] [] f g 0 0) (fun m x => (x.1 + b2 (cmp E S m), x.2 + ax_sum 12 (fun p => bts (sFl S m p)))) (eNm E) (0, 0) (fun i hi => by
    dsimp only
    rw [g_X10_counted_7, hM.2.1.1, if_neg (nI_ge hi (sm31 (by omega))), x10_isComplete g hE hS hM hi, cali_r, ite_b2, x10_fileCount g hE hS hM hi, cali_r, cali_r, nI_1]
    cases cmp E S i
    · rfl
    · rfl)
  have sp : ∀ n, ax_it n (fun m (x : Int32 × Int32) => (x.1 + b2 (cmp E S m), x.2 + ax_sum 12 (fun p => bts (sFl S m p)))) (0, 0) = (ax_sum n (fun m => b2 (cmp E S m)), ax_sum n (fun m => ax_sum 12 (fun p => bts (sFl S m p)))) := by
    intro n
    induction n with
    | zero => rfl
    | succ n ih => rw [ax_it_s, ih]; rfl
  rw [sp] at l
  refine (show _ = _ from l).trans ?_
  rw [g_X10_counted_7, hM.2.1.1, if_pos (nI_le (Nat.le_refl _) (sm31 (by omega))), hN.1, hM.1.1, hM.1.2.1, hN.2.2.2.2.1.1, hM.2.2.1, hN.2.1, hM.2.2.2.1]
  unfold cnt
  by_cases h0 : w = 0
  · subst h0; rfl
  rw [if_neg (nI_neL 0 h0 (by omega) (by decide)), if_neg h0]
  by_cases h1 : w = 1
  · subst h1; rfl
  rw [if_neg (nI_neL 1 h1 (by omega) (by decide)), if_neg h1]
  by_cases h2 : w = 2
  · subst h2; rfl
  rw [if_neg (nI_neL 2 h2 (by omega) (by decide)), if_neg h2]
  by_cases h3 : w = 3
  · subst h3; rfl
  rw [if_neg (nI_neL 3 h3 (by omega) (by decide)), if_neg h3]
  by_cases h4 : w = 4
  · subst h4; rfl
  rw [if_neg (nI_neL 4 h4 (by omega) (by decide)), if_neg h4]
  by_cases h5 : w = 5
  · subst h5; rfl
  rw [if_neg (nI_neL 5 h5 (by omega) (by decide)), if_neg h5]
  by_cases h6 : w = 6
  · subst h6; rfl
  rw [if_neg (nI_neL 6 h6 (by omega) (by decide)), if_neg h6]
  by_cases h7 : w = 7
  · subst h7; rfl
  rw [if_neg (nI_neL 7 h7 (by omega) (by decide)), if_neg h7]
  by_cases h8 : w = 8
  · subst h8; rfl
  rw [if_neg (nI_neL 8 h8 (by omega) (by decide)), if_neg h8]
theorem p_count {n f} (g) (x : Int32) (hI : Inv n f) : PQ n [(1, 1)] (s_X9_count [.inr (0, 0), .inl (.int x)]) (s_X10_count [.inr (19, 0), .inl (.int x)]) f g := by
  have hI0 := hI
  obtain ⟨E, S, R, h, ht⟩ := hI
  obtain ⟨c1, c2⟩ := x9_kind f g x (n := 10) (by decide)
  rcases rng x (9 : Int32) (n := 10) (by decide) (by decide +kernel) with ⟨w, hw, rfl⟩ | ⟨d1, d2⟩
  · refine PQ.q0 (cnt E S R w) hI0 (f1 := f) ?_ (Same.refl f) (fun g' => ?_)
    · rw [e_X9_count, g_X9_count_0]
      show ax_calv (s_X9_requireKind [_, .inl (.int (nI 10))] _ _) _ _ = _
      rw [c1 w hw rfl, calv_r, x9_counted g h hw, cali_r]
    · rw [e_X10_count, g_X10_count_0, x10_within, cali_r, decide_eq_true (rng_ok (9 : Int32) (n := 10) hw (by decide) (by decide +kernel)), ite_b2, if_pos rfl, t_0, x10_counted g' (h.up0 0) hw, cali_r]
  · refine PQ.x 1 1 hI0 (by decide) ?_ (fun g' => ?_)
    · rw [e_X9_count, g_X9_count_0]
      show ax_calv (s_X9_requireKind [_, .inl (.int (nI 10))] _ _) _ _ = _
      rw [c2 d1, calv_x]
    · rw [e_X10_count, g_X10_count_0, x10_within, cali_r, decide_eq_false d2, ite_b2, if_neg (by decide), t_1]
/-! packageAt -/
def pkp (E : Ev) (S : St) (R : Rt) (f : ax_F) (p w : Nat) : Int32 := if w = 0 then eSec E p else if w = 1 then eSz E p else if w = 2 then rDep R p else if w = 3 then nI (rVer R p) else if w = 4 then f 3 p 3 else ax_sum (eNm E) (fun m => b2 (hs (sFl S m p) (nI (rVer R p))))
theorem x9_packageProperty (g) {E S R f} {p w : Nat} (h : W7 E S R f) (hp : p < eNp E) (hw : w < 6) : s_X9_packageProperty [.inr (0, 0), .inl (.int (nI p)), .inl (.int (nI w))] f g = rI (pkp E S R f p w) f g := by
  obtain ⟨hE, hS, hR, hX, hM, hC, hN⟩ := h
  have h12 := hE.1
  obtain ⟨c1, c2, c3⟩ := hC.2.2.1 p hp
  obtain ⟨d1, d2⟩ := hX.1.2.2.1 p hp
  rw [e_X9_packageProperty, g_X9_packageProperty_0, bd_n (by omega) (by decide), c1, c2, d1, d2, x5_mirrorsWith g _ hE hX (by omega), cali_r]
  have : ax_sum (eNm E) (fun m => b2 (hf (sFl S m p) (nI (rVer R p)))) = ax_sum (eNm E) (fun m => b2 (hs (sFl S m p) (nI (rVer R p)))) := ax_sum_congr (fun m hm => by rw [hf_hs (hR.2.1 p hp).2.1 (hS.2.1 m hm p)])
  rw [this]
  unfold pkp
  by_cases h0 : w = 0
  · subst h0; rfl
  rw [if_neg (nI_neL 0 h0 (by omega) (by decide)), if_neg h0]
  by_cases h1 : w = 1
  · subst h1; rfl
  rw [if_neg (nI_neL 1 h1 (by omega) (by decide)), if_neg h1]
  by_cases h2 : w = 2
  · subst h2; rfl
  rw [if_neg (nI_neL 2 h2 (by omega) (by decide)), if_neg h2]
  by_cases h3 : w = 3
  · subst h3; rfl
  rw [if_neg (nI_neL 3 h3 (by omega) (by decide)), if_neg h3]
  by_cases h4 : w = 4
  · subst h4; rfl
  rw [if_neg (nI_neL 4 h4 (by omega) (by decide)), if_neg h4]
theorem x10_mirrorsWith (g) {E S R f} {p : Nat} (h : W7 E S R f) (hp : p < eNp E) : s_X10_mirrorsWith [.inr (19, 0), .inl (.int (nI p))] f g = rI (ax_sum (eNm E) (fun m => b2 (hs (sFl S m p) (nI (rVer R p))))) f g := by
  obtain ⟨hE, hS, hR, hX, hM, hC, hN⟩ := h
  have h12 := hE.1
  have h6 := hE.2.1
  rw [e_X10_mirrorsWith, g_X10_mirrorsWith_0]
  refine (ax_lp (fun i a => ax_run P_X10_mirrorsWith 4 [some (.inr (19, 0)), some (.inl (.int (nI p))), some (.inl (.int a)), some (.inl (.int (nI i)))] [] f g 0 0) (fun m a => a + b2 (hs (sFl S m p) (nI (rVer R p)))) (eNm E) 0 (fun i hi => ?_)).trans ?_
  · show ax_run _ _ [_, _, _, some (.inl (.int (nI i)))] _ _ _ _ _ = _
    rw [g_X10_mirrorsWith_4, hM.2.1.1, if_neg (nI_ge hi (sm31 (by omega))), ix12, bd_n (by omega) (by decide), bd_n (by omega) (by decide), x10_has, cali_r, ite_b2, (hM.2.2.2.2 i hi).2.2 p (by omega), (hN.2.2.1 p hp).2, nI_1]
    cases hs (sFl S i p) (nI (rVer R p))
    · rfl
    · rfl
  · show ax_run _ _ [_, _, _, some (.inl (.int (nI (eNm E))))] _ _ _ _ _ = _
    rw [g_X10_mirrorsWith_4, hM.2.1.1, if_pos (nI_le (Nat.le_refl _) (sm31 (by omega)))]
    rfl
theorem x10_packageNow (g) {E S R f} {p w : Nat} (h : W7 E S R f) (hp : p < eNp E) (hw : w < 6) : s_X10_packageNow [.inr (19, 0), .inl (.int (nI p)), .inl (.int (nI w))] f g = rI (pkp E S R f p w) f g := by
  have h' := h
  obtain ⟨hE, hS, hR, hX, hM, hC, hN⟩ := h
  have h12 := hE.1
  have bp : ∀ kk, ax_bd (nI p) 13 kk = kk p := fun kk => bd_n (by omega) (by decide) kk
  rw [e_X10_packageNow, g_X10_packageNow_0]
  simp only [bp]
  rw [(hM.1.2.2.1 p hp).1, (hM.1.2.2.1 p hp).2, (hN.2.2.1 p hp).1, (hN.2.2.1 p hp).2, x10_closure f g _ hM.1.1 h12, cali_r, mcl_one h12 (CLI.of h') hp, x10_mirrorsWith g h' hp, cali_r]
  unfold pkp
  by_cases h0 : w = 0
  · subst h0; rfl
  rw [if_neg (nI_neL 0 h0 (by omega) (by decide)), if_neg h0]
  by_cases h1 : w = 1
  · subst h1; rfl
  rw [if_neg (nI_neL 1 h1 (by omega) (by decide)), if_neg h1]
  by_cases h2 : w = 2
  · subst h2; rfl
  rw [if_neg (nI_neL 2 h2 (by omega) (by decide)), if_neg h2]
  by_cases h3 : w = 3
  · subst h3; rfl
  rw [if_neg (nI_neL 3 h3 (by omega) (by decide)), if_neg h3]
  by_cases h4 : w = 4
  · subst h4; rfl
  rw [if_neg (nI_neL 4 h4 (by omega) (by decide)), if_neg h4]
theorem p_packageAt {n f} (g) (x1 x2 : Int32) (hI : Inv n f) : PQ n [(3, 1), (1, 2)] (s_X9_packageAt [.inr (0, 0), .inl (.int x1), .inl (.int x2)]) (s_X10_packageAt [.inr (19, 0), .inl (.int x1), .inl (.int x2)]) f g := by
  have hI0 := hI
  obtain ⟨E, S, R, h, ht⟩ := hI
  have hM := h.2.2.2.2.1
  have hX := h.2.2.2.1
  have h12 := h.1.1
  have m2 : f 19 0 2 = nI (eNp E) := hM.1.1
  obtain ⟨a1, a2⟩ := x9_pkg f g x1 hX.1.1 (by omega)
  rcases rng x1 (nI (eNp E) - 1) (show eNp E ≤ 1000 by omega) rfl with ⟨m, hm, rfl⟩ | ⟨b1, b2'⟩
  · obtain ⟨c1, c2⟩ := x9_kind f g x2 (n := 6) (by decide)
    rcases rng x2 (5 : Int32) (n := 6) (by decide) (by decide +kernel) with ⟨w, hw, rfl⟩ | ⟨d1, d2⟩
    · refine PQ.q0 (pkp E S R f m w) hI0 (f1 := f) ?_ (Same.refl f) (fun g' => ?_)
      · rw [e_X9_packageAt, g_X9_packageAt_0, a1 m hm rfl, calv_r]
        show ax_calv (s_X9_requireKind [_, .inl (.int (nI 6))] _ _) _ _ = _
        rw [c1 w hw rfl, calv_r, x9_packageProperty g h hm hw, cali_r]
      · rw [e_X10_packageAt, g_X10_packageAt_0, x10_isP, cali_r, m2, decide_eq_true (rng_ok _ hm (by omega) rfl), ite_b2, if_pos rfl, x10_within, cali_r, decide_eq_true (rng_ok (5 : Int32) (n := 6) hw (by decide) (by decide +kernel)), ite_b2, if_pos rfl, t_0, x10_packageNow g' (h.up0 0) hm hw, cali_r]
        have : pkp E S R (ax_up f 19 0 0 0) m w = pkp E S R f m w := by
          have e : (ax_up f 19 0 0 0) 3 m 3 = f 3 m 3 := by rw [ax_up_ap, if_neg (by simp)]
          unfold pkp
          rw [e]
        rw [this]
    · refine PQ.x 1 2 hI0 (by decide) ?_ (fun g' => ?_)
      · rw [e_X9_packageAt, g_X9_packageAt_0, a1 m hm rfl, calv_r]
        show ax_calv (s_X9_requireKind [_, .inl (.int (nI 6))] _ _) _ _ = _
        rw [c2 d1, calv_x]
      · rw [e_X10_packageAt, g_X10_packageAt_0, x10_isP, cali_r, m2, decide_eq_true (rng_ok _ hm (by omega) rfl), ite_b2, if_pos rfl, x10_within, cali_r, decide_eq_false d2, ite_b2, if_neg (by decide), t_2]
  · refine PQ.x 3 1 hI0 (by decide) ?_ (fun g' => ?_)
    · rw [e_X9_packageAt, g_X9_packageAt_0, a2 b1, calv_x]
    · rw [e_X10_packageAt, g_X10_packageAt_0, x10_isP, cali_r, m2, decide_eq_false b2', ite_b2, if_neg (by decide), t_1]
/-! index -/
def ixp (E : Ev) (S : St) (R : Rt) (j w : Nat) : Int32 := if w = 0 then nI (rRel R j) else if w = 1 then nI (rPk R j) else if w = 2 then rSig R j else if w = 3 then b2 (frq R S j) else eTol E j (w - 4)
theorem x9_indexProperty (g) {E S R f} {j w : Nat} (h : W7 E S R f) (h0 : 0 < j) (hj : j ≤ eNi E) (hw : w < 16) : s_X9_indexProperty [.inr (0, 0), .inl (.int (nI j)), .inl (.int (nI w))] f g = rI (ixp E S R j w) f g := by
  obtain ⟨hE, hS, hR, hX, hM, hC, hN⟩ := h
  have h20 := hE.2.2.1
  obtain ⟨c1, c2, c3⟩ := hC.2.2.2.1 j h0 hj
  have hi : f 1 0 4 = nI (eNi E) := hX.1.2.1
  have hj0 : ¬ j = 0 := by omega
  rw [e_X9_indexProperty, g_X9_indexProperty_0, x0_releaseTime f g hi h20 hj, cali_r, x0_packsIn f g hi h20 hj, cali_r, x0_signatureOf f g hi h20 hj, cali_r, x0_isFresh f g _ hi h20 hj, cali_r, ite_b, if_neg hj0, if_neg hj0, if_neg hj0, c1, c2, c3, hC.2.1, hX.2.2.1]
  unfold ixp
  by_cases h0 : w = 0
  · subst h0; rfl
  rw [if_neg (nI_neL 0 h0 (by omega) (by decide)), if_neg h0]
  by_cases h1 : w = 1
  · subst h1; rfl
  rw [if_neg (nI_neL 1 h1 (by omega) (by decide)), if_neg h1]
  by_cases h2 : w = 2
  · subst h2; rfl
  rw [if_neg (nI_neL 2 h2 (by omega) (by decide)), if_neg h2]
  by_cases h3 : w = 3
  · subst h3
    rw [if_pos (show nI 3 = 3 from rfl), if_pos rfl]
    unfold frq
    rw [b2_d]
    by_cases q : rVal R < nI (sTm S) - nI (rRel R j)
    · rw [if_neg (fun z => z.2 q), if_neg (fun z => z q)]
    · rw [if_pos ⟨hj0, q⟩, if_pos q]
  rw [if_neg (nI_neL 3 h3 (by omega) (by decide)), if_neg h3, show nI w - 4 = nI (w - 4) from pk_sub (a := w) (b := 4) (by omega), x0_versionIn f g hi h20 hj (by omega), cali_r, hX.1.2.2.2 j (w - 4) hj (by omega)]
theorem x10_packagesOf (g) {E S R f} {j : Nat} (h : W7 E S R f) (h0 : 0 < j) (hj : j ≤ eNi E) : s_X10_packagesOf [.inr (19, 0), .inl (.int (nI j))] f g = rI (nI (rPk R j)) f g := by
  obtain ⟨hE, hS, hR, hX, hM, hC, hN⟩ := h
  have h12 := hE.1
  obtain ⟨k1, k2, -⟩ := hR.2.2.1 j h0 hj
  rw [e_X10_packagesOf, g_X10_packagesOf_0]
  refine (ax_lp (fun i (a : Nat) => ax_run P_X10_packagesOf 4 [some (.inr (19, 0)), some (.inl (.int (nI j))), some (.inl (.int (nI a))), some (.inl (.int (nI i)))] [] f g 0 0) (fun p a => if p < rPk R j then a + 1 else a) (eNp E) 0 (fun i hi => ?_)).trans ?_
  · show ax_run _ _ [_, _, _, some (.inl (.int (nI i)))] _ _ _ _ _ = _
    rw [g_X10_packagesOf_4, hM.1.1, if_neg (nI_ge hi (sm31 (by omega))), x10_toldBy g hE hM.1 hj (by omega), cali_r, nI_1, nI_1, Int32.add_zero]
    by_cases c : i < rPk R j
    · have := (k2 i (by omega)).mpr c
      rw [if_neg (by rw [i_le]; rw [i_lt] at this; omega), if_pos c]
    · have : ¬ 0 < eTol E j i := fun q => c ((k2 i (by omega)).mp q)
      rw [if_pos (by rw [i_le]; rw [i_lt] at this; omega), if_neg c]
  · have sp : ∀ n, ax_it n (fun p (a : Nat) => if p < rPk R j then a + 1 else a) 0 = min n (rPk R j) := by
      intro n
      induction n with
      | zero => rw [ax_it_0]; omega
      | succ n ih =>
        rw [ax_it_s, ih]
        split <;> omega
    rw [sp, Nat.min_eq_right k1]
    show ax_run _ _ [_, _, _, some (.inl (.int (nI (eNp E))))] _ _ _ _ _ = _
    rw [g_X10_packagesOf_4, hM.1.1, if_pos (nI_le (Nat.le_refl _) (sm31 (by omega)))]
theorem x10_indexNow (g) {E S R f} {j w : Nat} (h : W7 E S R f) (h0 : 0 < j) (hj : j ≤ eNi E) (hw : w < 16) : s_X10_indexNow [.inr (19, 0), .inl (.int (nI j)), .inl (.int (nI w))] f g = rI (ixp E S R j w) f g := by
  have h' := h
  obtain ⟨hE, hS, hR, hX, hM, hC, hN⟩ := h
  have h20 := hE.2.2.1
  obtain ⟨c1, c2⟩ := hN.2.2.2.1 j h0 hj
  have bj : ∀ kk, ax_bd (nI j) 21 kk = kk j := fun kk => bd_n (by omega) (by decide) kk
  rw [e_X10_indexNow, g_X10_indexNow_0]
  simp only [bj]
  rw [c1, c2, x10_packagesOf g h' h0 hj, cali_r, x10_isFresh f g (by omega), cali_r, ite_b, hN.2.1, hM.2.2.1, c1]
  unfold ixp
  by_cases h0 : w = 0
  · subst h0; rfl
  rw [if_neg (nI_neL 0 h0 (by omega) (by decide)), if_neg h0]
  by_cases h1 : w = 1
  · subst h1; rfl
  rw [if_neg (nI_neL 1 h1 (by omega) (by decide)), if_neg h1]
  by_cases h2 : w = 2
  · subst h2; rfl
  rw [if_neg (nI_neL 2 h2 (by omega) (by decide)), if_neg h2]
  by_cases h3 : w = 3
  · subst h3
    rw [if_pos (show nI 3 = 3 from rfl), if_pos rfl]
    unfold frq
    rw [b2_d]
    by_cases q : rVal R < nI (sTm S) - nI (rRel R j)
    · rw [if_neg (fun z => z q), if_neg (fun z => z q)]
    · rw [if_pos q, if_pos q]
  rw [if_neg (nI_neL 3 h3 (by omega) (by decide)), if_neg h3, show nI w - 4 = nI (w - 4) from pk_sub (a := w) (b := 4) (by omega), x10_toldBy g hE hM.1 hj (by omega), cali_r]
theorem p_index {n f} (g) (x1 x2 : Int32) (hI : Inv n f) : PQ n [(3, 1), (1, 2)] (s_X9_index [.inr (0, 0), .inl (.int x1), .inl (.int x2)]) (s_X10_index [.inr (19, 0), .inl (.int x1), .inl (.int x2)]) f g := by
  have hI0 := hI
  obtain ⟨E, S, R, h, ht⟩ := hI
  have hM := h.2.2.2.2.1
  have hX := h.2.2.2.1
  have h12 := h.1.1
  have h20 := h.1.2.2.1
  have m3 : f 19 0 3 = nI (eNi E) := hM.1.2.1
  have m2 : f 19 0 2 = nI (eNp E) := hM.1.1
  have ci : f 1 0 4 = nI (eNi E) := hX.1.2.1
  have cp : f 1 0 3 = nI (eNp E) := hX.1.1
  have e4 : (4 : Int32) + nI (eNp E) = nI (4 + eNp E) := nI_add 4 (eNp E)
  have e3 : (3 : Int32) + nI (eNp E) = nI (4 + eNp E) - 1 := by rw [nI_sub1 (by omega)]; exact (nI_add 3 (eNp E)).trans (by congr 1; omega)
  have bad : (x1 < 1 ∨ ¬ x1 ≤ nI (eNi E)) → PQ n [(3, 1), (1, 2)] (s_X9_index [.inr (0, 0), .inl (.int x1), .inl (.int x2)]) (s_X10_index [.inr (19, 0), .inl (.int x1), .inl (.int x2)]) f g := by
    intro hb
    refine PQ.x 3 1 hI0 (by decide) ?_ (fun g' => ?_)
    · rw [e_X9_index, g_X9_index_0, ci]
      by_cases q : x1 < 1
      · rw [if_pos q]
      · rw [if_neg q, if_neg (hb.resolve_left q)]
    · rw [e_X10_index, g_X10_index_0, x10_within, cali_r, m3, decide_eq_false (fun q => ?_), ite_b2, if_neg (by decide), t_1]
      rcases hb with w | w
      · exact q.1 w
      · apply w
        have := q.2
        rw [i_lt] at this
        rw [i_le]
        omega
  rcases pk_ix x1 (n := eNi E + 1) (by omega) with q | q | ⟨j, hj, rfl⟩
  · exact bad (Or.inl (by rw [i_lt] at q ⊢; have : (0 : Int32).toInt = 0 := rfl; have : (1 : Int32).toInt = 1 := rfl; omega))
  · exact bad (Or.inr (by rw [i_le] at q ⊢; rw [nI_toInt (by omega)] at q ⊢; omega))
  · by_cases hj0 : j = 0
    · subst hj0; exact bad (Or.inl (by decide +kernel))
    have g1 : ¬ nI j < 1 := nI_nlt1 hj0 (by omega)
    have g2 : nI j ≤ nI (eNi E) := nI_le (by omega) (by omega)
    have g3 : ¬ nI (eNi E) < nI j := nI_nlt (by omega) (by omega)
    obtain ⟨c1, c2⟩ := x9_kind f g x2 (n := 4 + eNp E) (by omega)
    rcases rng x2 (nI (4 + eNp E) - 1) (n := 4 + eNp E) (by omega) rfl with ⟨w, hw, rfl⟩ | ⟨d1, d2⟩
    · refine PQ.q0 (ixp E S R j w) hI0 (f1 := f) ?_ (Same.refl f) (fun g' => ?_)
      · rw [e_X9_index, g_X9_index_0, ci, cp, e4, if_neg g1, if_pos g2, c1 w hw rfl, calv_r, x9_indexProperty g h (by omega) (by omega) (by omega), cali_r]
      · rw [e_X10_index, g_X10_index_0, x10_within, cali_r, m3, decide_eq_true ⟨g1, g3⟩, ite_b2, if_pos rfl, m2, e3, x10_within, cali_r, decide_eq_true (rng_ok _ hw (by omega) rfl), ite_b2, if_pos rfl, t_0, x10_indexNow g' (h.up0 0) (by omega) (by omega) (by omega), cali_r]
    · refine PQ.x 1 2 hI0 (by decide) ?_ (fun g' => ?_)
      · rw [e_X9_index, g_X9_index_0, ci, cp, e4, if_neg g1, if_pos g2, c2 d1, calv_x]
      · rw [e_X10_index, g_X10_index_0, x10_within, cali_r, m3, decide_eq_true ⟨g1, g3⟩, ite_b2, if_pos rfl, m2, e3, x10_within, cali_r, decide_eq_false d2, ite_b2, if_neg (by decide), t_2]
end AYD
