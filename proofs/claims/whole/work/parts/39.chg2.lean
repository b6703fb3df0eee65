/-! changes of the network's state -/
section AYG
theorem W7.net {E S S' R f f'} (h : W7 E S R f) (hS' : SW E S') (hX : NX 0 E S' f') (hM : NM E S' f') (htm : sTm S ≤ sTm S') (z : ∀ k i j, ¬ (k = 9 ∧ (j = 7 ∨ j = 8)) → k ≠ 10 → ¬ (k = 7 ∧ (j = 3 ∨ j = 4)) → ¬ (k = 19 ∧ i = 0 ∧ (j = 0 ∨ j = 6 ∨ j = 8)) → k ≠ 42 → k ≠ 43 → k ≠ 44 → f' k i j = f k i j) (hb : ∀ m, m < 6 → f' 43 0 m = 0 ∨ f' 43 0 m = 1) : W7 E S' R f' := by
  obtain ⟨hE, hS, hR, ⟨hA, hT, hD⟩, ⟨mA, mT, mD⟩, ⟨c1, c2, c3, c4, c5, c6⟩, ⟨m1, m2, m3, m4, m5, m6⟩⟩ := h
  have y : ∀ k i j, ¬ (k = 9 ∧ (j = 7 ∨ j = 8)) ∧ k ≠ 10 ∧ ¬ (k = 7 ∧ (j = 3 ∨ j = 4)) ∧ ¬ (k = 19 ∧ i = 0 ∧ (j = 0 ∨ j = 6 ∨ j = 8)) ∧ k ≠ 42 ∧ k ≠ 43 ∧ k ≠ 44 → f' k i j = f k i j := fun k i j q => z k i j q.1 q.2.1 q.2.2.1 q.2.2.2.1 q.2.2.2.2.1 q.2.2.2.2.2.1 q.2.2.2.2.2.2
  refine ⟨hE, hS', ⟨hR.1, hR.2.1, fun j h1 h2 => ?_, hR.2.2.2⟩, hX, hM, ⟨by rw [y _ _ _ (by omega)]; exact c1, by rw [y _ _ _ (by omega)]; exact c2, c3.of (fun k i j q => y k i j (by omega)), c4.of (fun k i j q => y k i j (by omega)), c5.of (fun k i j q => y k i j (by omega)), c6.of (fun k i j q => y k i j (by omega))⟩, ⟨by rw [y _ _ _ (by omega)]; exact m1, by rw [y _ _ _ (by omega)]; exact m2, m3.of (fun k i j q => y k i j (by omega)), m4.of (fun k i j q => y k i j (by omega)), m5.of (fun k i j q => y k i j (by omega)), by rw [y _ _ _ (by omega)]; exact m6.1, fun i hi => by rw [y _ _ _ (by omega)]; exact m6.2.1 i hi, hb⟩⟩
  obtain ⟨k1, k2, k3⟩ := hR.2.2.1 j h1 h2
  exact ⟨k1, k2, by omega⟩
theorem p_tamper {n f} (g) (x : Int32) (hI : Inv n f) : PQ n [(3, 1), (2, 2)] (s_X9_tamper [.inr (0, 0), .inl (.int x)]) (s_X10_tamper [.inr (19, 0), .inl (.int x)]) f g := by
  have hI0 := hI
  obtain ⟨E, S, R, h, ht⟩ := hI
  have h' := h
  obtain ⟨hE, hS, hR, hX, hM, hC, hN⟩ := h
  have h6 := hE.2.1
  have h20 := hE.2.2.1
  have m4 : f 19 0 4 = nI (eNm E) := hM.2.1.1
  obtain ⟨a1, a2⟩ := x9_mir f g x hX.2.1.1 (by omega)
  rcases rng x (nI (eNm E) - 1) (show eNm E ≤ 1000 by omega) rfl with ⟨m, hm, rfl⟩ | ⟨b1, b2'⟩
  · have hd := decide_eq_true (rng_ok (nI (eNm E) - 1) hm (by omega) rfl)
    have ho := hS.1 m hm
    have co : f 9 (6 * 0 + m) 7 = nI (sOwn S m) := (hX.2.2.2.2 m hm).1
    have mo : f 42 0 m = nI (sOwn S m) := (hM.2.2.2.2 m hm).1
    have bm : ∀ kk, ax_bd (nI m) 6 kk = kk m := fun kk => bd_n (by omega) (by decide) kk
    by_cases q : sOwn S m = 0
    · refine PQ.x 2 2 hI0 (by decide) ?_ (fun g' => ?_)
      · rw [e_X9_tamper, g_X9_tamper_0, a1 m hm rfl, calv_r, bm, co, q, if_pos (show nI 0 = 0 from rfl)]
      · rw [e_X10_tamper, g_X10_tamper_0, x10_isM, cali_r, m4, hd, ite_b2, if_pos rfl]
        simp only [bm]
        rw [mo, q, if_pos (show nI 0 = 0 from rfl), t_2]
    · have e1 : (ax_up f 9 (6 * 0 + m) 8 1) 9 (6 * 0 + m) 7 = nI (sOwn S m) := by rw [upn (by omega)]; exact co
      refine PQ.c (f1 := ax_up f 9 (6 * 0 + m) 8 1) (f2 := ax_up (ax_up (ax_up f 9 (6 * 0 + m) 8 1) 19 0 0 0) 43 0 m 1) (nI (sOwn S m)) ?_ (fun g' => ?_) ?_ ⟨E, (sOwn S, up1 (sWr S) m true, sFl S, sTm S, sCp S), R, h'.net hS ⟨?_, ?_, ?_⟩ ⟨?_, ?_, ?_⟩ (Nat.le_refl _) (fun k i j q1 q2 q3 q4 q5 q6 q7 => by rw [upn (by omega), upn (by omega), upn (by omega)]) (fun m' hm' => ?_), Nat.le_trans ht (by omega)⟩
      · rw [e_X9_tamper, g_X9_tamper_0, a1 m hm rfl, calv_r, bm, co, if_neg (nI_ne0 (by omega) (sm31 (by omega))), e1]
      · have e2 : (ax_up f 9 (6 * 0 + m) 8 1) 42 0 m = nI (sOwn S m) := by rw [upn (by omega)]; exact mo
        have e3 : (ax_up f 9 (6 * 0 + m) 8 1) 19 0 4 = nI (eNm E) := by rw [upn (by omega)]; exact m4
        have e4 : (ax_up (ax_up (ax_up f 9 (6 * 0 + m) 8 1) 19 0 0 0) 43 0 m 1) 42 0 m = nI (sOwn S m) := by rw [upn (by omega), upn (by omega)]; exact e2
        rw [e_X10_tamper, g_X10_tamper_0, x10_isM, cali_r, e3, hd, ite_b2, if_pos rfl]
        simp only [bm]
        rw [e2, if_neg (nI_ne0 (by omega) (sm31 (by omega))), t_0, e4]
      · rw [upn (by omega)]; exact ax_up_s _ _ _ _ _
      · exact hX.1.of' (fun k i j q => by rw [upn (by omega), upn (by omega), upn (by omega)])
      · exact hX.2.1.of' (fun k i j q => by rw [upn (by omega), upn (by omega), upn (by omega)])
      · obtain ⟨d1, d2, d3⟩ := hX.2.2
        refine ⟨by rw [upn (by omega), upn (by omega), upn (by omega)]; exact d1, by rw [upn (by omega), upn (by omega), upn (by omega)]; exact d2, fun m' hm' => ⟨by rw [upn (by omega), upn (by omega), upn (by omega)]; exact (d3 m' hm').1, ?_, fun p hp => by rw [upn (by omega), upn (by omega), upn (by omega)]; exact (d3 m' hm').2.2 p hp⟩⟩
        show _ = b2 (up1 (sWr S) m true m')
        rw [upn (by omega), upn (by omega)]
        by_cases c : m' = m
        · subst c; rw [up1_s]; simp [ax_up_ap, b2]
        · rw [up1_n _ _ c, upn (by omega)]; exact (d3 m' hm').2.1
      · exact hM.1.of' (fun k i j q => by rw [upn (by omega), upn (by omega), upn (by omega)])
      · exact hM.2.1.of' (fun k i j q => by rw [upn (by omega), upn (by omega), upn (by omega)])
      · obtain ⟨d1, d2, d3⟩ := hM.2.2
        refine ⟨by rw [upn (by omega), upn (by omega), upn (by omega)]; exact d1, by rw [upn (by omega), upn (by omega), upn (by omega)]; exact d2, fun m' hm' => ⟨by rw [upn (by omega), upn (by omega), upn (by omega)]; exact (d3 m' hm').1, ?_, fun p hp => by rw [upn (by omega), upn (by omega), upn (by omega)]; exact (d3 m' hm').2.2 p hp⟩⟩
        show _ = b2 (up1 (sWr S) m true m')
        by_cases c : m' = m
        · subst c; rw [up1_s]; simp [ax_up_ap, b2]
        · rw [up1_n _ _ c, upn (by omega), upn (by omega), upn (by omega)]; exact (d3 m' hm').2.1
      · by_cases c : m' = m
        · subst c; right; simp [ax_up_ap]
        · rw [upn (by omega), upn (by omega), upn (by omega)]; exact hN.2.2.2.2.2.2.2 m' hm'
  · refine PQ.x 3 1 hI0 (by decide) ?_ (fun g' => ?_)
    · rw [e_X9_tamper, g_X9_tamper_0, a2 b1, calv_x]
    · rw [e_X10_tamper, g_X10_tamper_0, x10_isM, cali_r, m4, decide_eq_false b2', ite_b2, if_neg (by decide), t_1]
def sRem (S : St) (m p : Nat) (v : Int32) : St := (sOwn S, sWr S, up1 (sFl S) m (upd (sFl S m) p (sFl S m p &&& (((1 : Int32) <<< (v &&& 31)) ^^^ (-1)))), sTm S, sCp S)
theorem SW_rem {E S} {m p : Nat} (v : Int32) (hS : SW E S) (hm : m < eNm E) : SW E (sRem S m p v) := by
  refine ⟨hS.1, fun m' hm' p' => ?_, fun m' hm' p' hp' => ?_, hS.2.2.2⟩
  · show up1 (sFl S) m _ m' p' &&& _ = 0
    by_cases c : m' = m
    · subst c
      rw [up1_s, upd_ap]
      split
      · exact and_and1 _ _ (hS.2.1 m' hm' p)
      · exact hS.2.1 m' hm' p'
    · rw [up1_n _ _ c]; exact hS.2.1 m' hm' p'
  · show up1 (sFl S) m _ m' p' = 0
    by_cases c : m' = m
    · subst c
      rw [up1_s, upd_ap]
      split
      · rename_i e
        subst e
        rw [hS.2.2.1 m' hm' p' hp']
        exact Int32.zero_and
      · exact hS.2.2.1 m' hm' p' hp'
    · rw [up1_n _ _ c]; exact hS.2.2.1 m' hm' p' hp'
theorem p_removeFile {n f} (g) (x1 x2 x3 : Int32) (hI : Inv n f) : PQ n [(3, 1), (2, 2)] (s_X9_removeFile [.inr (0, 0), .inl (.int x1), .inl (.int x2), .inl (.int x3)]) (s_X10_removeFile [.inr (19, 0), .inl (.int x1), .inl (.int x2), .inl (.int x3)]) f g := by
  have hI0 := hI
  obtain ⟨E, S, R, h, ht⟩ := hI
  have h' := h
  obtain ⟨hE, hS, hR, hX, hM, hC, hN⟩ := h
  have h6 := hE.2.1
  have h12 := hE.1
  have m4 : f 19 0 4 = nI (eNm E) := hM.2.1.1
  have m2 : f 19 0 2 = nI (eNp E) := hM.1.1
  obtain ⟨a1, a2⟩ := x9_mir f g x1 hX.2.1.1 (by omega)
  obtain ⟨c1, c2⟩ := x9_pkg f g x2 hX.1.1 (by omega)
  rcases rng x1 (nI (eNm E) - 1) (show eNm E ≤ 1000 by omega) rfl with ⟨m, hm, rfl⟩ | ⟨b1, b2'⟩
  · have hd := decide_eq_true (rng_ok (nI (eNm E) - 1) hm (by omega) rfl)
    rcases rng x2 (nI (eNp E) - 1) (show eNp E ≤ 1000 by omega) rfl with ⟨p, hp, rfl⟩ | ⟨d1, d2⟩
    · have hd2 := decide_eq_true (rng_ok (nI (eNp E) - 1) hp (by omega) rfl)
      have bx : ∀ kk, ax_bd (12 * nI m + nI p) 72 kk = kk (12 * m + p) := fun kk => by rw [ix12]; exact bd_n (by omega) (by decide) kk
      have cF : f 10 (6 * 0 + m) p = sFl S m p := (hX.2.2.2.2 m hm).2.2 p (by omega)
      have mF : f 44 0 (12 * m + p) = sFl S m p := (hM.2.2.2.2 m hm).2.2 p (by omega)
      cases q : hf (sFl S m p) x3 with
      | false =>
        refine PQ.x 2 2 hI0 (by decide) ?_ (fun g' => ?_)
        · rw [e_X9_removeFile, g_X9_removeFile_0, a1 m hm rfl, calv_r, c1 p hp rfl, calv_r, bd_n (by omega) (by decide), x4_hasF f g _ _ (by omega), cali_r, cF, q, ite_b2, if_neg (by decide)]
        · rw [e_X10_removeFile, g_X10_removeFile_0, x10_isM, cali_r, m4, hd, ite_b2, if_pos rfl, x10_isP, cali_r, m2, hd2, ite_b2, if_pos rfl, x10_within, cali_r, ite_b2, t_2, bx, x10_has, cali_r, mF, ite_b2, t_2]
          unfold hf at q
          rw [decide_eq_false_iff_not] at q
          by_cases w : ¬ x3 < 1 ∧ ¬ 30 < x3
          · rw [decide_eq_true w, if_pos rfl, if_neg (fun z => q ⟨w.1, w.2, z⟩)]
          · rw [decide_eq_false w, if_neg (by decide)]
      | true =>
        have q' := q
        unfold hf at q'
        rw [decide_eq_true_eq] at q'
        obtain ⟨w1, w2, w3⟩ := q'
        have hS2 := SW_rem (p := p) x3 hS hm
        obtain ⟨F1, hF1⟩ : ∃ F1, F1 = ax_up f 10 (6 * 0 + m) p (sFl S m p &&& (((1 : Int32) <<< (x3 &&& 31)) ^^^ (-1))) := ⟨_, rfl⟩
        obtain ⟨F2, hF2⟩ : ∃ F2, F2 = ax_up (ax_up F1 19 0 0 0) 44 0 (12 * m + p) (sFl S m p &&& (((1 : Int32) <<< (x3 &&& 31)) ^^^ (-1))) := ⟨_, rfl⟩
        have y1 : ∀ k i j, ¬ (k = 10 ∧ i = 6 * 0 + m ∧ j = p) → F1 k i j = f k i j := fun k i j z => by rw [hF1]; exact upn z
        have y2 : ∀ k i j, ¬ (k = 19 ∧ i = 0 ∧ j = 0) → ¬ (k = 44 ∧ i = 0 ∧ j = 12 * m + p) → F2 k i j = F1 k i j := fun k i j z1 z2 => by rw [hF2, upn z2, upn z1]
        have hD1 : ∀ F, (∀ j, F 10 (6 * 0 + m) j = F1 10 (6 * 0 + m) j) → (∀ k i j, (k = 7 ∧ i = 0 ∧ (j = 3 ∨ j = 4)) ∨ (k = 9 ∧ (j = 7 ∨ j = 8)) ∨ (k = 10 ∧ i ≠ 6 * 0 + m) → F k i j = f k i j) → ND 0 E (sRem S m p x3) F := by
          intro F u1 u2
          obtain ⟨d1, d2, d3⟩ := hX.2.2
          refine ⟨by rw [u2 _ _ _ (by omega)]; exact d1, by rw [u2 _ _ _ (by omega)]; exact d2, fun m' hm' => ⟨by rw [u2 _ _ _ (by omega)]; exact (d3 m' hm').1, by rw [u2 _ _ _ (by omega)]; exact (d3 m' hm').2.1, fun p' hp' => ?_⟩⟩
          show _ = up1 (sFl S) m _ m' p'
          by_cases c : m' = m
          · subst c
            rw [up1_s, upd_ap, u1, hF1]
            by_cases e : p' = p
            · subst e; rw [if_pos rfl]; exact ax_up_s _ _ _ _ _
            · rw [if_neg e, upn (by omega)]; exact (d3 m' hm').2.2 p' hp'
          · rw [up1_n _ _ c, u2 _ _ _ (by omega)]; exact (d3 m' hm').2.2 p' hp'
        have hX2 : NX 0 E (sRem S m p x3) F2 := ⟨hX.1.of' (fun k i j z => by rw [y2 k i j (by omega) (by omega), y1 k i j (by omega)]), hX.2.1.of' (fun k i j z => by rw [y2 k i j (by omega) (by omega), y1 k i j (by omega)]), hD1 F2 (fun j => y2 _ _ _ (by omega) (by omega)) (fun k i j z => by rw [y2 k i j (by omega) (by omega), y1 k i j (by omega)])⟩
        have hM2 : NM E (sRem S m p x3) F2 := by
          refine ⟨hM.1.of' (fun k i j z => by rw [y2 k i j (by omega) (by omega), y1 k i j (by omega)]), hM.2.1.of' (fun k i j z => by rw [y2 k i j (by omega) (by omega), y1 k i j (by omega)]), ?_⟩
          obtain ⟨d1, d2, d3⟩ := hM.2.2
          refine ⟨by rw [y2 _ _ _ (by omega) (by omega), y1 _ _ _ (by omega)]; exact d1, by rw [y2 _ _ _ (by omega) (by omega), y1 _ _ _ (by omega)]; exact d2, fun m' hm' => ⟨by rw [y2 _ _ _ (by omega) (by omega), y1 _ _ _ (by omega)]; exact (d3 m' hm').1, by rw [y2 _ _ _ (by omega) (by omega), y1 _ _ _ (by omega)]; exact (d3 m' hm').2.1, fun p' hp' => ?_⟩⟩
          show _ = up1 (sFl S) m _ m' p'
          by_cases c : m' = m
          · subst c
            rw [up1_s, upd_ap]
            by_cases e : p' = p
            · subst e; rw [if_pos rfl, hF2]; exact ax_up_s _ _ _ _ _
            · rw [if_neg e, y2 _ _ _ (by omega) (by omega), y1 _ _ _ (by omega)]; exact (d3 m' hm').2.2 p' hp'
          · rw [up1_n _ _ c, y2 _ _ _ (by omega) (by omega), y1 _ _ _ (by omega)]; exact (d3 m' hm').2.2 p' hp'
        refine PQ.c (f1 := F1) (f2 := F2) (ax_sum 12 (fun p' => bts (sFl (sRem S m p x3) m p'))) ?_ (fun g' => ?_) ?_ ⟨E, sRem S m p x3, R, h'.net hS2 hX2 hM2 (Nat.le_refl _) (fun k i j q1 q2 q3 q4 q5 q6 q7 => by rw [y2 k i j (by omega) (by omega), y1 k i j (by omega)]) (fun m' hm' => by rw [y2 _ _ _ (by omega) (by omega), y1 _ _ _ (by omega)]; exact hN.2.2.2.2.2.2.2 m' hm'), Nat.le_trans ht (by omega)⟩
        · rw [e_X9_removeFile, g_X9_removeFile_0, a1 m hm rfl, calv_r, c1 p hp rfl, calv_r, bd_n (by omega) (by decide), x4_hasF f g _ _ (by omega), cali_r, cF, q, ite_b2, if_pos rfl, x4_dropFile f g _ _ (by omega), calv_r, cF, ← hF1, x4_fileCount (n := 0) g hS2 (hD1 F1 (fun _ => rfl) (fun k i j z => y1 k i j (by omega))) hm, cali_r]
        · have e4 : F1 19 0 4 = nI (eNm E) := by rw [y1 _ _ _ (by omega)]; exact m4
          have e2 : F1 19 0 2 = nI (eNp E) := by rw [y1 _ _ _ (by omega)]; exact m2
          have eF : F1 44 0 (12 * m + p) = sFl S m p := by rw [y1 _ _ _ (by omega)]; exact mF
          have eF2 : (ax_up F1 19 0 0 0) 44 0 (12 * m + p) = sFl S m p := by rw [upn (by omega)]; exact eF
          rw [e_X10_removeFile, g_X10_removeFile_0, x10_isM, cali_r, e4, hd, ite_b2, if_pos rfl, x10_isP, cali_r, e2, hd2, ite_b2, if_pos rfl, x10_within, cali_r, decide_eq_true ⟨w1, w2⟩, ite_b2, if_pos rfl, bx, x10_has, cali_r, eF, w3, ite_b2, if_pos rfl, t_0, bx, bx, eF2, ← hF2, x10_fileCount g' hE hS2 hM2 hm, cali_r]
        · rw [hF2, upn (by omega)]; exact ax_up_s _ _ _ _ _
    · refine PQ.x 3 1 hI0 (by decide) ?_ (fun g' => ?_)
      · rw [e_X9_removeFile, g_X9_removeFile_0, a1 m hm rfl, calv_r, c2 d1, calv_x]
      · rw [e_X10_removeFile, g_X10_removeFile_0, x10_isM, cali_r, m4, hd, ite_b2, if_pos rfl, x10_isP, cali_r, m2, decide_eq_false d2, ite_b2, if_neg (by decide), t_1]
  · refine PQ.x 3 1 hI0 (by decide) ?_ (fun g' => ?_)
    · rw [e_X9_removeFile, g_X9_removeFile_0, a2 b1, calv_x]
    · rw [e_X10_removeFile, g_X10_removeFile_0, x10_isM, cali_r, m4, decide_eq_false b2', ite_b2, if_neg (by decide), t_1]
theorem p_pass {n f} (g) (x : Int32) (hn : n ≤ 1000) (hI : Inv n f) : PQ n [(1, 1)] (s_X9_pass [.inr (0, 0), .inl (.int x)]) (s_X10_pass [.inr (19, 0), .inl (.int x)]) f g := by
  have hI0 := hI
  obtain ⟨E, S, R, h, ht⟩ := hI
  have h' := h
  obtain ⟨hE, hS, hR, hX, hM, hC, hN⟩ := h
  by_cases q1 : x < 1
  · refine PQ.x 1 1 hI0 (by decide) ?_ (fun g' => ?_)
    · rw [e_X9_pass, g_X9_pass_0, if_pos q1]
    · rw [e_X10_pass, g_X10_pass_0, x10_within, cali_r, decide_eq_false (fun w => w.1 q1), ite_b2, if_neg (by decide), t_1]
  by_cases q2 : x ≤ 200
  · have hin : ¬ x < 1 ∧ ¬ 200 < x := ⟨q1, by rw [i_lt]; rw [i_le] at q2; omega⟩
    obtain ⟨v, hv, rfl⟩ := nI_of2 (x := x) (M := 200) (n := 200) rfl (by rw [i_lt] at q1 ⊢; have : (1 : Int32).toInt = 1 := rfl; have : (0 : Int32).toInt = 0 := rfl; omega) q2
    obtain ⟨f1, h1, i1, i2, i3, i4⟩ := ax_lpE (fun i (y : ax_F) => ax_run P_X9_pass 32 [some (.inr (0, 0)), some (.inl (.int (nI v))), some (.inl (.int (f 7 0 4))), some (.inl (.int (nI i)))] [] y g 0 0) (fun i y (T : St) => NX 0 E T y ∧ SW E T ∧ sTm T = sTm S + i ∧ Fr 0 f y) (fun _ T => mnt E T) v f S ⟨hX, hS, rfl, Fr.refl 0 f⟩ (by
      intro i y T hi hI
      obtain ⟨i1, i2, i3, i4⟩ := hI
      obtain ⟨f2, e2, hX2, hT2, htm, hF2⟩ := x5_passMinute g hE i2 (by omega) i1
      rw [g_X9_pass_32, if_neg (nI_ge hi (sm31 (by omega))), e2, calv_r, nI_1]
      exact ⟨f2, rfl, hX2, hT2, by rw [htm, i3]; omega, i4.trans hF2⟩)
    have y1 : ∀ k i j, ¬ (k = 9 ∧ (j = 7 ∨ j = 8)) → k ≠ 10 → ¬ (k = 7 ∧ (j = 3 ∨ j = 4)) → f1 k i j = f k i j := fun k i j w1 w2 w3 => i4 k i j (by unfold Dy; omega)
    have hM1 : NM E S (ax_up f1 19 0 0 0) := by
      refine ⟨hM.1.of' (fun k i j w => ?_), hM.2.1.of' (fun k i j w => ?_), hM.2.2.of' (fun k i j w => ?_)⟩
      · rw [upn (by omega), y1 _ _ _ (by omega) (by omega) (by omega)]
      · rw [upn (by omega), y1 _ _ _ (by omega) (by omega) (by omega)]
      · rw [upn (by omega), y1 _ _ _ (by omega) (by omega) (by omega)]
    refine Or.inl ⟨sCp (ax_it v (fun _ T => mnt E T) S) - sCp S, f1, ?_, fun g' => ?_⟩
    · rw [e_X9_pass, g_X9_pass_0, if_neg q1, if_pos q2]
      refine h1.trans ?_
      rw [g_X9_pass_32, if_pos (nI_le (Nat.le_refl _) (sm31 (by omega))), i1.2.2.2.1, hX.2.2.2.1]
    · have e8 : (ax_up f1 19 0 0 0) 19 0 8 = sCp S := hM1.2.2.2.1
      obtain ⟨f2, h2, j1, j2⟩ := ax_lpE (fun i (y : ax_F) => ax_run P_X10_pass 36 [some (.inr (19, 0)), some (.inl (.int (nI v))), some (.inl (.int (sCp S))), some (.inl (.int (nI i)))] [] y g' 0 0) (fun i y (T : St) => NM E T y ∧ (SW E T ∧ sTm T = sTm S + i ∧ Fm (ax_up f1 19 0 0 0) y)) (fun _ T => mnt E T) v (ax_up f1 19 0 0 0) S ⟨hM1, hS, rfl, Fm.refl _⟩ (by
        intro i y T hi hI
        obtain ⟨j1, j2, j3, j4⟩ := hI
        obtain ⟨f2, e2, hM2, hF2⟩ := x10_minute g' hE j2 (by omega) j1
        obtain ⟨hT2, htm⟩ := mnt_ok hE j2 (by omega)
        rw [g_X10_pass_36, if_neg (nI_ge hi (sm31 (by omega))), e2, calv_r, nI_1]
        exact ⟨f2, rfl, hM2, hT2, by rw [htm, j3]; omega, j4.trans hF2⟩)
      obtain ⟨j2, j3, j4⟩ := j2
      have y2 : ∀ k i j, k ≠ 42 → k ≠ 43 → k ≠ 44 → ¬ (k = 19 ∧ i = 0 ∧ (j = 0 ∨ j = 6 ∨ j = 8)) → f2 k i j = f1 k i j := fun k i j w1 w2 w3 w4 => by rw [j4.1 k i j w1 w2 w3 (by omega), upn (by omega)]
      refine ⟨f2, ?_, ?_, E, _, R, h'.net j2 ?_ j1 (by omega) (fun k i j w1 w2 w3 w4 w5 w6 w7 => by rw [y2 k i j w5 w6 w7 w4, y1 k i j w1 w2 w3]) (fun m hm => ?_), by rw [j3]; omega⟩
      · rw [e_X10_pass, g_X10_pass_0, x10_within, cali_r, decide_eq_true hin, ite_b2, if_pos rfl, t_0, e8]
        refine h2.trans ?_
        rw [g_X10_pass_36, if_pos (nI_le (Nat.le_refl _) (sm31 (by omega))), j1.2.2.2.1]
      · rw [j4.1 19 0 0 (by decide) (by decide) (by decide) (by decide)]; exact ax_up_s _ _ _ _ _
      · exact ⟨i1.1.of' (fun k i j w => y2 k i j (by omega) (by omega) (by omega) (by omega)), i1.2.1.of' (fun k i j w => y2 k i j (by omega) (by omega) (by omega) (by omega)), i1.2.2.of' (fun k i j w => y2 k i j (by omega) (by omega) (by omega) (by omega))⟩
      · rcases j4.2 m with w | w
        · rw [w, upn (by omega), y1 _ _ _ (by omega) (by omega) (by omega)]; exact hN.2.2.2.2.2.2.2 m hm
        · exact Or.inl w
  · refine PQ.x 1 1 hI0 (by decide) ?_ (fun g' => ?_)
    · rw [e_X9_pass, g_X9_pass_0, if_neg q1, if_neg q2]
    · rw [e_X10_pass, g_X10_pass_0, x10_within, cali_r, decide_eq_false (fun w => w.2 (by rw [i_lt]; rw [i_le] at q2; omega)), ite_b2, if_neg (by decide), t_1]
end AYG
