/-! changes: begin, publish, clients -/
section AYH
theorem p_begin {n f} (g) (x : Int32) (hI : Inv n f) : PQ n [(1, 1)] (s_X9_begin [.inr (0, 0), .inl (.int x)]) (s_X10_begin [.inr (19, 0), .inl (.int x)]) f g := by
  have hI0 := hI
  obtain ⟨E, S, R, h, ht⟩ := hI
  obtain ⟨hE, hS, hR, hX, hM, hC, hN⟩ := h
  by_cases q1 : x < 1
  · refine PQ.x 1 1 hI0 (by decide) ?_ (fun g' => ?_)
    · rw [e_X9_begin, g_X9_begin_0, if_pos q1]
    · rw [e_X10_begin, g_X10_begin_0, x10_within, cali_r, decide_eq_false (fun w => w.1 q1), ite_b2, if_neg (by decide), t_1]
  by_cases q2 : x ≤ 5
  · have hin : ¬ x < 1 ∧ ¬ 5 < x := ⟨q1, by rw [i_lt]; rw [i_le] at q2; omega⟩
    obtain ⟨v, hv, rfl⟩ := nI_of2 (x := x) (M := 5) (n := 5) rfl (by rw [i_lt] at q1 ⊢; have : (1 : Int32).toInt = 1 := rfl; have : (0 : Int32).toInt = 0 := rfl; omega) q2
    have hv1 : 1 ≤ v := by
      rcases Nat.eq_zero_or_pos v with w | w
      · subst w; exact absurd (by decide +kernel) q1
      · exact w
    obtain ⟨F1, hF1⟩ : ∃ F1, F1 = ax_up (ax_up (ax_up (ax_up (ax_up (ax_up (ax_up (ax_up f 1 0 2 (nI v)) 1 0 3 0) 1 0 4 0) 1 0 5 60) 7 0 2 0) 7 0 3 0) 7 0 4 0) 0 0 6 0 := ⟨_, rfl⟩
    obtain ⟨F2, hF2⟩ : ∃ F2, F2 = ax_up (ax_up (ax_up (ax_up (ax_up (ax_up (ax_up (ax_up (ax_up F1 19 0 0 0) 19 0 1 (nI v)) 19 0 2 0) 19 0 3 0) 19 0 4 0) 19 0 5 0) 19 0 6 0) 19 0 7 60) 19 0 8 0 := ⟨_, rfl⟩
    have y1 : ∀ k i j, ¬ (k = 1 ∧ i = 0 ∧ 2 ≤ j ∧ j ≤ 5) → ¬ (k = 7 ∧ i = 0 ∧ 2 ≤ j ∧ j ≤ 4) → ¬ (k = 0 ∧ i = 0 ∧ j = 6) → F1 k i j = f k i j := fun k i j w1 w2 w3 => by rw [hF1, upn (by omega), upn (by omega), upn (by omega), upn (by omega), upn (by omega), upn (by omega), upn (by omega), upn (by omega)]
    have y2 : ∀ k i j, ¬ (k = 19 ∧ i = 0 ∧ j ≤ 8) → F2 k i j = F1 k i j := fun k i j w1 => by rw [hF2, upn (by omega), upn (by omega), upn (by omega), upn (by omega), upn (by omega), upn (by omega), upn (by omega), upn (by omega), upn (by omega)]
    refine PQ.c (f1 := F1) (f2 := F2) (nI (rSec R)) ?_ (fun g' => ?_) ?_ ⟨(fun _ => 0, fun _ => 0, fun _ _ => 0, fun _ => 0, fun _ => 0, fun _ => 1, fun _ => 0, fun _ => none, fun _ => false, 0, 0, 0), (fun _ => 0, fun _ => false, fun _ _ => 0, 0, 0), (v, 60, fun _ => 0, fun _ => 0, fun _ => 0, fun _ => 0, fun _ => 0, 0, fun _ => 0, fun _ => 0, fun _ _ => 0, rLen R, rBuf R), ⟨?_, ?_, ?_, ?_, ?_, ?_, ?_⟩, Nat.zero_le _⟩
    · rw [e_X9_begin, g_X9_begin_0, if_neg q1, if_pos q2, x0_restart, calv_r, e_X5_restart, g_X5_restart_0, calv_r, hC.1, hF1]
    · have e1 : (ax_up F1 19 0 0 0) 19 0 1 = nI (rSec R) := by rw [upn (by omega), y1 _ _ _ (by omega) (by omega) (by omega)]; exact hN.1
      rw [e_X10_begin, g_X10_begin_0, x10_within, cali_r, decide_eq_true hin, ite_b2, if_pos rfl, t_0, e1, hF2]
    · rw [hF2, upn (by omega), upn (by omega), upn (by omega), upn (by omega), upn (by omega), upn (by omega), upn (by omega), upn (by omega)]; exact ax_up_s _ _ _ _ _
    · exact ⟨Nat.zero_le _, Nat.zero_le _, Nat.zero_le _, fun m hm => absurd hm (Nat.not_lt_zero m), fun j p => ⟨0, Nat.zero_le _, rfl⟩⟩
    · exact ⟨fun m hm => absurd hm (Nat.not_lt_zero m), fun m hm => absurd hm (Nat.not_lt_zero m), fun m hm => absurd hm (Nat.not_lt_zero m), show 0 < 2 ^ 30 by decide⟩
    · exact ⟨⟨hv1, hv⟩, fun p hp => absurd hp (Nat.not_lt_zero p), fun j h1 h2 => absurd (Nat.lt_of_lt_of_le h1 h2) (Nat.not_lt_zero 0), ⟨Nat.zero_le _, fun c hc => absurd hc (Nat.not_lt_zero c)⟩, hR.2.2.2.2⟩
    · refine ⟨⟨?_, ?_, fun p hp => absurd hp (Nat.not_lt_zero p), fun j p hj hp => ?_⟩, ⟨?_, fun m hm => absurd hm (Nat.not_lt_zero m)⟩, ?_, ?_, fun m hm => absurd hm (Nat.not_lt_zero m)⟩
      · rw [y2 _ _ _ (by omega), hF1, upn (by omega), upn (by omega), upn (by omega), upn (by omega), upn (by omega), upn (by omega)]; exact ax_up_s _ _ _ _ _
      · rw [y2 _ _ _ (by omega), hF1, upn (by omega), upn (by omega), upn (by omega), upn (by omega), upn (by omega)]; exact ax_up_s _ _ _ _ _
      · have : j = 0 := Nat.le_zero.mp hj
        subst this
        rfl
      · rw [y2 _ _ _ (by omega), hF1, upn (by omega), upn (by omega), upn (by omega)]; exact ax_up_s _ _ _ _ _
      · rw [y2 _ _ _ (by omega), hF1, upn (by omega), upn (by omega)]; exact ax_up_s _ _ _ _ _
      · rw [y2 _ _ _ (by omega), hF1, upn (by omega)]; exact ax_up_s _ _ _ _ _
    · refine ⟨⟨?_, ?_, fun p hp => absurd hp (Nat.not_lt_zero p), fun j p hj hp => ?_, fun p hp => rfl⟩, ⟨?_, fun m hm => absurd hm (Nat.not_lt_zero m)⟩, ?_, ?_, fun m hm => absurd hm (Nat.not_lt_zero m)⟩
      · rw [hF2, upn (by omega), upn (by omega), upn (by omega), upn (by omega), upn (by omega), upn (by omega)]; exact ax_up_s _ _ _ _ _
      · rw [hF2, upn (by omega), upn (by omega), upn (by omega), upn (by omega), upn (by omega)]; exact ax_up_s _ _ _ _ _
      · have : j = 0 := Nat.le_zero.mp hj
        subst this
        rw [y2 _ _ _ (by omega), y1 _ _ _ (by omega) (by omega) (by omega), hM.1.2.2.2.1 0 p (Nat.zero_le _) hp, hM.1.2.2.2.2 p hp]
        rfl
      · rw [hF2, upn (by omega), upn (by omega), upn (by omega), upn (by omega)]; exact ax_up_s _ _ _ _ _
      · rw [hF2, upn (by omega), upn (by omega)]; exact ax_up_s _ _ _ _ _
      · rw [hF2]; exact ax_up_s _ _ _ _ _
    · refine ⟨?_, ?_, fun p hp => absurd hp (Nat.not_lt_zero p), fun j h1 h2 => absurd (Nat.lt_of_lt_of_le h1 h2) (Nat.not_lt_zero 0), ⟨?_, fun c hc => absurd hc (Nat.not_lt_zero c)⟩, ?_, fun i hi => ?_⟩
      · rw [y2 _ _ _ (by omega), hF1, upn (by omega), upn (by omega), upn (by omega), upn (by omega), upn (by omega), upn (by omega), upn (by omega)]; exact ax_up_s _ _ _ _ _
      · rw [y2 _ _ _ (by omega), hF1, upn (by omega), upn (by omega), upn (by omega), upn (by omega)]; exact ax_up_s _ _ _ _ _
      · rw [y2 _ _ _ (by omega), hF1]; exact ax_up_s _ _ _ _ _
      · rw [y2 _ _ _ (by omega), y1 _ _ _ (by omega) (by omega) (by omega)]; exact hC.2.2.2.2.2.1
      · rw [y2 _ _ _ (by omega), y1 _ _ _ (by omega) (by omega) (by omega)]; exact hC.2.2.2.2.2.2 i hi
    · refine ⟨?_, ?_, fun p hp => absurd hp (Nat.not_lt_zero p), fun j h1 h2 => absurd (Nat.lt_of_lt_of_le h1 h2) (Nat.not_lt_zero 0), ⟨?_, fun c hc => absurd hc (Nat.not_lt_zero c)⟩, ?_, fun i hi => ?_, fun m hm => ?_⟩
      · rw [hF2, upn (by omega), upn (by omega), upn (by omega), upn (by omega), upn (by omega), upn (by omega), upn (by omega)]; exact ax_up_s _ _ _ _ _
      · rw [hF2, upn (by omega)]; exact ax_up_s _ _ _ _ _
      · rw [hF2, upn (by omega), upn (by omega), upn (by omega)]; exact ax_up_s _ _ _ _ _
      · rw [y2 _ _ _ (by omega), y1 _ _ _ (by omega) (by omega) (by omega)]; exact hN.2.2.2.2.2.1
      · rw [y2 _ _ _ (by omega), y1 _ _ _ (by omega) (by omega) (by omega)]; exact hN.2.2.2.2.2.2.1 i hi
      · rw [y2 _ _ _ (by omega), y1 _ _ _ (by omega) (by omega) (by omega)]; exact hN.2.2.2.2.2.2.2 m hm
  · refine PQ.x 1 1 hI0 (by decide) ?_ (fun g' => ?_)
    · rw [e_X9_begin, g_X9_begin_0, if_neg q1, if_neg q2]
    · rw [e_X10_begin, g_X10_begin_0, x10_within, cali_r, decide_eq_false (fun w => w.2 (by rw [i_lt]; rw [i_le] at q2; omega)), ite_b2, if_neg (by decide), t_1]
theorem p_publish {n f} (g) (x : Int32) (hI : Inv n f) : PQ n [(3, 1), (2, 2)] (s_X9_publish [.inr (0, 0), .inl (.int x)]) (s_X10_publish [.inr (19, 0), .inl (.int x)]) f g := by
  have hI0 := hI
  obtain ⟨E, S, R, h, ht⟩ := hI
  obtain ⟨hE, hS, hR, ⟨hA, hT, hD⟩, ⟨mA, mT, mD⟩, ⟨c1, c2, c3, c4, c5, c6⟩, ⟨m1, m2, m3, m4, m5, m6⟩⟩ := h
  have h12 := hE.1
  have mp : f 19 0 2 = nI (eNp E) := mA.1
  obtain ⟨a1, a2⟩ := x9_pkg f g x hA.1 (by omega)
  rcases rng x (nI (eNp E) - 1) (show eNp E ≤ 1000 by omega) rfl with ⟨p, hp, rfl⟩ | ⟨b1, b2'⟩
  · have hd := decide_eq_true (rng_ok (nI (eNp E) - 1) hp (by omega) rfl)
    have bp : ∀ kk, ax_bd (nI p) 12 kk = kk p := fun kk => bd_n (by omega) (by decide) kk
    have bq : ∀ kk, ax_bd (nI p) 13 kk = kk p := fun kk => bd_n (by omega) (by decide) kk
    have cv : f 3 p 4 = nI (rVer R p) := (c3 p hp).2.1
    have mv : f 32 0 p = nI (rVer R p) := (m3 p hp).2
    have hv := hR.2.1 p hp
    by_cases q : rVer R p = 30
    · refine PQ.x 2 2 hI0 (by decide) ?_ (fun g' => ?_)
      · rw [e_X9_publish, g_X9_publish_0, a1 p hp rfl, calv_r, bp, cv, q, if_neg (by decide +kernel)]
      · rw [e_X10_publish, g_X10_publish_0, x10_isP, cali_r, mp, hd, ite_b2, if_pos rfl, bq, mv, q, if_pos (by decide +kernel), t_2]
    · obtain ⟨F1, hF1⟩ : ∃ F1, F1 = ax_up f 3 p 4 (nI (rVer R p + 1)) := ⟨_, rfl⟩
      obtain ⟨F2, hF2⟩ : ∃ F2, F2 = ax_up (ax_up F1 19 0 0 0) 32 0 p (nI (rVer R p + 1)) := ⟨_, rfl⟩
      have z : ∀ k i j, ¬ (k = 3 ∧ i = p ∧ j = 4) ∧ ¬ (k = 19 ∧ i = 0 ∧ j = 0) ∧ ¬ (k = 32 ∧ i = 0 ∧ j = p) → F2 k i j = f k i j := fun k i j w => by rw [hF2, upn w.2.2, upn w.2.1, hF1, upn w.1]
      obtain ⟨R', hR'⟩ : ∃ R' : Rt, R' = (R.1, R.2.1, R.2.2.1, up1 (rVer R) p (rVer R p + 1), R.2.2.2.2) := ⟨_, rfl⟩
      have e4 : CRj E R' f := by rw [hR']; exact c4
      have e5 : CRc R' f := by rw [hR']; exact c5
      have e6 : CRb R' f := by rw [hR']; exact c6
      have f4 : MRj E R' f := by rw [hR']; exact m4
      have f5 : MRc E R' f := by rw [hR']; exact m5
      have f6 : MRb R' f := by rw [hR']; exact m6
      refine PQ.c (f1 := F1) (f2 := F2) (nI (rVer R p + 1)) ?_ (fun g' => ?_) ?_ ⟨E, S, R', ⟨hE, hS, ?_, ⟨hA.of' (fun k i j w => z k i j (by omega)), hT.of' (fun k i j w => z k i j (by omega)), hD.of' (fun k i j w => z k i j (by omega))⟩, ⟨mA.of' (fun k i j w => z k i j (by omega)), mT.of' (fun k i j w => z k i j (by omega)), mD.of' (fun k i j w => z k i j (by omega))⟩, ⟨by rw [z _ _ _ (by omega), hR']; exact c1, by rw [z _ _ _ (by omega), hR']; exact c2, fun p' hp' => ?_, e4.of (fun k i j w => z k i j (by omega)), e5.of (fun k i j w => z k i j (by omega)), e6.of (fun k i j w => z k i j (by omega))⟩, ⟨by rw [z _ _ _ (by omega), hR']; exact m1, by rw [z _ _ _ (by omega), hR']; exact m2, fun p' hp' => ?_, f4.of (fun k i j w => z k i j (by omega)), f5.of (fun k i j w => z k i j (by omega)), f6.of (fun k i j w => z k i j (by omega))⟩⟩, by omega⟩
      · rw [e_X9_publish, g_X9_publish_0, a1 p hp rfl, calv_r]
        simp only [bp]
        rw [cv, if_pos (show nI (rVer R p) < (30 : Int32) from nI_lt (b := 30) (by omega) (by decide)), nI_1, ax_up_s, hF1]
      · have e1 : F1 19 0 2 = nI (eNp E) := by rw [hF1, upn (by omega)]; exact mp
        have e2 : F1 32 0 p = nI (rVer R p) := by rw [hF1, upn (by omega)]; exact mv
        have e3 : (ax_up F1 19 0 0 0) 32 0 p = nI (rVer R p) := by rw [upn (by omega)]; exact e2
        rw [e_X10_publish, g_X10_publish_0, x10_isP, cali_r, e1, hd, ite_b2, if_pos rfl]
        simp only [bq]
        rw [e2, if_neg (nI_neL 30 q (by omega) (by decide)), t_0, e3, nI_1, ax_up_s, hF2]
      · rw [hF2, upn (by omega)]; exact ax_up_s _ _ _ _ _
      · rw [hR']
        refine ⟨hR.1, fun p' hp' => ?_, hR.2.2.1, hR.2.2.2.1, hR.2.2.2.2⟩
        show 1 ≤ up1 (rVer R) p (rVer R p + 1) p' ∧ up1 (rVer R) p (rVer R p + 1) p' ≤ 30 ∧ _
        by_cases c : p' = p
        · subst c; rw [up1_s]; exact ⟨by omega, by omega, hv.2.2⟩
        · rw [up1_n _ _ c]; exact hR.2.1 p' hp'
      · obtain ⟨w1, w2, w3⟩ := c3 p' hp'
        rw [z 3 p' 2 (by omega), z 3 p' 3 (by omega), xcl_congr (f := f) _ (fun i hi => z 3 i 3 (by omega)), hR']
        refine ⟨w1, ?_, w3⟩
        show _ = nI (up1 (rVer R) p (rVer R p + 1) p')
        by_cases c : p' = p
        · subst c; rw [up1_s, hF2, upn (by omega), upn (by omega), hF1]; exact ax_up_s _ _ _ _ _
        · rw [up1_n _ _ c, z _ _ _ (by omega)]; exact w2
      · obtain ⟨w1, w2⟩ := m3 p' hp'
        rw [z 31 _ _ (by omega), hR']
        refine ⟨w1, ?_⟩
        show _ = nI (up1 (rVer R) p (rVer R p + 1) p')
        by_cases c : p' = p
        · subst c; rw [up1_s, hF2]; exact ax_up_s _ _ _ _ _
        · rw [up1_n _ _ c, z _ _ _ (by omega)]; exact w2
  · refine PQ.x 3 1 hI0 (by decide) ?_ (fun g' => ?_)
    · rw [e_X9_publish, g_X9_publish_0, a2 b1, calv_x]
    · rw [e_X10_publish, g_X10_publish_0, x10_isP, cali_r, mp, decide_eq_false b2', ite_b2, if_neg (by decide), t_1]
theorem hbf_nat {x : Int32} {k : Nat} (hk : k ≤ 12) (h : hbf x k = false) : ∃ u, u < 2 ^ k ∧ x = nI u := by
  unfold hbf at h
  rw [decide_eq_false_iff_not, Classical.not_not] at h
  have h1 : x.toBitVec.toNat / 2 ^ k = 0 := by
    rw [← pk_ushr x (nI k) k (s_u k (by omega))]
    show (us k x).toBitVec.toNat = 0
    rw [h]; rfl
  refine ⟨x.toBitVec.toNat, ?_, Int32.toBitVec_inj.mp (by show _ = BitVec.ofNat 32 _; simp)⟩
  rcases Nat.div_eq_zero_iff.mp h1 with q | q
  · exact absurd q (Nat.ne_of_gt (Nat.pow_pos (by decide)))
  · exact q
/-- the clients' part alone changes -/
theorem W7.cli {E S R f f'} (nc : Nat) (use : Nat → Nat) (lat : Nat → Int32) (ins' : Nat → Nat → Int32) (h : W7 E S R f) (hw : nc ≤ 4 ∧ ∀ c, c < nc → use c < 2 ^ eNm E ∧ ∀ p, eNp E ≤ p → p < 12 → ins' c p = 0) (z : ∀ k i j, ¬ (k = 0 ∧ i = 0 ∧ j = 6) → k ≠ 12 → k ≠ 13 → ¬ (k = 19 ∧ i = 0 ∧ (j = 0 ∨ j = 5)) → k ≠ 45 → k ≠ 46 → k ≠ 47 → f' k i j = f k i j) (h1 : f' 0 0 6 = nI nc ∧ ∀ c, c < nc → f' 12 c 1 = nI (use c) ∧ f' 12 c 2 = lat c ∧ ∀ p, p < 12 → f' 13 c p = ins' c p) (h2 : f' 19 0 5 = nI nc ∧ ∀ c, c < nc → f' 45 0 c = nI (use c) ∧ f' 46 0 c = lat c ∧ ∀ p, p < eNp E → f' 47 0 (12 * c + p) = ins' c p) : W7 E S (R.1, R.2.1, R.2.2.1, R.2.2.2.1, R.2.2.2.2.1, R.2.2.2.2.2.1, R.2.2.2.2.2.2.1, nc, use, lat, ins', R.2.2.2.2.2.2.2.2.2.2.2) f' := by
  obtain ⟨hE, hS, hR, ⟨hA, hT, hD⟩, ⟨mA, mT, mD⟩, ⟨c1, c2, c3, c4, c5, c6⟩, ⟨m1, m2, m3, m4, m5, m6⟩⟩ := h
  have y : ∀ k i j, ¬ (k = 0 ∧ i = 0 ∧ j = 6) ∧ k ≠ 12 ∧ k ≠ 13 ∧ ¬ (k = 19 ∧ i = 0 ∧ (j = 0 ∨ j = 5)) ∧ k ≠ 45 ∧ k ≠ 46 ∧ k ≠ 47 → f' k i j = f k i j := fun k i j q => z k i j q.1 q.2.1 q.2.2.1 q.2.2.2.1 q.2.2.2.2.1 q.2.2.2.2.2.1 q.2.2.2.2.2.2
  obtain ⟨R', hR'⟩ : ∃ R' : Rt, R' = (R.1, R.2.1, R.2.2.1, R.2.2.2.1, R.2.2.2.2.1, R.2.2.2.2.2.1, R.2.2.2.2.2.2.1, nc, use, lat, ins', R.2.2.2.2.2.2.2.2.2.2.2) := ⟨_, rfl⟩
  rw [← hR']
  have e3 : CRp E R' f := by rw [hR']; exact c3
  have e4 : CRj E R' f := by rw [hR']; exact c4
  have e6 : CRb R' f := by rw [hR']; exact c6
  have f3 : MRp E R' f := by rw [hR']; exact m3
  have f4 : MRj E R' f := by rw [hR']; exact m4
  have f6 : MRb R' f := by rw [hR']; exact m6
  refine ⟨hE, hS, ?_, ⟨hA.of' (fun k i j q => y k i j (by omega)), hT.of' (fun k i j q => y k i j (by omega)), hD.of' (fun k i j q => y k i j (by omega))⟩, ⟨mA.of' (fun k i j q => y k i j (by omega)), mT.of' (fun k i j q => y k i j (by omega)), mD.of' (fun k i j q => y k i j (by omega))⟩, ⟨by rw [y _ _ _ (by omega), hR']; exact c1, by rw [y _ _ _ (by omega), hR']; exact c2, e3.of (fun k i j q => y k i j (by omega)), e4.of (fun k i j q => y k i j (by omega)), by rw [hR']; exact h1, e6.of (fun k i j q => y k i j (by omega))⟩, ⟨by rw [y _ _ _ (by omega), hR']; exact m1, by rw [y _ _ _ (by omega), hR']; exact m2, f3.of (fun k i j q => y k i j (by omega)), f4.of (fun k i j q => y k i j (by omega)), by rw [hR']; exact h2, f6.of (fun k i j q => y k i j (by omega))⟩⟩
  rw [hR']
  exact ⟨hR.1, hR.2.1, hR.2.2.1, hw, hR.2.2.2.2⟩
theorem p_addClient {n f} (g) (x : Int32) (hI : Inv n f) : PQ n [(1, 1), (2, 2)] (s_X9_addClient [.inr (0, 0), .inl (.int x)]) (s_X10_addClient [.inr (19, 0), .inl (.int x)]) f g := by
  have hI0 := hI
  obtain ⟨E, S, R, h, ht⟩ := hI
  have h' := h
  obtain ⟨hE, hS, hR, hX, hM, hC, hN⟩ := h
  have h6 := hE.2.1
  have h12 := hE.1
  have m4 : f 19 0 4 = nI (eNm E) := hM.2.1.1
  have c2 : f 7 0 2 = nI (eNm E) := hX.2.1.1
  have c6 : f 0 0 6 = nI (rNc R) := hC.2.2.2.2.1.1
  have m5 : f 19 0 5 = nI (rNc R) := hN.2.2.2.2.1.1
  have hc4 := hR.2.2.2.1.1
  by_cases q1 : x = 0
  · refine PQ.x 1 1 hI0 (by decide) ?_ (fun g' => ?_)
    · rw [e_X9_addClient, g_X9_addClient_0, if_pos q1]
    · rw [e_X10_addClient, g_X10_addClient_0, if_pos q1, t_1]
  cases q2 : hbf x (eNm E) with
  | true =>
    refine PQ.x 1 1 hI0 (by decide) ?_ (fun g' => ?_)
    · rw [e_X9_addClient, g_X9_addClient_0, if_neg q1, c2, x9_hasBitFrom, cali_r, q2, ite_b2, if_pos rfl]
    · rw [e_X10_addClient, g_X10_addClient_0, if_neg q1, m4, x10_set f g' x (by omega), cali_r, q2, ite_b2, if_neg (by decide), t_1]
  | false =>
    obtain ⟨u, hu, hxu⟩ := hbf_nat (by omega) q2
    by_cases q3 : rNc R = 4
    · refine PQ.x 2 2 hI0 (by decide) ?_ (fun g' => ?_)
      · rw [e_X9_addClient, g_X9_addClient_0, if_neg q1, c2, x9_hasBitFrom, cali_r, q2, ite_b2, if_neg (by decide), c6, q3, if_neg (by decide +kernel)]
      · rw [e_X10_addClient, g_X10_addClient_0, if_neg q1, m4, x10_set f g' x (by omega), cali_r, q2, ite_b2, if_pos (by decide), m5, q3, if_pos (by decide +kernel), t_2]
    · obtain ⟨c, hc⟩ : ∃ c, c = rNc R := ⟨_, rfl⟩
      rw [← hc] at c6 m5 q3 hc4
      obtain ⟨F0, hF0⟩ : ∃ F0, F0 = ax_row1 (ax_up (ax_up f 12 c 1 x) 12 c 2 0) 13 c (fun j => if j < 12 then 0 else f 13 c j) := ⟨_, rfl⟩
      have y0 : ∀ k i j, ¬ (k = 12 ∧ i = c) → ¬ (k = 13 ∧ i = c) → F0 k i j = f k i j := fun k i j w1 w2 => by rw [hF0, row1_ap, if_neg w2, upn (by omega), upn (by omega)]
      have e06 : F0 0 0 6 = nI c := by rw [y0 _ _ _ (by omega) (by omega)]; exact c6
      obtain ⟨F1, hF1⟩ : ∃ F1, F1 = ax_up F0 0 0 6 (nI (c + 1)) := ⟨_, rfl⟩
      obtain ⟨G0, hG0⟩ : ∃ G0, G0 = ax_up (ax_up (ax_up F1 19 0 0 0) 45 0 c x) 46 0 c 0 := ⟨_, rfl⟩
      obtain ⟨G1, h1, g1, g2⟩ : ∃ G1, (∀ g', ax_run P_X10_addClient 68 [some (.inr (19, 0)), some (.inl (.int x)), some (.inl (.int (nI 0)))] [] G0 g' 0 0 = ax_run P_X10_addClient 68 [some (.inr (19, 0)), some (.inl (.int x)), some (.inl (.int (nI 12)))] [] G1 g' 0 0) ∧ (∀ p, p < 12 → G1 47 0 (12 * c + p) = 0) ∧ ∀ k i j, ¬ (k = 47 ∧ i = 0 ∧ 12 * c ≤ j ∧ j < 12 * c + 12) → G1 k i j = G0 k i j := by
        refine ⟨ax_it 12 (fun p y => ax_up y 47 0 (12 * c + p) 0) G0, fun g' => ?_, ?_⟩
        · refine ax_lp (fun i y => ax_run P_X10_addClient 68 [some (.inr (19, 0)), some (.inl (.int x)), some (.inl (.int (nI i)))] [] y g' 0 0) (fun p y => ax_up y 47 0 (12 * c + p) 0) 12 G0 (fun i hi => ?_)
          have e5 : ∀ k, ax_it k (fun p y => ax_up y 47 0 (12 * c + p) 0) G0 19 0 5 = nI c := by
            intro k
            induction k with
            | zero => rw [ax_it_0, hG0, upn (by omega), upn (by omega), upn (by omega), hF1, upn (by omega), y0 _ _ _ (by omega) (by omega)]; exact m5
            | succ k ih => rw [ax_it_s, upn (by omega)]; exact ih
          rw [g_X10_addClient_68, if_neg (show ¬ (12 : Int32) ≤ nI i from nI_ge hi (by decide)), e5, ix12, bd_n (by omega) (by decide), nI_1]
        · have key : ∀ k, k ≤ 12 → (∀ p, p < k → ax_it k (fun p y => ax_up y 47 0 (12 * c + p) 0) G0 47 0 (12 * c + p) = 0) ∧ ∀ k' i j, ¬ (k' = 47 ∧ i = 0 ∧ 12 * c ≤ j ∧ j < 12 * c + 12) → ax_it k (fun p y => ax_up y 47 0 (12 * c + p) 0) G0 k' i j = G0 k' i j := by
            intro k
            induction k with
            | zero => intro _; exact ⟨fun p hp => absurd hp (by omega), fun _ _ _ _ => rfl⟩
            | succ k ih =>
              intro hk
              obtain ⟨i1, i2⟩ := ih (by omega)
              refine ⟨fun p hp => ?_, fun k' i j w => ?_⟩
              · rw [ax_it_s]
                by_cases e : p = k
                · subst e; exact ax_up_s _ _ _ _ _
                · rw [upn (by omega)]; exact i1 p (by omega)
              · rw [ax_it_s, upn (by omega)]; exact i2 k' i j w
          exact key 12 (Nat.le_refl _)
      obtain ⟨F2, hF2⟩ : ∃ F2, F2 = ax_up G1 19 0 5 (nI (c + 1)) := ⟨_, rfl⟩
      have eG5 : G1 19 0 5 = nI c := by rw [g2 _ _ _ (by omega), hG0, upn (by omega), upn (by omega), upn (by omega), hF1, upn (by omega), y0 _ _ _ (by omega) (by omega)]; exact m5
      have y1 : ∀ k i j, ¬ (k = 0 ∧ i = 0 ∧ j = 6) → ¬ (k = 12 ∧ i = c) → ¬ (k = 13 ∧ i = c) → F1 k i j = f k i j := fun k i j w1 w2 w3 => by rw [hF1, upn w1, y0 k i j w2 w3]
      have y2 : ∀ k i j, ¬ (k = 19 ∧ i = 0 ∧ (j = 0 ∨ j = 5)) → ¬ (k = 45 ∧ i = 0 ∧ j = c) → ¬ (k = 46 ∧ i = 0 ∧ j = c) → ¬ (k = 47 ∧ i = 0 ∧ 12 * c ≤ j ∧ j < 12 * c + 12) → F2 k i j = F1 k i j := fun k i j w1 w2 w3 w4 => by rw [hF2, upn (by omega), g2 k i j w4, hG0, upn w3, upn w2, upn (by omega)]
      refine PQ.c (f1 := F1) (f2 := F2) (nI c) ?_ (fun g' => ?_) ?_ ⟨E, S, _, h'.cli (c + 1) (up1 (rUse R) c u) (up1 (rLat R) c 0) (up1 (rIns R) c (fun _ => 0)) ⟨by omega, fun c' hc' => ?_⟩ (fun k i j w1 w2 w3 w4 w5 w6 w7 => by rw [y2 k i j (by omega) (by omega) (by omega) (by omega), y1 k i j w1 (by omega) (by omega)]) ⟨?_, fun c' hc' => ?_⟩ ⟨?_, fun c' hc' => ?_⟩, by omega⟩
      · rw [e_X9_addClient, g_X9_addClient_0, if_neg q1, c2, x9_hasBitFrom, cali_r, q2, ite_b2, if_neg (by decide), c6, if_pos (show nI c < (4 : Int32) from nI_lt (b := 4) (by omega) (by decide)), bd_n (by omega) (by decide), x1_restart, calv_r, ← hF0, e06, nI_1, hF1]
      · have e1 : F1 19 0 4 = nI (eNm E) := by rw [y1 _ _ _ (by omega) (by omega) (by omega)]; exact m4
        have e2 : F1 19 0 5 = nI c := by rw [y1 _ _ _ (by omega) (by omega) (by omega)]; exact m5
        have e3 : (ax_up F1 19 0 0 0) 19 0 5 = nI c := by rw [upn (by omega)]; exact e2
        have e4 : (ax_up (ax_up F1 19 0 0 0) 45 0 c x) 19 0 5 = nI c := by rw [upn (by omega)]; exact e3
        rw [e_X10_addClient, g_X10_addClient_0, if_neg q1, e1, x10_set F1 g' x (by omega), cali_r, q2, ite_b2, if_pos (by decide), e2, if_neg (nI_neL 4 q3 (by omega) (by decide)), t_0, e3, bd_n (by omega) (by decide), e4, bd_n (by omega) (by decide), ← hG0]
        refine (h1 g').trans ?_
        rw [g_X10_addClient_68, if_pos (show (12 : Int32) ≤ nI 12 from nI_le (Nat.le_refl _) (by decide)), eG5, nI_1, ax_up_s, nI_pred, hF2]
      · rw [hF2, upn (by omega), g2 _ _ _ (by omega), hG0, upn (by omega), upn (by omega)]; exact ax_up_s _ _ _ _ _
      · by_cases e : c' = c
        · subst e; rw [up1_s, up1_s]; exact ⟨hu, fun _ _ _ => rfl⟩
        · rw [up1_n _ _ e, up1_n _ _ e]; exact hR.2.2.2.1.2 c' (by omega)
      · rw [y2 _ _ _ (by omega) (by omega) (by omega) (by omega), hF1]; exact ax_up_s _ _ _ _ _
      · rw [y2 12 _ _ (by omega) (by omega) (by omega) (by omega), y2 12 _ _ (by omega) (by omega) (by omega) (by omega)]
        by_cases e : c' = c
        · subst e
          rw [up1_s, up1_s, up1_s, hF1, upn (by omega), upn (by omega), hF0]
          refine ⟨by simp [row1_ap, ax_up_ap, hxu], by simp [row1_ap, ax_up_ap], fun p hp => ?_⟩
          rw [y2 13 _ _ (by omega) (by omega) (by omega) (by omega), hF1, upn (by omega), hF0, row1_ap, if_pos ⟨rfl, rfl⟩, if_pos hp]
        · obtain ⟨w1, w2, w3⟩ := hC.2.2.2.2.1.2 c' (by omega)
          rw [up1_n _ _ e, up1_n _ _ e, up1_n _ _ e, y1 _ _ _ (by omega) (by omega) (by omega), y1 _ _ _ (by omega) (by omega) (by omega)]
          exact ⟨w1, w2, fun p hp => by rw [y2 13 _ _ (by omega) (by omega) (by omega) (by omega), y1 _ _ _ (by omega) (by omega) (by omega)]; exact w3 p hp⟩
      · rw [hF2]; exact ax_up_s _ _ _ _ _
      · by_cases e : c' = c
        · subst e
          rw [up1_s, up1_s, up1_s]
          refine ⟨?_, ?_, fun p hp => ?_⟩
          · rw [hF2, upn (by omega), g2 _ _ _ (by omega), hG0, upn (by omega), ax_up_s]; exact hxu
          · rw [hF2, upn (by omega), g2 _ _ _ (by omega), hG0]; exact ax_up_s _ _ _ _ _
          · rw [hF2, upn (by omega)]; exact g1 p (by omega)
        · obtain ⟨w1, w2, w3⟩ := hN.2.2.2.2.1.2 c' (by omega)
          rw [up1_n _ _ e, up1_n _ _ e, up1_n _ _ e]
          refine ⟨?_, ?_, fun p hp => ?_⟩
          · rw [y2 _ _ _ (by omega) (by omega) (by omega) (by omega), y1 _ _ _ (by omega) (by omega) (by omega)]; exact w1
          · rw [y2 _ _ _ (by omega) (by omega) (by omega) (by omega), y1 _ _ _ (by omega) (by omega) (by omega)]; exact w2
          · rw [y2 _ _ _ (by omega) (by omega) (by omega) (by omega), y1 _ _ _ (by omega) (by omega) (by omega)]; exact w3 p hp
end AYH
