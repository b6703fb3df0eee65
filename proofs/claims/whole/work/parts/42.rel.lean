/-! install, release -/
section AYJ
theorem p_install {n f} (g) (x1 x2 : Int32) (hI : Inv n f) : PQ n [(3, 1), (1, 2)] (s_X9_install [.inr (0, 0), .inl (.int x1), .inl (.int x2)]) (s_X10_install [.inr (19, 0), .inl (.int x1), .inl (.int x2)]) f g := by
  have hI0 := hI
  obtain ⟨E, S, R, h, ht⟩ := hI
  have hE := h.1
  have hS := h.2.1
  have hM := h.2.2.2.2.1
  have hX := h.2.2.2.1
  have h12 := h.1.1
  have h20 := h.1.2.2.1
  have hc4 : rNc R ≤ 4 := h.2.2.1.2.2.2.1.1
  have c6 : f 0 0 6 = nI (rNc R) := h.2.2.2.2.2.1.2.2.2.2.1.1
  have m5 : f 19 0 5 = nI (rNc R) := h.2.2.2.2.2.2.2.2.2.2.1.1
  have m2 : f 19 0 2 = nI (eNp E) := hM.1.1
  have cp : f 1 0 3 = nI (eNp E) := hX.1.1
  obtain ⟨a1, a2⟩ := x9_cli f g x1 c6 (by omega)
  rcases rng x1 (nI (rNc R) - 1) (show rNc R ≤ 1000 by omega) rfl with ⟨c, hc, rfl⟩ | ⟨b1, b2'⟩
  · have hcd := decide_eq_true (rng_ok (nI (rNc R) - 1) hc (by omega) rfl)
    cases hs' : hbf x2 (eNp E) with
    | true =>
      refine PQ.x 1 2 hI0 (by decide) ?_ (fun g' => ?_)
      · rw [e_X9_install, g_X9_install_0, a1 c hc rfl, calv_r, x9_set f g x2 cp, hs', if_pos rfl, calv_x]
      · rw [e_X10_install, g_X10_install_0, x10_isC, cali_r, m5, hcd, ite_b2, if_pos rfl, m2, x10_set f g' x2 h12, cali_r, hs', ite_b2, if_neg (by decide), t_2]
    | false =>
      have hbits := hbf_bt h12 hs'
      obtain ⟨F1, e1, hP, hF⟩ := cls_draw g c x2 h hS hX hc
      have h1 := h.same (Same.fp hF)
      obtain ⟨p1, p2, p3, p4⟩ := hP
      obtain ⟨w, hw⟩ : ∃ w, w = wan E R f c x2 := ⟨_, rfl⟩
      obtain ⟨j, hj⟩ : ∃ j, j = idx E S R c := ⟨_, rfl⟩
      have hjle : j ≤ eNi E := by rw [hj]; exact lfi_le hS _ _
      rw [← hw] at p1 p3
      rw [← hj] at p2
      have hle := rea_le E S R c w
      by_cases q : rea E S R c w = 0
      · -- accepted
        rw [q] at p3
        have u := h1.2.2.2.2.2.1.2.2.2.2.1.2 c hc
        have tvj : ∀ p, p < 12 → tv F1 j p = eTol E j p := fun p hp => h1.2.2.2.1.1.2.2.2 j p hjle hp
        have hw_in : ∀ p, p < 12 → hs w (nI p) = true → p < eNp E := fun p hp z => by
          rw [hs_bt (by omega), hw] at z
          exact wan_in h c x2 p z
        obtain ⟨G, hG⟩ : ∃ G, G = ax_up (ax_row1 F1 13 c (fun p => if p < 12 ∧ hs w (nI p) = true then tv F1 j p else F1 13 c p)) 12 c 2 (nI j) := ⟨_, rfl⟩
        have y1 : ∀ k i j, ¬ (k = 12 ∧ i = c ∧ j = 2) → ¬ (k = 13 ∧ i = c) → G k i j = F1 k i j := fun k i j z1 z2 => by rw [hG, upn z1, row1_ap, if_neg z2]
        have e14 : G 14 0 2 = nI 0 := by rw [y1 _ _ _ (by omega) (by omega)]; exact p3
        refine Or.inl ⟨nI 0, G, ?_, fun g' => ?_⟩
        · rw [e_X9_install, g_X9_install_0, a1 c hc rfl, calv_r, x9_set f g x2 cp, hs', if_neg (by decide), calv_r, bd_n (by omega) (by decide), e1, calv_r, p3, if_pos (show nI 0 = 0 from rfl), bd_n (by omega) (by decide), x7_carryOut F1 g c h1.2.2.2.1.1.2.1 h20 hjle p2 p1, calv_r, ← hG, e14]
        · have hM0 : NM E S (ax_up G 19 0 0 0) := by
            have hM1 := h1.2.2.2.2.1
            exact ⟨hM1.1.of' (fun k i j z => by rw [upn (by omega), y1 k i j (by omega) (by omega)]), hM1.2.1.of' (fun k i j z => by rw [upn (by omega), y1 k i j (by omega) (by omega)]), hM1.2.2.of' (fun k i j z => by rw [upn (by omega), y1 k i j (by omega) (by omega)])⟩
          obtain ⟨r1, r2, r3⟩ := ref_reason g' c x2 h hS hM0 (fun k i j z => by rw [upn (by omega), y1 k i j (by omega) (by omega)]; exact hF k i j (by omega) (by omega)) hc hbits
          rw [← hw] at r1 r2
          rw [← hj] at r3
          rw [q] at r1
          have n2 : ∀ y : ax_F, (∀ k i j, ¬ (k = 47 ∧ i = 0) → y k i j = (ax_up G 19 0 0 0) k i j) → MA E y := fun y z => hM0.1.of' (fun k i j s => z k i j (by omega))
          obtain ⟨K, l1, k1, k2⟩ := ax_lpE (fun i (y : ax_F) => ax_run P_X10_install 71 [some (.inr (19, 0)), some (.inl (.int (nI c))), some (.inl (.int x2)), some (.inl (.int (nI 0))), some (.inl (.int (nI j))), some (.inl (.int w)), some (.inl (.int (nI i))), none] [] y g' 0 0) (fun i y (_ : Unit) => (∀ p, p < i → y 47 0 (12 * c + p) = if hs w (nI p) = true then eTol E j p else rIns R c p) ∧ ∀ k i' j', ¬ (k = 47 ∧ i' = 0 ∧ 12 * c ≤ j' ∧ j' < 12 * c + i) → y k i' j' = (ax_up G 19 0 0 0) k i' j') (fun _ y => y) (eNp E) (ax_up G 19 0 0 0) () ⟨fun p hp => absurd hp (by omega), fun _ _ _ _ => rfl⟩ (by
            intro i y _ hi hI
            obtain ⟨k1, k2⟩ := hI
            have hAy := n2 y (fun k i' j' z => k2 k i' j' (by omega))
            have e47 : y 47 0 (12 * c + i) = rIns R c i := by
              rw [k2 _ _ _ (by omega), upn (by omega), y1 _ _ _ (by omega) (by omega)]
              exact (h1.2.2.2.2.2.2.2.2.2.2.1.2 c hc).2.2 i hi
            have done : ∀ v, v = (if hs w (nI i) = true then eTol E j i else rIns R c i) → (∀ p, p < i + 1 → (ax_up y 47 0 (12 * c + i) v) 47 0 (12 * c + p) = if hs w (nI p) = true then eTol E j p else rIns R c p) ∧ ∀ k i' j', ¬ (k = 47 ∧ i' = 0 ∧ 12 * c ≤ j' ∧ j' < 12 * c + (i + 1)) → (ax_up y 47 0 (12 * c + i) v) k i' j' = (ax_up G 19 0 0 0) k i' j' := by
              intro v hv
              refine ⟨fun p hp => ?_, fun k i' j' z => ?_⟩
              · by_cases e : p = i
                · subst e; rw [ax_up_s]; exact hv
                · rw [upn (by omega)]; exact k1 p (by omega)
              · rw [upn (by omega)]; exact k2 k i' j' (by omega)
            rw [g_X10_install_71, hAy.1, if_neg (nI_ge hi (sm31 (by omega))), x10_has, cali_r, ite_b2, ix12, bd_n (by omega) (by decide), bd_n (by omega) (by decide), x10_toldBy g' hE hAy hjle (by omega), cali_r, bd_n (by omega) (by decide), e47, nI_1]
            by_cases z : hs w (nI i) = true
            · rw [if_pos z]
              exact ⟨_, rfl, done _ (by rw [if_pos z])⟩
            · rw [if_neg z]
              exact ⟨_, rfl, done _ (by rw [if_neg z])⟩)
          have y2 : ∀ k i j', ¬ (k = 19 ∧ i = 0 ∧ j' = 0) → ¬ (k = 47 ∧ i = 0 ∧ 12 * c ≤ j' ∧ j' < 12 * c + eNp E) → ¬ (k = 46 ∧ i = 0 ∧ j' = c) → (ax_up K 46 0 c (nI j)) k i j' = G k i j' := fun k i j' z1 z2 z3 => by rw [upn z3, k2 k i j' z2, upn z1]
          refine ⟨ax_up K 46 0 c (nI j), ?_, ?_, E, S, _, h1.cli (rNc R) (rUse R) (up1 (rLat R) c (nI j)) (up1 (rIns R) c (fun p => if p < 12 ∧ hs w (nI p) = true then eTol E j p else rIns R c p)) ⟨hc4, fun c' hc' => ?_⟩ (fun k i j' z1 z2 z3 z4 z5 z6 z7 => by rw [y2 k i j' (by omega) (by omega) (by omega), y1 k i j' (by omega) (by omega)]) ⟨?_, fun c' hc' => ?_⟩ ⟨?_, fun c' hc' => ?_⟩, by omega⟩
          · have e5 : G 19 0 5 = nI (rNc R) := by rw [y1 _ _ _ (by omega) (by omega), hF _ _ _ (by decide) (by decide)]; exact m5
            have e2 : G 19 0 2 = nI (eNp E) := by rw [y1 _ _ _ (by omega) (by omega), hF _ _ _ (by decide) (by decide)]; exact m2
            rw [e_X10_install, g_X10_install_0, x10_isC, cali_r, e5, hcd, ite_b2, if_pos rfl, e2, x10_set G g' x2 h12, cali_r, hs', ite_b2, if_pos (by decide), t_0, r1, cali_r, r3, cali_r, r2, cali_r, if_pos (show nI 0 = 0 from rfl)]
            refine (show _ = _ from l1).trans ?_
            rw [g_X10_install_71, (n2 K (fun k i' j' z => k2 k i' j' (by omega))).1, if_pos (nI_le (Nat.le_refl _) (sm31 (by omega))), bd_n (by omega) (by decide)]
          · rw [upn (by omega), k2 _ _ _ (by omega)]; exact ax_up_s _ _ _ _ _
          · refine ⟨(h1.2.2.1.2.2.2.1.2 c' hc').1, fun p z1 z2 => ?_⟩
            by_cases e : c' = c
            · subst e
              rw [up1_s, if_neg (fun z => by have := hw_in p z2 z.2; omega)]
              exact (h1.2.2.1.2.2.2.1.2 c' hc').2 p z1 z2
            · rw [up1_n _ _ e]; exact (h1.2.2.1.2.2.2.1.2 c' hc').2 p z1 z2
          · rw [y2 _ _ _ (by omega) (by omega) (by omega), y1 _ _ _ (by omega) (by omega)]; exact h1.2.2.2.2.2.1.2.2.2.2.1.1
          · obtain ⟨v1, v2, v3⟩ := h1.2.2.2.2.2.1.2.2.2.2.1.2 c' hc'
            rw [y2 12 _ _ (by omega) (by omega) (by omega), y2 12 _ _ (by omega) (by omega) (by omega)]
            by_cases e : c' = c
            · subst e
              rw [up1_s, up1_s, y1 12 _ 1 (by omega) (by omega)]
              refine ⟨v1, by rw [hG]; exact ax_up_s _ _ _ _ _, fun p hp => ?_⟩
              rw [y2 13 _ _ (by omega) (by omega) (by omega), hG, upn (by omega), row1_ap, if_pos ⟨rfl, rfl⟩, tvj p hp, v3 p hp]
            · rw [up1_n _ _ e, up1_n _ _ e, y1 _ _ _ (by omega) (by omega), y1 _ _ _ (by omega) (by omega)]
              exact ⟨v1, v2, fun p hp => by rw [y2 13 _ _ (by omega) (by omega) (by omega), y1 _ _ _ (by omega) (by omega)]; exact v3 p hp⟩
          · rw [y2 _ _ _ (by omega) (by omega) (by omega), y1 _ _ _ (by omega) (by omega)]; exact h1.2.2.2.2.2.2.2.2.2.2.1.1
          · obtain ⟨v1, v2, v3⟩ := h1.2.2.2.2.2.2.2.2.2.2.1.2 c' hc'
            by_cases e : c' = c
            · subst e
              rw [up1_s, up1_s]
              refine ⟨by rw [y2 45 _ _ (by omega) (by omega) (by omega), y1 _ _ _ (by omega) (by omega)]; exact v1, ax_up_s _ _ _ _ _, fun p hp => ?_⟩
              rw [upn (by omega), k1 p hp]
              by_cases z : hs w (nI p) = true
              · rw [if_pos z, if_pos ⟨by omega, z⟩]
              · rw [if_neg z, if_neg (fun s => z s.2)]
            · rw [up1_n _ _ e, up1_n _ _ e]
              exact ⟨by rw [y2 45 _ _ (by omega) (by omega) (by omega), y1 _ _ _ (by omega) (by omega)]; exact v1, by rw [y2 46 _ _ (by omega) (by omega) (by omega), y1 _ _ _ (by omega) (by omega)]; exact v2, fun p hp => by rw [y2 47 _ _ (by omega) (by omega) (by omega), y1 _ _ _ (by omega) (by omega)]; exact v3 p hp⟩
      · -- refused
        refine PQ.q0 (nI (rea E S R c w)) hI0 (f1 := F1) ?_ (Same.fp hF) (fun g' => ?_)
        · rw [e_X9_install, g_X9_install_0, a1 c hc rfl, calv_r, x9_set f g x2 cp, hs', if_neg (by decide), calv_r, bd_n (by omega) (by decide), e1, calv_r, p3, if_neg (nI_ne0 (by omega) (sm31 (by omega)))]
        · have h2 := h1.up0 0
          have z2 : Same f (ax_up F1 19 0 0 0) := (Same.fp hF).trans (Same.up0 F1 0)
          obtain ⟨r1, r2, r3⟩ := ref_reason g' c x2 h2 hS h2.2.2.2.2.1 (fun _ _ _ _ => rfl) hc hbits
          rw [wan_same h12 z2, ← hw] at r1 r2
          have e5 : F1 19 0 5 = nI (rNc R) := h1.2.2.2.2.2.2.2.2.2.2.1.1
          have e2 : F1 19 0 2 = nI (eNp E) := h1.2.2.2.2.1.1.1
          rw [e_X10_install, g_X10_install_0, x10_isC, cali_r, e5, hcd, ite_b2, if_pos rfl, e2, x10_set F1 g' x2 h12, cali_r, hs', ite_b2, if_pos (by decide), t_0, r1, cali_r, r3, cali_r, r2, cali_r, if_neg (nI_ne0 (by omega) (sm31 (by omega)))]
  · refine PQ.x 3 1 hI0 (by decide) ?_ (fun g' => ?_)
    · rw [e_X9_install, g_X9_install_0, a2 b1, calv_x]
    · rw [e_X10_install, g_X10_install_0, x10_isC, cali_r, m5, decide_eq_false b2', ite_b2, if_neg (by decide), t_1]
end AYJ
