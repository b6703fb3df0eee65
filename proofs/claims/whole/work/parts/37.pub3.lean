/-! clients: questions -/
section AYE
def clp (R : Rt) (c w : Nat) : Int32 := if w = 0 then nI (rUse R c) else if w = 1 then rLat R c else if w = 2 then ins 12 (rIns R c) else rIns R c (w - 3)
theorem cls_client (g) {E S R f} {c w : Nat} (h : W7 E S R f) (hc : c < rNc R) (hw : w < 15) : s_X1_property [.inr (12, c), .inl (.int (nI w))] f g = rI (clp R c w) f g := by
  obtain ⟨u1, u2, u3⟩ := h.2.2.2.2.2.1.2.2.2.2.1.2 c hc
  rw [x1_property f g c hw]
  unfold xcp clp
  rw [u1, u2]
  have : ins 12 (f 13 c) = ins 12 (rIns R c) := ax_it_congr 12 0 (fun i x hi => by rw [u3 i hi])
  rw [this]
  by_cases h0 : w = 0
  · rw [if_pos h0, if_pos h0]
  by_cases h1 : w = 1
  · rw [if_neg h0, if_neg h0, if_pos h1, if_pos h1]
  by_cases h2 : w = 2
  · rw [if_neg h0, if_neg h0, if_neg h1, if_neg h1, if_pos h2, if_pos h2]
  rw [if_neg h0, if_neg h0, if_neg h1, if_neg h1, if_neg h2, if_neg h2, u3 _ (by omega)]
theorem ref_client (g) {E S R f} {c w : Nat} (h : W7 E S R f) (hc : c < rNc R) (hw : w < 3 + eNp E) : s_X10_clientNow [.inr (19, 0), .inl (.int (nI c)), .inl (.int (nI w))] f g = rI (clp R c w) f g := by
  obtain ⟨hE, hS, hR, hX, hM, hC, hN⟩ := h
  obtain ⟨u1, u2, u3⟩ := hN.2.2.2.2.1.2 c hc
  have h12 := hE.1
  have hc4 := hR.2.2.2.1.1
  have bc : ∀ kk, ax_bd (nI c) 4 kk = kk c := fun kk => bd_n (by omega) (by decide) kk
  rw [e_X10_clientNow, g_X10_clientNow_0]
  simp only [bc]
  rw [u1, u2, x10_installedSet f g hM.1.1 h12 (by omega), cali_r]
  have hins : ins 12 (rIns R c) = ins (eNp E) (fun p => f 47 0 (12 * c + p)) := ins_np h12 (fun p hp => (u3 p hp).symm) (fun p h1 h2 => by rw [(hR.2.2.2.1.2 c hc).2 p h1 h2]; decide +kernel)
  rw [← hins]
  unfold clp
  by_cases h0 : w = 0
  · subst h0; rfl
  rw [if_neg (nI_neL 0 h0 (by omega) (by decide)), if_neg h0]
  by_cases h1 : w = 1
  · subst h1; rfl
  rw [if_neg (nI_neL 1 h1 (by omega) (by decide)), if_neg h1]
  by_cases h2 : w = 2
  · subst h2; rfl
  rw [if_neg (nI_neL 2 h2 (by omega) (by decide)), if_neg h2, ix12, show nI (12 * c + w) - 3 = nI (12 * c + (w - 3)) from (pk_sub (a := 12 * c + w) (b := 3) (by omega)).trans (by congr 1; omega), bd_n (by omega) (by decide), u3 _ (by omega)]
theorem p_client {n f} (g) (x1 x2 : Int32) (hI : Inv n f) : PQ n [(3, 1), (1, 2)] (s_X9_client [.inr (0, 0), .inl (.int x1), .inl (.int x2)]) (s_X10_client [.inr (19, 0), .inl (.int x1), .inl (.int x2)]) f g := by
  have hI0 := hI
  obtain ⟨E, S, R, h, ht⟩ := hI
  have hM := h.2.2.2.2.1
  have hX := h.2.2.2.1
  have h12 := h.1.1
  have hc4 : rNc R ≤ 4 := h.2.2.1.2.2.2.1.1
  have c6 : f 0 0 6 = nI (rNc R) := h.2.2.2.2.2.1.2.2.2.2.1.1
  have m5 : f 19 0 5 = nI (rNc R) := h.2.2.2.2.2.2.2.2.2.2.1.1
  have m2 : f 19 0 2 = nI (eNp E) := hM.1.1
  have cp : f 1 0 3 = nI (eNp E) := hX.1.1
  have e4 : (3 : Int32) + nI (eNp E) = nI (3 + eNp E) := nI_add 3 (eNp E)
  have e3 : (2 : Int32) + nI (eNp E) = nI (3 + eNp E) - 1 := by rw [nI_sub1 (by omega)]; exact (nI_add 2 (eNp E)).trans (by congr 1; omega)
  obtain ⟨a1, a2⟩ := x9_cli f g x1 c6 (by omega)
  rcases rng x1 (nI (rNc R) - 1) (show rNc R ≤ 1000 by omega) rfl with ⟨m, hm, rfl⟩ | ⟨b1, b2'⟩
  · obtain ⟨c1, c2⟩ := x9_kind f g x2 (n := 3 + eNp E) (by omega)
    rcases rng x2 (nI (3 + eNp E) - 1) (n := 3 + eNp E) (by omega) rfl with ⟨w, hw, rfl⟩ | ⟨d1, d2⟩
    · refine PQ.q0 (clp R m w) hI0 (f1 := f) ?_ (Same.refl f) (fun g' => ?_)
      · rw [e_X9_client, g_X9_client_0, a1 m hm rfl, calv_r, cp, e4, c1 w hw rfl, calv_r, bd_n (by omega) (by decide), cls_client g h hm (by omega), cali_r]
      · rw [e_X10_client, g_X10_client_0, x10_isC, cali_r, m5, decide_eq_true (rng_ok _ hm (by omega) rfl), ite_b2, if_pos rfl, m2, e3, x10_within, cali_r, decide_eq_true (rng_ok _ hw (by omega) rfl), ite_b2, if_pos rfl, t_0, ref_client g' (h.up0 0) hm hw, cali_r]
    · refine PQ.x 1 2 hI0 (by decide) ?_ (fun g' => ?_)
      · rw [e_X9_client, g_X9_client_0, a1 m hm rfl, calv_r, cp, e4, c2 d1, calv_x]
      · rw [e_X10_client, g_X10_client_0, x10_isC, cali_r, m5, decide_eq_true (rng_ok _ hm (by omega) rfl), ite_b2, if_pos rfl, m2, e3, x10_within, cali_r, decide_eq_false d2, ite_b2, if_neg (by decide), t_2]
  · refine PQ.x 3 1 hI0 (by decide) ?_ (fun g' => ?_)
    · rw [e_X9_client, g_X9_client_0, a2 b1, calv_x]
    · rw [e_X10_client, g_X10_client_0, x10_isC, cali_r, m5, decide_eq_false b2', ite_b2, if_neg (by decide), t_1]
/-! would -/
def wou (E : Ev) (S : St) (R : Rt) (c : Nat) (w : Int32) (q : Nat) : Int32 := if q = 0 then nI (rea E S R c w) else if q = 1 then nI (idx E S R c) else if q = 2 then w else if q = 3 then (if rea E S R c w = 0 then ax_sum (eNp E) (fun p => if hs w (nI p) = true ∧ ¬ rIns R c p = eTol E (idx E S R c) p then eSz E p else 0) else -1) else (if rea E S R c w = 0 then fwM E S (nI (rUse R c)) w (idx E S R c) (2 ^ eNm E) 7 else -1)
theorem rea_hav {E S R} {c : Nat} {w : Int32} (h : rea E S R c w = 0) : hav E S (nI (rUse R c)) w (idx E S R c) = true := by
  unfold rea rsM at h
  by_cases h0 : idx E S R c = 0
  · rw [if_pos h0] at h; cases h
  rw [if_neg h0] at h
  by_cases h1 : ¬ rLat R c ≤ nI (idx E S R c)
  · rw [if_pos h1] at h; cases h
  rw [if_neg h1] at h
  by_cases h2 : tldA E w (idx E S R c) = false
  · rw [if_pos h2] at h; cases h
  rw [if_neg h2] at h
  by_cases h3 : hav E S (nI (rUse R c)) w (idx E S R c) = true
  · exact h3
  · rw [if_neg h3] at h; cases h
theorem cls_planned (g) {E S R f0 f} {c q : Nat} {w : Int32} (h0 : W7 E S R f0) (hF : Fp f0 f) (hc : c < rNc R) (hq : q < 5) (hP : PlQ E S R c w f) (hw : ∀ k, bt w k = true → k < eNp E) : s_X9_planned [.inr (0, 0), .inr (12, c), .inl (.int (nI q))] f g = rI (wou E S R c w q) f g := by
  have h := h0.same (Same.fp hF)
  obtain ⟨hE, hS, hR, hX, hM, hC, hN⟩ := h
  have h12 := hE.1
  have h6 := hE.2.1
  obtain ⟨u1, u2, u3⟩ := hC.2.2.2.2.1.2 c hc
  obtain ⟨p1, p2, p3, p4⟩ := hP
  have hr := rea_le E S R c w
  have hj : idx E S R c ≤ eNi E := lfi_le hS _ _
  rw [e_X9_planned, g_X9_planned_0, x7_changed f g c hX.1.2.1 hE.2.2.1 hj p2 p1 p3 hr, cali_r, x7_fewest f g c p1 p3 hr, cali_r, p1, p2, p3]
  have e3 : chg f c (idx E S R c) w = ax_sum (eNp E) (fun p => if hs w (nI p) = true ∧ ¬ rIns R c p = eTol E (idx E S R c) p then eSz E p else 0) := by
    unfold chg
    refine sum_np h12 (fun p hp => ?_) (fun p h1 h2 => ?_)
    · rw [u3 p (by omega), hX.1.2.2.2 _ p hj (by omega), (hX.1.2.2.1 p hp).2]
    · refine if_neg (fun z => ?_)
      have := z.1
      rw [hs_bt (by omega)] at this
      have := hw p this
      omega
  have e4 : rea E S R c w = 0 → few (f 15 0) (f 12 c 1) w 64 6 = fwM E S (nI (rUse R c)) w (idx E S R c) (2 ^ eNm E) 7 := by
    intro z
    rw [u1, ← few_eq hE hS hw (hR.2.2.2.1.2 c hc).1 (rea_hav z)]
    refine ax_it_congr 64 6 (fun s a hs' => ?_)
    rw [tog_congr _ p4]
  unfold wou
  by_cases h0 : q = 0
  · subst h0; rfl
  rw [if_neg (nI_neL 0 h0 (by omega) (by decide)), if_neg h0]
  by_cases h1 : q = 1
  · subst h1; rfl
  rw [if_neg (nI_neL 1 h1 (by omega) (by decide)), if_neg h1]
  by_cases h2 : q = 2
  · subst h2; rfl
  rw [if_neg (nI_neL 2 h2 (by omega) (by decide)), if_neg h2]
  by_cases h3 : q = 3
  · subst h3; rw [if_pos (show nI 3 = 3 from rfl), if_pos rfl, e3]
  rw [if_neg (nI_neL 3 h3 (by omega) (by decide)), if_neg h3]
  by_cases z : rea E S R c w = 0
  · rw [if_pos z, if_pos z, e4 z]
  · rw [if_neg z, if_neg z]
theorem ref_would (g) {E S R f} {c q : Nat} (pk : Int32) (h : W7 E S R f) (hc : c < rNc R) (hq : q < 5) (hpk : ∀ k, eNp E ≤ k → k < 32 → bt pk k = false) : s_X10_would [.inr (19, 0), .inl (.int (nI c)), .inl (.int pk), .inl (.int (nI q))] f g = rI (wou E S R c (wan E R f c pk) q) f g := by
  have h' := h
  obtain ⟨hE, hS, hR, hX, hM, hC, hN⟩ := h
  have h12 := hE.1
  have hc4 := hR.2.2.2.1.1
  obtain ⟨u1, u2, u3⟩ := hN.2.2.2.2.1.2 c hc
  have hj : idx E S R c ≤ eNi E := lfi_le hS _ _
  have hr := rea_le E S R c (wan E R f c pk)
  obtain ⟨r1, r2, r3⟩ := ref_reason g c pk h' hS hM (fun _ _ _ _ => rfl) hc hpk
  rw [e_X10_would, g_X10_would_0, r1, cali_r, r3, cali_r, r2, cali_r, x10_changing g _ hE hM (by omega) hj, cali_r, x10_fewest g _ hE hM (by omega) hj, cali_r, u1]
  have e3 : ax_sum (eNp E) (fun p => if hs (wan E R f c pk) (nI p) = true ∧ ¬ f 47 0 (12 * c + p) = eTol E (idx E S R c) p then eSz E p else 0) = ax_sum (eNp E) (fun p => if hs (wan E R f c pk) (nI p) = true ∧ ¬ rIns R c p = eTol E (idx E S R c) p then eSz E p else 0) := ax_sum_congr (fun p hp => by rw [u3 p hp])
  rw [e3]
  have e0 : ∀ A B : Option ax_Fin, (if nI (rea E S R c (wan E R f c pk)) ≤ 0 then A else B) = if rea E S R c (wan E R f c pk) = 0 then A else B := fun A B => by
    by_cases z : rea E S R c (wan E R f c pk) = 0
    · rw [if_pos z, z, if_pos (by decide +kernel)]
    · rw [if_neg z, if_neg (nI_nle (by omega) (sm31 (by omega)))]
  rw [e0, e0]
  unfold wou
  by_cases h0 : q = 0
  · subst h0; rfl
  rw [if_neg (nI_neL 0 h0 (by omega) (by decide)), if_neg h0]
  by_cases h1 : q = 1
  · subst h1; rfl
  rw [if_neg (nI_neL 1 h1 (by omega) (by decide)), if_neg h1]
  by_cases h2 : q = 2
  · subst h2; rfl
  rw [if_neg (nI_neL 2 h2 (by omega) (by decide)), if_neg h2]
  by_cases h3 : q = 3
  · subst h3
    rw [if_pos (show nI 3 = 3 from rfl), if_pos rfl]
    by_cases z : rea E S R c (wan E R f c pk) = 0
    · rw [if_pos z, if_pos z]
    · rw [if_neg z, if_neg z]
  rw [if_neg (nI_neL 3 h3 (by omega) (by decide)), if_neg h3]
  by_cases z : rea E S R c (wan E R f c pk) = 0
  · rw [if_pos z, if_pos z]
  · rw [if_neg z, if_neg z]
theorem p_ifInstalled {n f} (g) (x1 x2 x3 : Int32) (hI : Inv n f) : PQ n [(3, 1), (1, 2)] (s_X9_ifInstalled [.inr (0, 0), .inl (.int x1), .inl (.int x2), .inl (.int x3)]) (s_X10_ifInstalled [.inr (19, 0), .inl (.int x1), .inl (.int x2), .inl (.int x3)]) f g := by
  have hI0 := hI
  obtain ⟨E, S, R, h, ht⟩ := hI
  have hM := h.2.2.2.2.1
  have hX := h.2.2.2.1
  have h12 := h.1.1
  have hc4 : rNc R ≤ 4 := h.2.2.1.2.2.2.1.1
  have c6 : f 0 0 6 = nI (rNc R) := h.2.2.2.2.2.1.2.2.2.2.1.1
  have m5 : f 19 0 5 = nI (rNc R) := h.2.2.2.2.2.2.2.2.2.2.1.1
  have m2 : f 19 0 2 = nI (eNp E) := hM.1.1
  have cp : f 1 0 3 = nI (eNp E) := hX.1.1
  obtain ⟨a1, a2⟩ := x9_cli f g x1 c6 (by omega)
  obtain ⟨c1, c2⟩ := x9_kind f g x3 (n := 5) (by decide)
  rcases rng x1 (nI (rNc R) - 1) (show rNc R ≤ 1000 by omega) rfl with ⟨m, hm, rfl⟩ | ⟨b1, b2'⟩
  · have hcd := decide_eq_true (rng_ok (nI (rNc R) - 1) hm (by omega) rfl)
    cases hs : hbf x2 (eNp E) with
    | true =>
      refine PQ.x 1 2 hI0 (by decide) ?_ (fun g' => ?_)
      · rw [e_X9_ifInstalled, g_X9_ifInstalled_0, a1 m hm rfl, calv_r, x9_set f g x2 cp, hs, if_pos rfl, calv_x]
      · rw [e_X10_ifInstalled, g_X10_ifInstalled_0, m2, x10_set f g' x2 h12, cali_r, hs, ite_b2, if_neg (by decide), x10_isC, cali_r, m5, hcd, ite_b2, if_pos rfl, t_2]
    | false =>
      rcases rng x3 (4 : Int32) (n := 5) (by decide) (by decide +kernel) with ⟨w, hw, rfl⟩ | ⟨d1, d2⟩
      · obtain ⟨f1, e1, hP, hF⟩ := cls_draw g m x2 h h.2.1 hX hm
        have h1 := h.same (Same.fp hF)
        have hwn : wan E R f1 m x2 = wan E R f m x2 := wan_same h12 (Same.fp hF) m x2
        refine PQ.q0 (wou E S R m (wan E R f m x2) w) hI0 (f1 := f1) ?_ (Same.fp hF) (fun g' => ?_)
        · rw [e_X9_ifInstalled, g_X9_ifInstalled_0, a1 m hm rfl, calv_r, x9_set f g x2 cp, hs, if_neg (by decide), calv_r]
          show ax_calv (s_X9_requireKind [_, .inl (.int (nI 5))] _ _) _ _ = _
          rw [c1 w hw rfl, calv_r, bd_n (by omega) (by decide), e1, calv_r, bd_n (by omega) (by decide), cls_planned g h hF hm hw hP (fun k hk => wan_in h m x2 k hk), cali_r]
        · have hM1 := h1.2.2.2.2.1
          have m2' : f1 19 0 2 = nI (eNp E) := hM1.1.1
          have m5' : f1 19 0 5 = nI (rNc R) := h1.2.2.2.2.2.2.2.2.2.2.1.1
          have hz : wan E R (ax_up f1 19 0 0 0) m x2 = wan E R f m x2 := (wan_same h12 (Same.up0 f1 0) m x2).trans hwn
          rw [e_X10_ifInstalled, g_X10_ifInstalled_0, m2', x10_set f1 g' x2 h12, cali_r, hs, ite_b2, if_pos (by decide), x10_within, cali_r, decide_eq_true (rng_ok (4 : Int32) (n := 5) hw (by decide) (by decide +kernel)), ite_b2, if_pos rfl, x10_isC, cali_r, m5', hcd, ite_b2, if_pos rfl, t_0, ref_would g' x2 (h1.up0 0) hm hw (hbf_bt h12 hs), cali_r, hz]
      · refine PQ.x 1 2 hI0 (by decide) ?_ (fun g' => ?_)
        · rw [e_X9_ifInstalled, g_X9_ifInstalled_0, a1 m hm rfl, calv_r, x9_set f g x2 cp, hs, if_neg (by decide), calv_r]
          show ax_calv (s_X9_requireKind [_, .inl (.int (nI 5))] _ _) _ _ = _
          rw [c2 d1, calv_x]
        · rw [e_X10_ifInstalled, g_X10_ifInstalled_0, m2, x10_set f g' x2 h12, cali_r, hs, ite_b2, if_pos (by decide), x10_within, cali_r, decide_eq_false d2, ite_b2, if_neg (by decide), x10_isC, cali_r, m5, hcd, ite_b2, if_pos rfl, t_2]
  · have hcd := decide_eq_false b2'
    refine PQ.x 3 1 hI0 (by decide) ?_ (fun g' => ?_)
    · rw [e_X9_ifInstalled, g_X9_ifInstalled_0, a2 b1, calv_x]
    · rw [e_X10_ifInstalled, g_X10_ifInstalled_0, m2, x10_set f g' x2 h12, cali_r, ite_b2]
      cases hs : hbf x2 (eNp E) with
      | true => rw [if_neg (by decide), x10_isC, cali_r, m5, hcd, ite_b2, if_neg (by decide), t_1]
      | false =>
        rw [if_pos (by decide), x10_within, cali_r, ite_b2]
        cases decide (¬ x3 < 0 ∧ ¬ 4 < x3)
        · rw [if_neg (by decide), x10_isC, cali_r, m5, hcd, ite_b2, if_neg (by decide), t_1]
        · rw [if_pos rfl, x10_isC, cali_r, m5, hcd, ite_b2, if_neg (by decide), t_1]
theorem p_until {n f} (g) (x1 x2 : Int32) (hn : n ≤ 1000) (hI : Inv n f) : PQ n [(3, 1), (1, 2)] (s_X9_until [.inr (0, 0), .inl (.int x1), .inl (.int x2)]) (s_X10_until [.inr (19, 0), .inl (.int x1), .inl (.int x2)]) f g := by
  have hI0 := hI
  obtain ⟨E, S, R, h, ht⟩ := hI
  have hM := h.2.2.2.2.1
  have hX := h.2.2.2.1
  have h12 := h.1.1
  have hc4 : rNc R ≤ 4 := h.2.2.1.2.2.2.1.1
  have c6 : f 0 0 6 = nI (rNc R) := h.2.2.2.2.2.1.2.2.2.2.1.1
  have m5 : f 19 0 5 = nI (rNc R) := h.2.2.2.2.2.2.2.2.2.2.1.1
  have m2 : f 19 0 2 = nI (eNp E) := hM.1.1
  have cp : f 1 0 3 = nI (eNp E) := hX.1.1
  obtain ⟨a1, a2⟩ := x9_cli f g x1 c6 (by omega)
  rcases rng x1 (nI (rNc R) - 1) (show rNc R ≤ 1000 by omega) rfl with ⟨m, hm, rfl⟩ | ⟨b1, b2'⟩
  · have hcd := decide_eq_true (rng_ok (nI (rNc R) - 1) hm (by omega) rfl)
    cases hs : hbf x2 (eNp E) with
    | true =>
      refine PQ.x 1 2 hI0 (by decide) ?_ (fun g' => ?_)
      · rw [e_X9_until, g_X9_until_0, a1 m hm rfl, calv_r, x9_set f g x2 cp, hs, if_pos rfl, calv_x]
      · rw [e_X10_until, g_X10_until_0, x10_isC, cali_r, m5, hcd, ite_b2, if_pos rfl, m2, x10_set f g' x2 h12, cali_r, hs, ite_b2, if_neg (by decide), t_2]
    | false =>
      obtain ⟨f1, e1, z1⟩ := cls_wait g m x2 h hm (by omega)
      have h1 := (h.same z1).up0 0
      have z2 : Same f (ax_up f1 19 0 0 0) := z1.trans (Same.up0 f1 0)
      have hwn : wan E R (ax_up f1 19 0 0 0) m x2 = wan E R f m x2 := wan_same h12 z2 m x2
      have m2' : f1 19 0 2 = nI (eNp E) := (h.same z1).2.2.2.2.1.1.1
      have m5' : f1 19 0 5 = nI (rNc R) := (h.same z1).2.2.2.2.2.2.2.2.2.2.1.1
      refine PQ.q (wk E R m (wan E R f m x2) 61 0 S) hI0 (f1 := f1) ?_ z1 (fun g' => ?_)
      · rw [e_X9_until, g_X9_until_0, a1 m hm rfl, calv_r, x9_set f g x2 cp, hs, if_neg (by decide), calv_r, bd_n (by omega) (by decide), e1, cali_r]
      · obtain ⟨f2, e2, z3, z4⟩ := ref_wait g' m x2 h1 hm (by omega) (hbf_bt h12 hs)
        rw [hwn] at e2
        refine ⟨f2, ?_, by rw [z4]; exact ax_up_s _ _ _ _ _, (Same.up0 f1 0).trans z3⟩
        rw [e_X10_until, g_X10_until_0, x10_isC, cali_r, m5', hcd, ite_b2, if_pos rfl, m2', x10_set f1 g' x2 h12, cali_r, hs, ite_b2, if_pos (by decide), t_0, e2, cali_r]
  · refine PQ.x 3 1 hI0 (by decide) ?_ (fun g' => ?_)
    · rw [e_X9_until, g_X9_until_0, a2 b1, calv_x]
    · rw [e_X10_until, g_X10_until_0, x10_isC, cali_r, m5, decide_eq_false b2', ite_b2, if_neg (by decide), t_1]
end AYE
