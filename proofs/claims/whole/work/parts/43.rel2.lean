/-! release -/
section AYK
def sgn (R : Rt) (np : Nat) : Int32 := ax_it np (fun i a => rm (31 * a + nI (rVer R i))) 17
def relE (E : Ev) (R : Rt) : Ev := (eSec E, eSz E, up1 (eTol E) (eNi E + 1) (fun p => if p < eNp E then nI (rVer R p) else 0), eCar E, eCap E, eItv E, eOfs E, eUps E, eCrf E, eNp E, eNm E, eNi E + 1)
def relR (E : Ev) (S : St) (R : Rt) : Rt := (rSec R, rVal R, rDep R, rVer R, up1 (rRel R) (eNi E + 1) (sTm S), up1 (rSig R) (eNi E + 1) (rm (2003 * sgn R (eNp E) + nI (eNi E + 1))), up1 (rPk R) (eNi E + 1) (eNp E), R.2.2.2.2.2.2.2)
theorem p_release {n f} (g) (hI : Inv n f) : PQ n [(2, 1)] (s_X9_release [.inr (0, 0)]) (s_X10_release [.inr (19, 0)]) f g := by
  have hI0 := hI
  obtain ⟨E, S, R, h, ht⟩ := hI
  obtain ⟨hE, hS, hR, ⟨hA, hT, hD⟩, ⟨mA, mT, mD⟩, ⟨c1, c2, c3, c4, c5, c6⟩, ⟨m1, m2, m3, m4, m5, m6⟩⟩ := h
  have h12 := hE.1
  have h20 := hE.2.2.1
  have cp : f 1 0 3 = nI (eNp E) := hA.1
  have ci : f 1 0 4 = nI (eNi E) := hA.2.1
  have mp : f 19 0 2 = nI (eNp E) := mA.1
  have mi : f 19 0 3 = nI (eNi E) := mA.2.1
  by_cases q1 : eNp E = 0
  · refine PQ.x 2 1 hI0 (by decide) ?_ (fun g' => ?_)
    · rw [e_X9_release, g_X9_release_0, cp, q1, if_pos (show nI 0 = 0 from rfl)]
    · rw [e_X10_release, g_X10_release_0, mp, q1, if_pos (show nI 0 = 0 from rfl), t_1]
  have n0 : ¬ nI (eNp E) = 0 := nI_ne0 (by omega) (sm31 (by omega))
  by_cases q2 : eNi E = 20
  · refine PQ.x 2 1 hI0 (by decide) ?_ (fun g' => ?_)
    · rw [e_X9_release, g_X9_release_0, cp, if_neg n0, ci, q2, if_neg (by decide +kernel)]
    · rw [e_X10_release, g_X10_release_0, mp, if_neg n0, mi, q2, if_pos (by decide +kernel), t_1]
  have hlt : eNi E < 20 := by omega
  obtain ⟨ni, hni⟩ : ∃ ni, ni = eNi E := ⟨_, rfl⟩
  obtain ⟨np, hnp⟩ : ∃ np, np = eNp E := ⟨_, rfl⟩
  rw [← hni] at ci mi hlt q2 h20
  rw [← hnp] at cp mp n0 h12 q1
  have ct : f 7 0 3 = nI (sTm S) := hD.1
  have mt : f 19 0 6 = nI (sTm S) := mD.1
  -- the class
  obtain ⟨X, hX⟩ : ∃ X, X = xix f np ni (nI (sTm S)) := ⟨_, rfl⟩
  have xo : ∀ k i j, ¬ (k = 1 ∧ i = 0 ∧ j = 4) → ¬ (k = 5 ∧ i = ni ∧ (j = 1 ∨ j = 2)) → ¬ (k = 6 ∧ i = ni) → X k i j = f k i j := fun k i j w1 w2 w3 => by rw [hX]; unfold xix; rw [row1_ap, if_neg w3, upn (by omega), upn (by omega), upn (by omega)]
  have x6 : ∀ p, p < 12 → X 6 ni p = if p < np then nI (rVer R p) else 0 := fun p hp => by
    rw [hX]; unfold xix
    rw [row1_ap, if_pos ⟨rfl, rfl⟩, if_pos hp]
    by_cases c : p < np
    · rw [if_pos c, if_pos c]; exact (c3 p (by omega)).2.1
    · rw [if_neg c, if_neg c]
  have x4 : X 1 0 4 = nI (ni + 1) := by rw [hX]; unfold xix; rw [row1_ap, if_neg (by simp), upn (by omega), upn (by omega)]; exact ax_up_s _ _ _ _ _
  have x52 : X 5 ni 2 = nI (sTm S) := by rw [hX]; unfold xix; rw [row1_ap, if_neg (by simp), upn (by omega)]; exact ax_up_s _ _ _ _ _
  have x51 : X 5 ni 1 = nI np := by rw [hX]; unfold xix; rw [row1_ap, if_neg (by simp)]; exact ax_up_s _ _ _ _ _
  have xs : xsg X ni np = sgn R np := by
    unfold xsg sgn
    exact ax_it_congr np 17 (fun i a hi => by rw [x6 i (by omega), if_pos hi])
  obtain ⟨F1, hF1⟩ : ∃ F1, F1 = ax_up X 5 ni 3 (rm (2003 * sgn R np + nI (ni + 1))) := ⟨_, rfl⟩
  have y1 : ∀ k i j, ¬ (k = 1 ∧ i = 0 ∧ j = 4) → ¬ (k = 5 ∧ i = ni) → ¬ (k = 6 ∧ i = ni) → F1 k i j = f k i j := fun k i j w1 w2 w3 => by rw [hF1, upn (by omega), xo k i j w1 (by omega) w3]
  -- the reference
  obtain ⟨G0, hG0⟩ : ∃ G0, G0 = ax_up (ax_up F1 19 0 0 0) 19 0 3 (nI (ni + 1)) := ⟨_, rfl⟩
  have g0 : ∀ k i j, 19 ≤ k → ¬ (k = 19 ∧ i = 0 ∧ (j = 0 ∨ j = 3)) → G0 k i j = f k i j := fun k i j w1 w2 => by rw [hG0, upn (by omega), upn (by omega), y1 k i j (by omega) (by omega) (by omega)]
  obtain ⟨st, hst⟩ : ∃ st : Nat → ax_F × Int32 → ax_F × Int32, st = fun p x => (ax_up x.1 35 0 (12 * (ni + 1) + p) (if p < np then nI (rVer R p) else 0), if p < np then rm (31 * x.2 + nI (rVer R p)) else x.2) := ⟨_, rfl⟩
  have key : ∀ k, k ≤ 12 → (∀ p, p < k → (ax_it k st (G0, 17)).1 35 0 (12 * (ni + 1) + p) = if p < np then nI (rVer R p) else 0) ∧ (∀ k' i j, ¬ (k' = 35 ∧ i = 0 ∧ 12 * (ni + 1) ≤ j ∧ j < 12 * (ni + 1) + 12) → (ax_it k st (G0, 17)).1 k' i j = G0 k' i j) ∧ (ax_it k st (G0, 17)).2 = sgn R (min k np) := by
    intro k
    induction k with
    | zero => intro _; exact ⟨fun p hp => absurd hp (by omega), fun _ _ _ _ => rfl, by rw [ax_it_0, Nat.zero_min]; rfl⟩
    | succ k ih =>
      intro hk
      obtain ⟨i1, i2, i3⟩ := ih (by omega)
      rw [ax_it_s, hst]
      rw [hst] at i1 i2 i3
      dsimp only
      refine ⟨fun p hp => ?_, fun k' i j w => ?_, ?_⟩
      · by_cases e : p = k
        · subst e; exact ax_up_s _ _ _ _ _
        · rw [upn (by omega)]; exact i1 p (by omega)
      · rw [upn (by omega)]; exact i2 k' i j w
      · rw [i3]
        by_cases c : k < np
        · rw [if_pos c, Nat.min_eq_left (by omega), Nat.min_eq_left (by omega)]; rfl
        · rw [if_neg c, Nat.min_eq_right (by omega), Nat.min_eq_right (by omega)]
  obtain ⟨k1, k2, k3⟩ := key 12 (Nat.le_refl _)
  obtain ⟨K, hK⟩ : ∃ K, K = (ax_it 12 st (G0, 17)).1 := ⟨_, rfl⟩
  rw [← hK] at k1
  have k2' : ∀ k' i j, ¬ (k' = 35 ∧ i = 0 ∧ 12 * (ni + 1) ≤ j ∧ j < 12 * (ni + 1) + 12) → K k' i j = G0 k' i j := fun k' i j w => by rw [hK]; exact k2 k' i j w
  have k3' : (ax_it 12 st (G0, 17)).2 = sgn R np := by rw [k3, Nat.min_eq_right h12]
  have loop : ∀ g', ax_run P_X10_release 49 [some (.inr (19, 0)), some (.inl (.int 17)), some (.inl (.int (nI 0)))] [] G0 g' 0 0 = ax_run P_X10_release 49 [some (.inr (19, 0)), some (.inl (.int (sgn R np))), some (.inl (.int (nI 12)))] [] K g' 0 0 := by
    intro g'
    have l := ax_lp (fun i (x : ax_F × Int32) => ax_run P_X10_release 49 [some (.inr (19, 0)), some (.inl (.int x.2)), some (.inl (.int (nI i)))] [] x.1 g' 0 0) st 12 (G0, 17) (fun i hi => by
      obtain ⟨i1, i2, i3⟩ := key i (by omega)
      generalize hx : ax_it i st (G0, 17) = x at *
      obtain ⟨y, a⟩ := x
      dsimp only at i1 i2 i3 ⊢
      have e3 : y 19 0 3 = nI (ni + 1) := by rw [i2 _ _ _ (by omega), hG0]; exact ax_up_s _ _ _ _ _
      have e2 : y 19 0 2 = nI np := by rw [i2 _ _ _ (by omega), g0 _ _ _ (by omega) (by omega)]; exact mp
      rw [hst]
      dsimp only
      rw [g_X10_release_49, if_neg (show ¬ (12 : Int32) ≤ nI i from nI_ge hi (by decide)), e2, e3, ix12, bd_n (by omega) (by decide), bd_n (by omega) (by decide), bd_n (by omega) (by decide), if_neg n65, upn (by omega), e2, nI_1]
      by_cases c : i < np
      · have ev : y 32 0 i = nI (rVer R i) := by rw [i2 _ _ _ (by omega), g0 _ _ _ (by omega) (by omega)]; exact (m3 i (by omega)).2
        have ev2 : ∀ v, (ax_up y 35 0 (12 * (ni + 1) + i) v) 32 0 i = nI (rVer R i) := fun v => by rw [upn (by omega)]; exact ev
        have e22 : ∀ v, (ax_up y 35 0 (12 * (ni + 1) + i) v) 19 0 2 = nI np := fun v => by rw [upn (by omega)]; exact e2
        have hge : ¬ nI np ≤ nI i := nI_ge c (sm31 (by omega))
        rw [if_neg hge, bd_n (by omega) (by decide), e22, if_neg hge, bd_n (by omega) (by decide), if_neg n65, ev2, ev, if_pos c, if_pos c]
        rfl
      · have hle : nI np ≤ nI i := nI_le (by omega) (sm31 (by omega))
        rw [if_pos hle, if_pos hle, if_neg c, if_neg c])
    rw [k3', ← hK] at l
    exact l
  obtain ⟨F2, hF2⟩ : ∃ F2, F2 = ax_up (ax_up K 34 0 (ni + 1) (rm (2003 * sgn R np + nI (ni + 1)))) 33 0 (ni + 1) (nI (sTm S)) := ⟨_, rfl⟩
  have y2 : ∀ k i j, ¬ (k = 19 ∧ i = 0 ∧ (j = 0 ∨ j = 3)) → ¬ (k = 35 ∧ i = 0 ∧ 12 * (ni + 1) ≤ j ∧ j < 12 * (ni + 1) + 12) → ¬ (k = 34 ∧ i = 0 ∧ j = ni + 1) → ¬ (k = 33 ∧ i = 0 ∧ j = ni + 1) → F2 k i j = F1 k i j := fun k i j w1 w2 w3 w4 => by rw [hF2, upn w4, upn w3, k2' k i j w2, hG0, upn (by omega), upn (by omega)]
  have z : ∀ k i j, ¬ (k = 1 ∧ i = 0 ∧ j = 4) ∧ ¬ (k = 5 ∧ i = ni) ∧ ¬ (k = 6 ∧ i = ni) ∧ ¬ (k = 19 ∧ i = 0 ∧ (j = 0 ∨ j = 3)) ∧ ¬ (k = 35 ∧ i = 0 ∧ 12 * (ni + 1) ≤ j ∧ j < 12 * (ni + 1) + 12) ∧ ¬ (k = 34 ∧ i = 0 ∧ j = ni + 1) ∧ ¬ (k = 33 ∧ i = 0 ∧ j = ni + 1) → F2 k i j = f k i j := fun k i j w => by rw [y2 k i j w.2.2.2.1 w.2.2.2.2.1 w.2.2.2.2.2.1 w.2.2.2.2.2.2, y1 k i j w.1 w.2.1 w.2.2.1]
  have tl : ∀ j p, eTol (relE E R) j p = if j = ni + 1 then (if p < np then nI (rVer R p) else 0) else eTol E j p := fun j p => by
    show up1 (eTol E) (eNi E + 1) _ j p = _
    rw [← hni, ← hnp]
    by_cases c : j = ni + 1
    · rw [c, up1_s, if_pos rfl]
    · rw [up1_n _ _ c, if_neg c]
  have hT' : NT 0 (relE E R) f := hT
  have hD' : ND 0 (relE E R) S f := hD
  have mT' : MT (relE E R) f := mT
  have mD' : MD (relE E R) S f := mD
  have cp' : CRp (relE E R) (relR E S R) f := c3
  have cc' : CRc (relR E S R) f := c5
  have cb' : CRb (relR E S R) f := c6
  have mp' : MRp (relE E R) (relR E S R) f := m3
  have mc' : MRc (relE E R) (relR E S R) f := m5
  have mb' : MRb (relR E S R) f := m6
  have e0 : ∀ p, p < 12 → eTol (relE E R) 0 p = 0 := fun p hp => by rw [tl, if_neg (by omega)]; exact mA.2.2.2.2 p hp
  refine PQ.c (f1 := F1) (f2 := F2) (nI (ni + 1)) ?_ (fun g' => ?_) ?_ ⟨relE E R, S, relR E S R, ⟨?_, ?_, ?_, ⟨⟨?_, ?_, fun p hp => ?_, fun j p hj hp => ?_⟩, hT'.of' (fun k i j w => z k i j (by omega)), hD'.of' (fun k i j w => z k i j (by omega))⟩, ⟨⟨?_, ?_, fun p hp => ?_, fun j p hj hp => ?_, e0⟩, mT'.of' (fun k i j w => z k i j (by omega)), mD'.of' (fun k i j w => z k i j (by omega))⟩, ⟨by rw [z _ _ _ (by omega)]; exact c1, by rw [z _ _ _ (by omega)]; exact c2, cp'.of (fun k i j w => z k i j (by omega)), fun j w1 w2 => ?_, cc'.of (fun k i j w => z k i j (by omega)), cb'.of (fun k i j w => z k i j (by omega))⟩, ⟨by rw [z _ _ _ (by omega)]; exact m1, by rw [z _ _ _ (by omega)]; exact m2, mp'.of (fun k i j w => z k i j (by omega)), fun j w1 w2 => ?_, mc'.of (fun k i j w => z k i j (by omega)), mb'.of (fun k i j w => z k i j (by omega))⟩⟩, by omega⟩
  · rw [e_X9_release, g_X9_release_0, cp, if_neg n0, ci, if_pos (show nI ni < (20 : Int32) from nI_lt (b := 20) hlt (by decide)), x0_addIndex f g _ cp h12 ci hlt, cali_r, ct, ← hX, xs, ← hF1]
  · have e2 : F1 19 0 2 = nI np := by rw [y1 _ _ _ (by omega) (by omega) (by omega)]; exact mp
    have e3 : F1 19 0 3 = nI ni := by rw [y1 _ _ _ (by omega) (by omega) (by omega)]; exact mi
    have e33 : (ax_up F1 19 0 0 0) 19 0 3 = nI ni := by rw [upn (by omega)]; exact e3
    have eK3 : K 19 0 3 = nI (ni + 1) := by rw [k2' _ _ _ (by omega), hG0]; exact ax_up_s _ _ _ _ _
    have eK6 : K 19 0 6 = nI (sTm S) := by rw [k2' _ _ _ (by omega), g0 _ _ _ (by omega) (by omega)]; exact mt
    rw [e_X10_release, g_X10_release_0, e2, if_neg n0, e3, if_neg (nI_neL 20 q2 (by omega) (by decide)), t_0, e33, nI_1, ← hG0]
    refine (show _ = _ from loop g').trans ?_
    have e34 : ∀ v, (ax_up K 34 0 (ni + 1) v) 19 0 3 = nI (ni + 1) := fun v => by rw [upn (by omega)]; exact eK3
    have e36 : ∀ v, (ax_up K 34 0 (ni + 1) v) 19 0 6 = nI (sTm S) := fun v => by rw [upn (by omega)]; exact eK6
    rw [g_X10_release_49, if_pos (show (12 : Int32) ≤ nI 12 from nI_le (Nat.le_refl _) (by decide)), if_neg n65, eK3, bd_n (by omega) (by decide), e34, bd_n (by omega) (by decide), e36, upn (by omega), e34]
    rw [hF2]
    rfl
  · rw [hF2, upn (by omega), upn (by omega), k2' _ _ _ (by omega), hG0, upn (by omega)]; exact ax_up_s _ _ _ _ _
  · refine ⟨hE.1, hE.2.1, show eNi E + 1 ≤ 20 by omega, hE.2.2.2.1, fun j p => ?_⟩
    rw [tl]
    by_cases c : j = ni + 1
    · rw [if_pos c]
      by_cases d : p < np
      · rw [if_pos d]; exact ⟨rVer R p, (hR.2.1 p (by omega)).2.1, rfl⟩
      · rw [if_neg d]; exact ⟨0, by omega, rfl⟩
    · rw [if_neg c]; exact hE.2.2.2.2 j p
  · exact ⟨fun m hm => Nat.le_succ_of_le (hS.1 m hm), hS.2.1, hS.2.2.1, hS.2.2.2⟩
  · refine ⟨hR.1, hR.2.1, fun j w1 w2 => ?_, hR.2.2.2⟩
    have w2' : j ≤ ni + 1 := by rw [hni]; exact w2
    show up1 (rPk R) (eNi E + 1) (eNp E) j ≤ eNp E ∧ (∀ p, p < 12 → (0 < eTol (relE E R) j p ↔ p < up1 (rPk R) (eNi E + 1) (eNp E) j)) ∧ up1 (rRel R) (eNi E + 1) (sTm S) j ≤ sTm S
    rw [← hni, ← hnp]
    by_cases c : j = ni + 1
    · rw [c, up1_s, up1_s]
      refine ⟨Nat.le_refl _, fun p hp => ?_, Nat.le_refl _⟩
      rw [tl, if_pos rfl]
      by_cases d : p < np
      · rw [if_pos d]
        exact ⟨fun _ => d, fun _ => nI_lt (a := 0) (by have := (hR.2.1 p (by omega)).1; omega) (sm31 (by have := (hR.2.1 p (by omega)).2.1; omega))⟩
      · rw [if_neg d]
        exact ⟨fun w => absurd w (by decide +kernel), fun w => absurd w d⟩
    · rw [up1_n _ _ c, up1_n _ _ c]
      have := hR.2.2.1 j w1 (by omega)
      refine ⟨by rw [hnp]; exact this.1, fun p hp => ?_, this.2.2⟩
      rw [tl, if_neg c]
      exact this.2.1 p hp
  · rw [z _ _ _ (by omega)]; exact hA.1
  · show F2 1 0 4 = nI (eNi E + 1)
    rw [y2 _ _ _ (by omega) (by omega) (by omega) (by omega), hF1, upn (by omega), x4, hni]
  · rw [z _ _ _ (by omega), z _ _ _ (by omega)]; exact hA.2.2.1 p hp
  · have hj' : j ≤ ni + 1 := by rw [hni]; exact hj
    rw [tl]
    by_cases c : j = ni + 1
    · rw [if_pos c, c]
      unfold tv
      rw [if_neg (by omega), show ni + 1 - 1 = ni from by omega, y2 _ _ _ (by omega) (by omega) (by omega) (by omega), hF1, upn (by omega), x6 p hp]
    · rw [if_neg c, ← hA.2.2.2 j p (by omega) hp]
      unfold tv
      by_cases d : j = 0
      · rw [if_pos d, if_pos d]
      · rw [if_neg d, if_neg d, z _ _ _ (by omega)]
  · rw [z _ _ _ (by omega)]; exact mA.1
  · show F2 19 0 3 = nI (eNi E + 1)
    rw [hF2, upn (by omega), upn (by omega), k2' _ _ _ (by omega), hG0, ax_up_s, hni]
  · rw [z _ _ _ (by omega), z _ _ _ (by omega)]; exact mA.2.2.1 p hp
  · have hj' : j ≤ ni + 1 := by rw [hni]; exact hj
    rw [tl]
    by_cases c : j = ni + 1
    · rw [if_pos c, c, hF2, upn (by omega), upn (by omega)]; exact k1 p hp
    · rw [if_neg c, z _ _ _ (by omega)]; exact mA.2.2.2.1 j p (by omega) hp
  · have w2' : j ≤ ni + 1 := by rw [hni]; exact w2
    show _ = nI (up1 (rPk R) (eNi E + 1) (eNp E) j) ∧ _ = nI (up1 (rRel R) (eNi E + 1) (sTm S) j) ∧ _ = up1 (rSig R) (eNi E + 1) _ j
    rw [← hni, ← hnp]
    by_cases c : j = ni + 1
    · rw [c, up1_s, up1_s, up1_s, show ni + 1 - 1 = ni from by omega, y2 _ _ _ (by omega) (by omega) (by omega) (by omega), y2 _ _ _ (by omega) (by omega) (by omega) (by omega), y2 _ _ _ (by omega) (by omega) (by omega) (by omega), hF1]
      exact ⟨by rw [upn (by omega)]; exact x51, by rw [upn (by omega)]; exact x52, ax_up_s _ _ _ _ _⟩
    · rw [up1_n _ _ c, up1_n _ _ c, up1_n _ _ c, z _ _ _ (by omega), z _ _ _ (by omega), z _ _ _ (by omega)]
      exact c4 j w1 (by omega)
  · have w2' : j ≤ ni + 1 := by rw [hni]; exact w2
    show _ = nI (up1 (rRel R) (eNi E + 1) (sTm S) j) ∧ _ = up1 (rSig R) (eNi E + 1) _ j
    rw [← hni, ← hnp]
    by_cases c : j = ni + 1
    · rw [c, up1_s, up1_s, hF2]
      exact ⟨ax_up_s _ _ _ _ _, by rw [upn (by omega)]; exact ax_up_s _ _ _ _ _⟩
    · rw [up1_n _ _ c, up1_n _ _ c, z _ _ _ (by omega), z _ _ _ (by omega)]
      exact m4 j w1 (by omega)
end AYK
