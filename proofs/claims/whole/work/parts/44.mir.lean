/-! a mirror more -/
section AYL
def mirE (E : Ev) (x1 x5 : Int32) (d o : Nat) (u : Option Nat) (b : Bool) : Ev := (eSec E, eSz E, eTol E, up1 (eCar E) (eNm E) x1, up1 (eCap E) (eNm E) x5, up1 (eItv E) (eNm E) d, up1 (eOfs E) (eNm E) o, up1 (eUps E) (eNm E) u, up1 (eCrf E) (eNm E) b, eNp E, eNm E + 1, eNi E)
def mirS (E : Ev) (S : St) : St := (up1 (sOwn S) (eNm E) 0, up1 (sWr S) (eNm E) false, up1 (sFl S) (eNm E) (fun _ => 0), sTm S, sCp S)
theorem p_addMirror {n f} (g) (x1 x2 x3 x4 x5 : Int32) (b : Bool) (hI : Inv n f) : PQ n [(3, 1), (1, 2), (2, 3)] (s_X9_addMirror [.inr (0, 0), .inl (.int x1), .inl (.int x2), .inl (.int x3), .inl (.int x4), .inl (.int x5), .inl (.int (b2 b))]) (s_X10_addMirror [.inr (19, 0), .inl (.int x1), .inl (.int x2), .inl (.int x3), .inl (.int x4), .inl (.int x5), .inl (.int (b2 b))]) f g := by
  have hI0 := hI
  obtain ⟨E, S, R, h, ht⟩ := hI
  obtain ⟨hE, hS, hR, ⟨hA, hT, hD⟩, ⟨mA, mT, mD⟩, ⟨c1, c2, c3, c4, c5, c6⟩, ⟨m1, m2, m3, m4, m5, m6⟩⟩ := h
  have h6 := hE.2.1
  have h5 := hR.1
  have cn : f 7 0 2 = nI (eNm E) := hT.1
  have mn : f 19 0 4 = nI (eNm E) := mT.1
  obtain ⟨m, hm⟩ : ∃ m, m = eNm E := ⟨_, rfl⟩
  rw [← hm] at cn mn h6
  -- upstream
  have hup : (x4 = -1 ∨ ∃ u, u < m ∧ x4 = nI u) ∨ ((x4 < -1 ∨ ¬ x4 < nI m) ∧ ¬ x4 = -1 ∧ ¬ (¬ x4 < 0 ∧ ¬ nI m - 1 < x4)) := by
    by_cases q : x4 = -1
    · exact Or.inl (Or.inl q)
    · rcases rng x4 (nI m - 1) (show m ≤ 1000 by omega) rfl with w | ⟨w1, w2⟩
      · exact Or.inl (Or.inr w)
      · refine Or.inr ⟨?_, q, w2⟩
        rcases w1 with z | z
        · left
          rw [i_lt] at z ⊢
          have e1 : (0 : Int32).toInt = 0 := rfl
          have e2 : (-1 : Int32).toInt = -1 := by decide +kernel
          have : ¬ x4.toInt = -1 := fun w => q (Int32.toInt_inj.mp (w.trans e2.symm))
          omega
        · exact Or.inr z
  obtain ⟨B, hB⟩ : ∃ B : Bool, B = decide (¬ x1 = 0 ∧ hbf x1 (rSec R) = false ∧ (¬ x2 < 1 ∧ ¬ 60 < x2) ∧ (¬ x3 < 0 ∧ ¬ x2 - 1 < x3) ∧ ¬ x5 < 1 ∧ ¬ 200 < x5) := ⟨_, rfl⟩
  -- the reference's tree
  have md : ∀ F g', F 19 0 1 = nI (rSec R) → F 19 0 4 = nI m → s_X10_addMirror [.inr (19, 0), .inl (.int x1), .inl (.int x2), .inl (.int x3), .inl (.int x4), .inl (.int x5), .inl (.int (b2 b))] F g' = if ¬ x4 = -1 ∧ ¬ (¬ x4 < 0 ∧ ¬ nI m - 1 < x4) then rI 0 (ax_up F 19 0 0 1) g' else if B = false then rI 0 (ax_up F 19 0 0 2) g' else if nI m = 6 then rI 0 (ax_up F 19 0 0 3) g' else ax_bd (nI m) 6 (fun m => ax_run P_X10_addMirror 187 [some (.inr (19, 0)), some (.inl (.int x1)), some (.inl (.int x2)), some (.inl (.int x3)), some (.inl (.int x4)), some (.inl (.int x5)), some (.inl (.int (b2 b))), some (.inl (.int 1)), some (.inl (.int (nI m))), some (.inl (.int (nI 0)))] [] (ax_up (ax_up (ax_up (ax_up (ax_up (ax_up (ax_up (ax_up (ax_up F 19 0 0 0) 36 0 m x1) 37 0 m x2) 38 0 m x3) 39 0 m x4) 40 0 m x5) 41 0 m (b2 b)) 42 0 m 0) 43 0 m 0) g' 0 0) := by
    intro F g' e1 e4
    have e40 : (ax_up F 19 0 0 0) 19 0 4 = nI m := by rw [upn (by omega)]; exact e4
    rw [e_X10_addMirror, g_X10_addMirror_0, e1, x10_set F g' x1 (n := rSec R) (by omega)]
    simp only [t_0, t_1, t_2, t_3, x10_isM, x10_within, cali_r, ite_b2, e4, e40, bb_of (b2_01 b)]
    have selU : ∀ P Q : Option ax_Fin, (if x4 = -1 then P else if decide (¬ x4 < 0 ∧ ¬ nI m - 1 < x4) = true then P else Q) = if ¬ x4 = -1 ∧ ¬ (¬ x4 < 0 ∧ ¬ nI m - 1 < x4) then Q else P := fun P Q => by
      by_cases u1 : x4 = -1
      · rw [if_pos u1, if_neg (fun w => w.1 u1)]
      · rw [if_neg u1]
        by_cases u2 : ¬ x4 < 0 ∧ ¬ nI m - 1 < x4
        · rw [if_pos (decide_eq_true u2), if_neg (fun w => w.2 u2)]
        · rw [if_neg (fun w => u2 (of_decide_eq_true w)), if_pos ⟨u1, u2⟩]
    simp only [selU]
    by_cases nu : ¬ x4 = -1 ∧ ¬ (¬ x4 < 0 ∧ ¬ nI m - 1 < x4)
    · simp only [if_pos nu, ite_self]
    simp only [if_neg nu]
    have leaf : ∀ (P2 L : Option ax_Fin), (if x1 = 0 then P2 else if (!hbf x1 (rSec R)) = true then (if decide (¬ x2 < 1 ∧ ¬ 60 < x2) = true then (if decide (¬ x3 < 0 ∧ ¬ x2 - 1 < x3) = true then (if decide (¬ x5 < 1 ∧ ¬ 200 < x5) = true then L else P2) else P2) else P2) else P2) = if B = false then P2 else L := fun P2 L => by
      rw [hB]
      by_cases v1 : x1 = 0
      · rw [if_pos v1, if_pos (decide_eq_false (fun w => w.1 v1))]
      rw [if_neg v1]
      cases v2 : hbf x1 (rSec R) with
      | true => rw [if_neg (by decide), if_pos (decide_eq_false (fun w => by cases w.2.1))]
      | false =>
        rw [if_pos (by decide)]
        by_cases v3 : ¬ x2 < 1 ∧ ¬ 60 < x2
        · rw [if_pos (decide_eq_true v3)]
          by_cases v4 : ¬ x3 < 0 ∧ ¬ x2 - 1 < x3
          · rw [if_pos (decide_eq_true v4)]
            by_cases v5 : ¬ x5 < 1 ∧ ¬ 200 < x5
            · rw [if_pos (decide_eq_true v5), if_neg (by rw [decide_eq_true (show _ ∧ _ ∧ _ ∧ _ ∧ _ from ⟨v1, rfl, v3, v4, v5⟩)]; decide)]
            · rw [if_neg (fun w => v5 (of_decide_eq_true w)), if_pos (decide_eq_false (fun w => v5 w.2.2.2.2))]
          · rw [if_neg (fun w => v4 (of_decide_eq_true w)), if_pos (decide_eq_false (fun w => v4 w.2.2.2.1))]
        · rw [if_neg (fun w => v3 (of_decide_eq_true w)), if_pos (decide_eq_false (fun w => v3 w.2.2.1))]
    rw [leaf]
    by_cases hm6 : m = 6
    · have : nI m = 6 := by rw [hm6]; rfl
      simp only [if_pos this]
    · have bm : ∀ kk, ax_bd (nI m) 6 kk = kk m := fun kk => bd_n (by omega) (by decide) kk
      simp only [bm]
      rfl
  -- the class's tree
  have cl : s_X9_addMirror [.inr (0, 0), .inl (.int x1), .inl (.int x2), .inl (.int x3), .inl (.int x4), .inl (.int x5), .inl (.int (b2 b))] f g = if x4 < -1 then rX 3 f g else if x4 < nI m then (if B = false then rX 1 f g else if nI m < 6 then ax_bd (nI m) 6 (fun n3 => ax_calv (s_X4_restart [.inr (9, 6 * 0 + n3), .inl (.int x1), .inl (.int x2), .inl (.int x3), .inl (.int x4), .inl (.int x5), .inl (.int (b2 b))] f g) (fun e4 f4 g4 => some (.inr e4, f4, g4)) (fun f5 g5 => rI (nI m) (ax_up f5 7 0 2 ((f5 7 0 2) + 1)) g5)) else rX 2 f g) else rX 3 f g := by
    rw [e_X9_addMirror, g_X9_addMirror_0, cn, c1, x9_hasBitFrom]
    simp only [cali_r, ite_b2, cn]
    have leaf : ∀ (P2 L : Option ax_Fin), (if x1 = 0 then P2 else if hbf x1 (rSec R) = true then P2 else (if x2 < 1 then P2 else if x2 ≤ 60 then (if x3 < 0 then P2 else if x3 < x2 then (if x5 < 1 then P2 else if x5 ≤ 200 then L else P2) else P2) else P2)) = if B = false then P2 else L := fun P2 L => by
      rw [hB]
      by_cases v1 : x1 = 0
      · rw [if_pos v1, if_pos (decide_eq_false (fun w => w.1 v1))]
      rw [if_neg v1]
      cases v2 : hbf x1 (rSec R) with
      | true => rw [if_pos rfl, if_pos (decide_eq_false (fun w => by cases w.2.1))]
      | false =>
        rw [if_neg (by decide)]
        have i60 : (60 : Int32).toInt = 60 := rfl
        have i200 : (200 : Int32).toInt = 200 := rfl
        have i1 : (1 : Int32).toInt = 1 := rfl
        by_cases v3 : ¬ x2 < 1 ∧ ¬ 60 < x2
        · have le60 : x2 ≤ 60 := by have := v3.2; rw [i_lt] at this; rw [i_le]; omega
          rw [if_neg v3.1, if_pos le60]
          have sub1 : (x2 - 1).toInt = x2.toInt - 1 := by
            have h1 := v3.1
            rw [i_lt] at h1
            have := fb_rng x2
            rw [fb_subI (by rw [i1]; omega) (by rw [i1]; omega), i1]
          by_cases v4 : ¬ x3 < 0 ∧ ¬ x2 - 1 < x3
          · have lt3 : x3 < x2 := by have := v4.2; rw [i_lt, sub1] at this; rw [i_lt]; omega
            rw [if_neg v4.1, if_pos lt3]
            by_cases v5 : ¬ x5 < 1 ∧ ¬ 200 < x5
            · have le200 : x5 ≤ 200 := by have := v5.2; rw [i_lt] at this; rw [i_le]; omega
              rw [if_neg v5.1, if_pos le200, if_neg (by rw [decide_eq_true (show _ ∧ _ ∧ _ ∧ _ ∧ _ from ⟨v1, rfl, v3, v4, v5⟩)]; decide)]
            · rw [if_pos (decide_eq_false (fun w => v5 w.2.2.2.2))]
              by_cases v6 : x5 < 1
              · rw [if_pos v6]
              · rw [if_neg v6, if_neg (fun w => v5 ⟨v6, by rw [i_lt]; rw [i_le] at w; omega⟩)]
          · rw [if_pos (decide_eq_false (fun w => v4 w.2.2.2.1))]
            by_cases v6 : x3 < 0
            · rw [if_pos v6]
            · rw [if_neg v6, if_neg (fun w => v4 ⟨v6, by rw [i_lt, sub1]; rw [i_lt] at w; omega⟩)]
        · rw [if_pos (decide_eq_false (fun w => v3 w.2.2.1))]
          by_cases v6 : x2 < 1
          · rw [if_pos v6]
          · rw [if_neg v6, if_neg (fun w => v3 ⟨v6, by rw [i_lt]; rw [i_le] at w; omega⟩)]
    rw [leaf]
  rcases hup with hU | ⟨w1, w2, w3⟩
  · have im1 : (-1 : Int32).toInt = -1 := by decide +kernel
    have i0 : (0 : Int32).toInt = 0 := rfl
    obtain ⟨u, hu4, hum⟩ : ∃ u : Option Nat, x4 = upsI u ∧ ∀ v, u = some v → v < m := by
      rcases hU with q | ⟨v, hv, q⟩
      · exact ⟨none, q, fun v w => by cases w⟩
      · exact ⟨some v, q, fun v' w => by cases w; exact hv⟩
    have nlt : ¬ x4 < -1 := by
      rw [hu4]
      cases u with
      | none => decide +kernel
      | some v =>
        have := hum v rfl
        show ¬ nI v < -1
        rw [i_lt, nI_toInt (sm31 (by omega)), im1]
        omega
    have lt : x4 < nI m := by
      rw [hu4]
      cases u with
      | none =>
        show (-1 : Int32) < nI m
        rw [i_lt, nI_toInt (sm31 (by omega)), im1]
        omega
      | some v => exact nI_lt (hum v rfl) (sm31 (by omega))
    have nu : ¬ (¬ x4 = -1 ∧ ¬ (¬ x4 < 0 ∧ ¬ nI m - 1 < x4)) := by
      rintro ⟨z1, z2⟩
      rcases hU with q | ⟨v, hv, q⟩
      · exact z1 q
      · apply z2
        rw [q]
        exact rng_ok _ hv (by omega) rfl
    cases hBv : B with
    | false =>
      refine PQ.x 1 2 hI0 (by decide) ?_ (fun g' => ?_)
      · rw [cl, if_neg nlt, if_pos lt, if_pos hBv]
      · rw [md f g' m1 mn, if_neg nu, if_pos hBv]
    | true =>
      by_cases hm6 : m = 6
      · have e6 : nI m = 6 := by rw [hm6]; rfl
        refine PQ.x 2 3 hI0 (by decide) ?_ (fun g' => ?_)
        · rw [cl, if_neg nlt, if_pos lt, if_neg (by rw [hBv]; decide), e6, if_neg (by decide +kernel)]
        · rw [md f g' m1 mn, if_neg nu, if_neg (by rw [hBv]; decide), if_pos e6]
      · rw [hBv] at hB
        obtain ⟨v1, v2, v3, v4, v5⟩ := of_decide_eq_true hB.symm
        have i60 : (60 : Int32).toInt = 60 := rfl
        have i1 : (1 : Int32).toInt = 1 := rfl
        have le60 : x2 ≤ 60 := by have := v3.2; rw [i_lt] at this; rw [i_le]; omega
        obtain ⟨d, hd60, hd⟩ := nI_of2 (x := x2) (M := 60) (n := 60) rfl (by have := v3.1; rw [i_lt] at this ⊢; omega) le60
        have hd1 : 1 ≤ d := by
          rcases Nat.eq_zero_or_pos d with w | w
          · rw [hd, w] at v3; exact absurd (by decide +kernel) v3.1
          · exact w
        obtain ⟨o, ho31, ho⟩ := nI_of v4.1
        have hod : o < d := by
          have := v4.2
          rw [hd, ho, nI_sub1 (by omega), i_lt, nI_toInt (sm31 (by omega)), nI_toInt ho31] at this
          omega
        obtain ⟨F0, hF0⟩ : ∃ F0, F0 = ax_row1 (ax_up (ax_up (ax_up (ax_up (ax_up (ax_up (ax_up (ax_up f 9 (6 * 0 + m) 1 x1) 9 (6 * 0 + m) 2 x2) 9 (6 * 0 + m) 3 x3) 9 (6 * 0 + m) 4 x4) 9 (6 * 0 + m) 5 x5) 9 (6 * 0 + m) 6 (b2 b)) 9 (6 * 0 + m) 7 0) 9 (6 * 0 + m) 8 0) 10 (6 * 0 + m) (fun j => if j < 12 then 0 else f 10 (6 * 0 + m) j) := ⟨_, rfl⟩
        have y0 : ∀ k i j, ¬ (k = 9 ∧ i = 6 * 0 + m ∧ 1 ≤ j ∧ j ≤ 8) → ¬ (k = 10 ∧ i = 6 * 0 + m) → F0 k i j = f k i j := fun k i j w1 w2 => by rw [hF0, row1_ap, if_neg w2, upn (by omega), upn (by omega), upn (by omega), upn (by omega), upn (by omega), upn (by omega), upn (by omega), upn (by omega)]
        have s0 : F0 9 (6 * 0 + m) 1 = x1 ∧ F0 9 (6 * 0 + m) 2 = x2 ∧ F0 9 (6 * 0 + m) 3 = x3 ∧ F0 9 (6 * 0 + m) 4 = x4 ∧ F0 9 (6 * 0 + m) 5 = x5 ∧ F0 9 (6 * 0 + m) 6 = b2 b ∧ F0 9 (6 * 0 + m) 7 = 0 ∧ F0 9 (6 * 0 + m) 8 = 0 := by
          rw [hF0]
          refine ⟨?_, ?_, ?_, ?_, ?_, ?_, ?_, ?_⟩ <;> simp [row1_ap, ax_up_ap]
        have s1 : ∀ p, p < 12 → F0 10 (6 * 0 + m) p = 0 := fun p hp => by rw [hF0, row1_ap, if_pos ⟨rfl, rfl⟩, if_pos hp]
        obtain ⟨F1, hF1⟩ : ∃ F1, F1 = ax_up F0 7 0 2 (nI (m + 1)) := ⟨_, rfl⟩
        have y1 : ∀ k i j, ¬ (k = 9 ∧ i = 6 * 0 + m ∧ 1 ≤ j ∧ j ≤ 8) → ¬ (k = 10 ∧ i = 6 * 0 + m) → ¬ (k = 7 ∧ i = 0 ∧ j = 2) → F1 k i j = f k i j := fun k i j w1 w2 w3 => by rw [hF1, upn w3, y0 k i j w1 w2]
        obtain ⟨G0, hG0⟩ : ∃ G0, G0 = (ax_up (ax_up (ax_up (ax_up (ax_up (ax_up (ax_up (ax_up (ax_up F1 19 0 0 0) 36 0 m x1) 37 0 m x2) 38 0 m x3) 39 0 m x4) 40 0 m x5) 41 0 m (b2 b)) 42 0 m 0) 43 0 m 0) := ⟨_, rfl⟩
        have g0 : ∀ k i j, ¬ (k = 19 ∧ i = 0 ∧ j = 0) → ¬ (36 ≤ k ∧ k ≤ 43 ∧ i = 0 ∧ j = m) → G0 k i j = F1 k i j := fun k i j w1 w2 => by rw [hG0, upn (by omega), upn (by omega), upn (by omega), upn (by omega), upn (by omega), upn (by omega), upn (by omega), upn (by omega), upn (by omega)]
        have sG : G0 36 0 m = x1 ∧ G0 37 0 m = x2 ∧ G0 38 0 m = x3 ∧ G0 39 0 m = x4 ∧ G0 40 0 m = x5 ∧ G0 41 0 m = b2 b ∧ G0 42 0 m = 0 ∧ G0 43 0 m = 0 := by
          rw [hG0]
          refine ⟨?_, ?_, ?_, ?_, ?_, ?_, ?_, ?_⟩ <;> simp [ax_up_ap]
        have key : ∀ k, k ≤ 12 → (∀ p, p < k → ax_it k (fun p y => ax_up y 44 0 (12 * m + p) 0) G0 44 0 (12 * m + p) = 0) ∧ ∀ k' i j, ¬ (k' = 44 ∧ i = 0 ∧ 12 * m ≤ j ∧ j < 12 * m + 12) → ax_it k (fun p y => ax_up y 44 0 (12 * m + p) 0) G0 k' i j = G0 k' i j := by
          intro k
          induction k with
          | zero => intro _; exact ⟨fun p hp => absurd hp (by omega), fun _ _ _ _ => rfl⟩
          | succ k ih =>
            intro hk
            obtain ⟨i1, i2⟩ := ih (by omega)
            refine ⟨fun p hp => ?_, fun k' i j w => ?_⟩
            · rw [ax_it_s]
              by_cases e : p = k
              · subst e; exact ax_up_s _ _ _ _ _
              · rw [upn (by omega)]; exact i1 p (by omega)
            · rw [ax_it_s, upn (by omega)]; exact i2 k' i j w
        obtain ⟨k1, k2⟩ := key 12 (Nat.le_refl _)
        obtain ⟨K, hK⟩ : ∃ K, K = ax_it 12 (fun p y => ax_up y 44 0 (12 * m + p) 0) G0 := ⟨_, rfl⟩
        have loop : ∀ g', ax_run P_X10_addMirror 187 [some (.inr (19, 0)), some (.inl (.int x1)), some (.inl (.int x2)), some (.inl (.int x3)), some (.inl (.int x4)), some (.inl (.int x5)), some (.inl (.int (b2 b))), some (.inl (.int 1)), some (.inl (.int (nI m))), some (.inl (.int (nI 0)))] [] G0 g' 0 0 = ax_run P_X10_addMirror 187 [some (.inr (19, 0)), some (.inl (.int x1)), some (.inl (.int x2)), some (.inl (.int x3)), some (.inl (.int x4)), some (.inl (.int x5)), some (.inl (.int (b2 b))), some (.inl (.int 1)), some (.inl (.int (nI m))), some (.inl (.int (nI 12)))] [] K g' 0 0 := by
          intro g'
          rw [hK]
          exact ax_lp (fun i y => ax_run P_X10_addMirror 187 [some (.inr (19, 0)), some (.inl (.int x1)), some (.inl (.int x2)), some (.inl (.int x3)), some (.inl (.int x4)), some (.inl (.int x5)), some (.inl (.int (b2 b))), some (.inl (.int 1)), some (.inl (.int (nI m))), some (.inl (.int (nI i)))] [] y g' 0 0) (fun p y => ax_up y 44 0 (12 * m + p) 0) 12 G0 (fun i hi => by
            rw [g_X10_addMirror_187, if_neg (show ¬ (12 : Int32) ≤ nI i from nI_ge hi (by decide)), ix12, bd_n (by omega) (by decide), nI_1])
        rw [← hK] at k1
        have k2' : ∀ k' i j, ¬ (k' = 44 ∧ i = 0 ∧ 12 * m ≤ j ∧ j < 12 * m + 12) → K k' i j = G0 k' i j := fun k' i j w => by rw [hK]; exact k2 k' i j w
        have eK : K 19 0 4 = nI m := by rw [k2' _ _ _ (by omega), g0 _ _ _ (by omega) (by omega), y1 _ _ _ (by omega) (by omega) (by omega)]; exact mn
        obtain ⟨F2, hF2⟩ : ∃ F2, F2 = ax_up K 19 0 4 (nI (m + 1)) := ⟨_, rfl⟩
        have y2 : ∀ k i j, ¬ (k = 19 ∧ i = 0 ∧ (j = 0 ∨ j = 4)) → ¬ (36 ≤ k ∧ k ≤ 43 ∧ i = 0 ∧ j = m) → ¬ (k = 44 ∧ i = 0 ∧ 12 * m ≤ j ∧ j < 12 * m + 12) → F2 k i j = F1 k i j := fun k i j w1 w2 w3 => by rw [hF2, upn (by omega), k2' k i j w3, g0 k i j (by omega) w2]
        have z : ∀ k i j, ¬ (k = 9 ∧ i = 6 * 0 + m ∧ 1 ≤ j ∧ j ≤ 8) ∧ ¬ (k = 10 ∧ i = 6 * 0 + m) ∧ ¬ (k = 7 ∧ i = 0 ∧ j = 2) ∧ ¬ (k = 19 ∧ i = 0 ∧ (j = 0 ∨ j = 4)) ∧ ¬ (36 ≤ k ∧ k ≤ 43 ∧ i = 0 ∧ j = m) ∧ ¬ (k = 44 ∧ i = 0 ∧ 12 * m ≤ j ∧ j < 12 * m + 12) → F2 k i j = f k i j := fun k i j w => by rw [y2 k i j w.2.2.2.1 w.2.2.2.2.1 w.2.2.2.2.2, y1 k i j w.1 w.2.1 w.2.2.1]
        have q9 : ∀ j, F2 9 (6 * 0 + m) j = F0 9 (6 * 0 + m) j := fun j => by rw [y2 _ _ _ (by omega) (by omega) (by omega), hF1, upn (by omega)]
        have qk : ∀ k, 36 ≤ k → k ≤ 43 → F2 k 0 m = G0 k 0 m := fun k w1 w2 => by rw [hF2, upn (by omega), k2' k 0 m (by omega)]
        have hA' : NA (mirE E x1 x5 d o u b) f := hA
        have mA' : MA (mirE E x1 x5 d o u b) f := mA
        have cp' : CRp (mirE E x1 x5 d o u b) R f := c3
        have cj' : CRj (mirE E x1 x5 d o u b) R f := c4
        have mp' : MRp (mirE E x1 x5 d o u b) R f := m3
        have mj' : MRj (mirE E x1 x5 d o u b) R f := m4
        have mc' : MRc (mirE E x1 x5 d o u b) R f := m5
        refine PQ.c (f1 := F1) (f2 := F2) (nI m) ?_ (fun g' => ?_) ?_ ⟨mirE E x1 x5 d o u b, mirS E S, R, ⟨?_, ?_, ?_, ⟨hA'.of' (fun k i j w => z k i j (by omega)), ⟨?_, fun m' hm' => ?_⟩, ?_, ?_, fun m' hm' => ?_⟩, ⟨mA'.of' (fun k i j w => z k i j (by omega)), ⟨?_, fun m' hm' => ?_⟩, ?_, ?_, fun m' hm' => ?_⟩, ⟨by rw [z _ _ _ (by omega)]; exact c1, by rw [z _ _ _ (by omega)]; exact c2, cp'.of (fun k i j w => z k i j (by omega)), cj'.of (fun k i j w => z k i j (by omega)), c5.of (fun k i j w => z k i j (by omega)), c6.of (fun k i j w => z k i j (by omega))⟩, ⟨by rw [z _ _ _ (by omega)]; exact m1, by rw [z _ _ _ (by omega)]; exact m2, mp'.of (fun k i j w => z k i j (by omega)), mj'.of (fun k i j w => z k i j (by omega)), mc'.of (fun k i j w => z k i j (by omega)), by rw [z _ _ _ (by omega)]; exact m6.1, fun i hi => by rw [z _ _ _ (by omega)]; exact m6.2.1 i hi, fun m' hm' => ?_⟩⟩, Nat.le_trans ht (by omega)⟩
        · rw [cl, if_neg nlt, if_pos lt, if_neg (by rw [hBv]; decide), if_pos (show nI m < (6 : Int32) from nI_lt (b := 6) (by omega) (by decide)), bd_n (by omega) (by decide), x4_restart f g _ _ _ _ _ _ _ (b2_01 b), calv_r, ← hF0, y0 7 0 2 (by omega) (by omega), cn, nI_1, ← hF1]
        · have e1 : F1 19 0 1 = nI (rSec R) := by rw [y1 _ _ _ (by omega) (by omega) (by omega)]; exact m1
          have e4 : F1 19 0 4 = nI m := by rw [y1 _ _ _ (by omega) (by omega) (by omega)]; exact mn
          rw [md F1 g' e1 e4, if_neg nu, if_neg (by rw [hBv]; decide), if_neg (nI_neL 6 hm6 (by omega) (by decide)), bd_n (by omega) (by decide), ← hG0]
          refine (loop g').trans ?_
          rw [g_X10_addMirror_187, if_pos (show (12 : Int32) ≤ nI 12 from nI_le (Nat.le_refl _) (by decide)), eK, nI_1, hF2]
        · rw [hF2, upn (by omega), k2' _ _ _ (by omega), hG0, upn (by omega), upn (by omega), upn (by omega), upn (by omega), upn (by omega), upn (by omega), upn (by omega), upn (by omega)]; exact ax_up_s _ _ _ _ _
        · refine ⟨hE.1, show eNm E + 1 ≤ 6 by omega, hE.2.2.1, fun m' hm' => ?_, hE.2.2.2.2⟩
          have hm'' : m' < m + 1 := by rw [hm]; exact hm'
          show 1 ≤ up1 (eItv E) (eNm E) d m' ∧ up1 (eItv E) (eNm E) d m' ≤ 60 ∧ up1 (eOfs E) (eNm E) o m' < up1 (eItv E) (eNm E) d m' ∧ ∀ v, up1 (eUps E) (eNm E) u m' = some v → v < m'
          rw [← hm]
          by_cases e : m' = m
          · rw [e, up1_s, up1_s, up1_s]; exact ⟨hd1, hd60, hod, hum⟩
          · rw [up1_n _ _ e, up1_n _ _ e, up1_n _ _ e]; exact hE.2.2.2.1 m' (by omega)
        · refine ⟨fun m' hm' => ?_, fun m' hm' p => ?_, fun m' hm' p hp => ?_, hS.2.2.2⟩
          · have hm'' : m' < m + 1 := by rw [hm]; exact hm'
            show up1 (sOwn S) (eNm E) 0 m' ≤ eNi E
            rw [← hm]
            by_cases e : m' = m
            · rw [e, up1_s]; exact Nat.zero_le _
            · rw [up1_n _ _ e]; exact hS.1 m' (by omega)
          · have hm'' : m' < m + 1 := by rw [hm]; exact hm'
            show up1 (sFl S) (eNm E) (fun _ => 0) m' p &&& _ = 0
            rw [← hm]
            by_cases e : m' = m
            · rw [e, up1_s]; decide +kernel
            · rw [up1_n _ _ e]; exact hS.2.1 m' (by omega) p
          · have hm'' : m' < m + 1 := by rw [hm]; exact hm'
            show up1 (sFl S) (eNm E) (fun _ => 0) m' p = 0
            rw [← hm]
            by_cases e : m' = m
            · rw [e, up1_s]
            · rw [up1_n _ _ e]; exact hS.2.2.1 m' (by omega) p hp
        · refine ⟨hR.1, hR.2.1, hR.2.2.1, ⟨hR.2.2.2.1.1, fun c hc => ⟨?_, (hR.2.2.2.1.2 c hc).2⟩⟩, hR.2.2.2.2⟩
          have := (hR.2.2.2.1.2 c hc).1
          show rUse R c < 2 ^ (eNm E + 1)
          rw [Nat.pow_succ]
          omega
        · show F2 7 0 2 = nI (eNm E + 1)
          rw [y2 _ _ _ (by omega) (by omega) (by omega), hF1, ax_up_s, hm]
        · have hm'' : m' < m + 1 := by rw [hm]; exact hm'
          show _ = up1 (eCar E) (eNm E) x1 m' ∧ _ = nI (up1 (eItv E) (eNm E) d m') ∧ _ = nI (up1 (eOfs E) (eNm E) o m') ∧ _ = upsI (up1 (eUps E) (eNm E) u m') ∧ _ = up1 (eCap E) (eNm E) x5 m' ∧ _ = b2 (up1 (eCrf E) (eNm E) b m')
          rw [← hm]
          by_cases e : m' = m
          · rw [e, up1_s, up1_s, up1_s, up1_s, up1_s, up1_s, q9, q9, q9, q9, q9, q9]
            exact ⟨s0.1, s0.2.1.trans hd, s0.2.2.1.trans ho, s0.2.2.2.1.trans hu4, s0.2.2.2.2.1, s0.2.2.2.2.2.1⟩
          · rw [up1_n _ _ e, up1_n _ _ e, up1_n _ _ e, up1_n _ _ e, up1_n _ _ e, up1_n _ _ e, z 9 _ 1 (by omega), z 9 _ 2 (by omega), z 9 _ 3 (by omega), z 9 _ 4 (by omega), z 9 _ 5 (by omega), z 9 _ 6 (by omega)]
            exact hT.2 m' (by omega)
        · rw [z _ _ _ (by omega)]; exact hD.1
        · rw [z _ _ _ (by omega)]; exact hD.2.1
        · have hm'' : m' < m + 1 := by rw [hm]; exact hm'
          show _ = nI (up1 (sOwn S) (eNm E) 0 m') ∧ _ = b2 (up1 (sWr S) (eNm E) false m') ∧ ∀ p, p < 12 → _ = up1 (sFl S) (eNm E) (fun _ => 0) m' p
          rw [← hm]
          by_cases e : m' = m
          · rw [e, up1_s, up1_s, up1_s, q9, q9]
            exact ⟨s0.2.2.2.2.2.2.1, s0.2.2.2.2.2.2.2, fun p hp => by rw [y2 _ _ _ (by omega) (by omega) (by omega), hF1, upn (by omega)]; exact s1 p hp⟩
          · rw [up1_n _ _ e, up1_n _ _ e, up1_n _ _ e, z 9 _ 7 (by omega), z 9 _ 8 (by omega)]
            exact ⟨(hD.2.2 m' (by omega)).1, (hD.2.2 m' (by omega)).2.1, fun p hp => by rw [z 10 _ _ (by omega)]; exact (hD.2.2 m' (by omega)).2.2 p hp⟩
        · show F2 19 0 4 = nI (eNm E + 1)
          rw [hF2, ax_up_s, hm]
        · have hm'' : m' < m + 1 := by rw [hm]; exact hm'
          show _ = up1 (eCar E) (eNm E) x1 m' ∧ _ = nI (up1 (eItv E) (eNm E) d m') ∧ _ = nI (up1 (eOfs E) (eNm E) o m') ∧ _ = upsI (up1 (eUps E) (eNm E) u m') ∧ _ = up1 (eCap E) (eNm E) x5 m' ∧ _ = b2 (up1 (eCrf E) (eNm E) b m')
          rw [← hm]
          by_cases e : m' = m
          · rw [e, up1_s, up1_s, up1_s, up1_s, up1_s, up1_s, qk 36 (by omega) (by omega), qk 37 (by omega) (by omega), qk 38 (by omega) (by omega), qk 39 (by omega) (by omega), qk 40 (by omega) (by omega), qk 41 (by omega) (by omega)]
            exact ⟨sG.1, sG.2.1.trans hd, sG.2.2.1.trans ho, sG.2.2.2.1.trans hu4, sG.2.2.2.2.1, sG.2.2.2.2.2.1⟩
          · rw [up1_n _ _ e, up1_n _ _ e, up1_n _ _ e, up1_n _ _ e, up1_n _ _ e, up1_n _ _ e, z 36 _ _ (by omega), z 37 _ _ (by omega), z 38 _ _ (by omega), z 39 _ _ (by omega), z 40 _ _ (by omega), z 41 _ _ (by omega)]
            exact mT.2 m' (by omega)
        · rw [z _ _ _ (by omega)]; exact mD.1
        · rw [z _ _ _ (by omega)]; exact mD.2.1
        · have hm'' : m' < m + 1 := by rw [hm]; exact hm'
          show _ = nI (up1 (sOwn S) (eNm E) 0 m') ∧ _ = b2 (up1 (sWr S) (eNm E) false m') ∧ ∀ p, p < 12 → _ = up1 (sFl S) (eNm E) (fun _ => 0) m' p
          rw [← hm]
          by_cases e : m' = m
          · rw [e, up1_s, up1_s, up1_s, qk 42 (by omega) (by omega), qk 43 (by omega) (by omega)]
            exact ⟨sG.2.2.2.2.2.2.1, sG.2.2.2.2.2.2.2, fun p hp => by rw [hF2, upn (by omega)]; exact k1 p hp⟩
          · rw [up1_n _ _ e, up1_n _ _ e, up1_n _ _ e, z 42 _ _ (by omega), z 43 _ _ (by omega)]
            exact ⟨(mD.2.2 m' (by omega)).1, (mD.2.2 m' (by omega)).2.1, fun p hp => by rw [z 44 _ _ (by omega)]; exact (mD.2.2 m' (by omega)).2.2 p hp⟩
        · by_cases e : m' = m
          · rw [e, qk 43 (by omega) (by omega)]; exact Or.inl sG.2.2.2.2.2.2.2
          · rw [z 43 _ _ (by omega)]; exact m6.2.2 m' hm'
  · refine PQ.x 3 1 hI0 (by decide) ?_ (fun g' => ?_)
    · rw [cl]
      by_cases q : x4 < -1
      · rw [if_pos q]
      · rw [if_neg q, if_neg (w1.resolve_left q)]
    · rw [md f g' m1 mn, if_pos ⟨w2, w3⟩]
end AYL
