/-! a package more -/
section AYI
def addE (E : Ev) (a b : Int32) : Ev := (up1 (eSec E) (eNp E) a, up1 (eSz E) (eNp E) b, eTol E, eCar E, eCap E, eItv E, eOfs E, eUps E, eCrf E, eNp E + 1, eNm E, eNi E)
def addR (E : Ev) (R : Rt) (c : Int32) : Rt := (rSec R, rVal R, up1 (rDep R) (eNp E) c, up1 (rVer R) (eNp E) 1, R.2.2.2.2)
theorem EW_add {E} (a b) (hE : EW E) (h : eNp E < 12) : EW (addE E a b) := ⟨h, hE.2.1, hE.2.2.1, hE.2.2.2.1, hE.2.2.2.2⟩
theorem SW_add {E S} (a b) (hS : SW E S) : SW (addE E a b) S := ⟨hS.1, hS.2.1, fun m hm p hp => hS.2.2.1 m hm p (Nat.le_of_succ_le hp), hS.2.2.2⟩
theorem RW_add {E S R} (a b) {c : Int32} (hR : RW E S R) (hc : ∀ i, eNp E ≤ i → i < 32 → bt c i = false) : RW (addE E a b) S (addR E R c) := by
  refine ⟨hR.1, fun p hp => ?_, fun j h1 h2 => ?_, ⟨hR.2.2.2.1.1, fun c' hc' => ⟨(hR.2.2.2.1.2 c' hc').1, fun p h1 h2 => (hR.2.2.2.1.2 c' hc').2 p (Nat.le_of_succ_le h1) h2⟩⟩, hR.2.2.2.2⟩
  · show 1 ≤ up1 (rVer R) (eNp E) 1 p ∧ up1 (rVer R) (eNp E) 1 p ≤ 30 ∧ ∀ i, p ≤ i → i < 32 → bt (up1 (rDep R) (eNp E) c p) i = false
    by_cases e : p = eNp E
    · rw [e, up1_s, up1_s]; exact ⟨by decide, by decide, hc⟩
    · rw [up1_n _ _ e, up1_n _ _ e]; exact hR.2.1 p (by have : p < eNp E + 1 := hp; omega)
  · obtain ⟨k1, k2, k3⟩ := hR.2.2.1 j h1 h2
    exact ⟨Nat.le_succ_of_le k1, k2, k3⟩
def Ch (E : Ev) (S : St) (R : Rt) (f : ax_F) : Prop := NX 0 E S f ∧ CR E R f
def Mh (E : Ev) (S : St) (R : Rt) (f : ax_F) : Prop := NM E S f ∧ MR E R f
theorem W7.halves {E S R f} : W7 E S R f ↔ EW E ∧ SW E S ∧ RW E S R ∧ Ch E S R f ∧ Mh E S R f := by
  unfold W7 Ch Mh
  constructor
  · rintro ⟨a, b, c, d, e, f1, g1⟩; exact ⟨a, b, c, ⟨d, f1⟩, e, g1⟩
  · rintro ⟨a, b, c, ⟨d, f1⟩, e, g1⟩; exact ⟨a, b, c, d, e, f1, g1⟩
theorem Ch.of {E S R f f'} (h : Ch E S R f) (z : ∀ k i j, k ≤ 17 → f' k i j = f k i j) : Ch E S R f' := by
  obtain ⟨⟨hA, hT, hD⟩, ⟨c1, c2, c3, c4, c5, c6⟩⟩ := h
  exact ⟨⟨hA.of' (fun k i j q => z k i j (by omega)), hT.of' (fun k i j q => z k i j (by omega)), hD.of' (fun k i j q => z k i j (by omega))⟩, by rw [z _ _ _ (by omega)]; exact c1, by rw [z _ _ _ (by omega)]; exact c2, c3.of (fun k i j q => z k i j (by omega)), c4.of (fun k i j q => z k i j (by omega)), c5.of (fun k i j q => z k i j (by omega)), c6.of (fun k i j q => z k i j (by omega))⟩
theorem Mh.of {E S R f f'} (h : Mh E S R f) (z : ∀ k i j, 19 ≤ k ∧ k < 54 ∧ ¬ (k = 19 ∧ (j = 0 ∨ 30 ≤ j)) → f' k i j = f k i j) : Mh E S R f' := by
  obtain ⟨⟨mA, mT, mD⟩, ⟨m1, m2, m3, m4, m5, m6⟩⟩ := h
  exact ⟨⟨mA.of' (fun k i j q => z k i j (by omega)), mT.of' (fun k i j q => z k i j (by omega)), mD.of' (fun k i j q => z k i j (by omega))⟩, by rw [z _ _ _ (by omega)]; exact m1, by rw [z _ _ _ (by omega)]; exact m2, m3.of (fun k i j q => z k i j (by omega)), m4.of (fun k i j q => z k i j (by omega)), m5.of (fun k i j q => z k i j (by omega)), m6.of (fun k i j q => z k i j (by omega))⟩
theorem xpk_o (f : ax_F) (np : Nat) (a b c : Int32) (k i j : Nat) (h1 : ¬ (k = 3 ∧ i = np ∧ j ≤ 4)) (h2 : ¬ (k = 1 ∧ i = 0 ∧ j = 3)) : xpk f np a b c k i j = f k i j := by
  unfold xpk
  rw [upn (by omega), upn (by omega), upn (by omega), upn (by omega), upn (by omega), upn (by omega)]
theorem Ch_add {E S R f} (a b c : Int32) (h : Ch E S R f) (hE : EW E) : Ch (addE E a b) S (addR E R c) (xpk f (eNp E) a b c) := by
  obtain ⟨⟨hA, hT, hD⟩, ⟨c1, c2, c3, c4, c5, c6⟩⟩ := h
  have o := fun k i j => xpk_o f (eNp E) a b c k i j
  have s1 : xpk f (eNp E) a b c 1 0 3 = nI (eNp E + 1) := by unfold xpk; exact ax_up_s _ _ _ _ _
  have s4 : xpk f (eNp E) a b c 3 (eNp E) 4 = 1 := by unfold xpk; rw [upn (by omega)]; exact ax_up_s _ _ _ _ _
  have s3 : xpk f (eNp E) a b c 3 (eNp E) 3 = xcl f (eNp E) c ||| ((1 : Int32) <<< (nI (eNp E) &&& 31)) := by unfold xpk; rw [upn (by omega), upn (by omega)]; exact ax_up_s _ _ _ _ _
  have s2 : xpk f (eNp E) a b c 3 (eNp E) 2 = c := by unfold xpk; rw [upn (by omega), upn (by omega), upn (by omega)]; exact ax_up_s _ _ _ _ _
  have sb : xpk f (eNp E) a b c 3 (eNp E) 1 = b := by unfold xpk; rw [upn (by omega), upn (by omega), upn (by omega), upn (by omega)]; exact ax_up_s _ _ _ _ _
  have sa : xpk f (eNp E) a b c 3 (eNp E) 0 = a := by unfold xpk; rw [upn (by omega), upn (by omega), upn (by omega), upn (by omega), upn (by omega)]; exact ax_up_s _ _ _ _ _
  have cR4 : CRj (addE E a b) (addR E R c) f := c4
  have cR5 : CRc (addR E R c) f := c5
  have cR6 : CRb (addR E R c) f := c6
  have hT' : NT 0 (addE E a b) f := hT
  have hD' : ND 0 (addE E a b) S f := hD
  refine ⟨⟨⟨s1, ?_, fun p hp => ?_, fun j p hj hp => ?_⟩, hT'.of' (fun k i j q => o k i j (by omega) (by omega)), hD'.of' (fun k i j q => o k i j (by omega) (by omega))⟩, ?_, ?_, fun p hp => ?_, cR4.of (fun k i j q => o k i j (by omega) (by omega)), cR5.of (fun k i j q => o k i j (by omega) (by omega)), cR6.of (fun k i j q => o k i j (by omega) (by omega))⟩
  · rw [o _ _ _ (by omega) (by omega)]; exact hA.2.1
  · show _ = up1 (eSec E) (eNp E) a p ∧ _ = up1 (eSz E) (eNp E) b p
    by_cases e : p = eNp E
    · rw [e, up1_s, up1_s]; exact ⟨sa, sb⟩
    · rw [up1_n _ _ e, up1_n _ _ e, o _ _ _ (by omega) (by omega), o _ _ _ (by omega) (by omega)]; exact hA.2.2.1 p (by have : p < eNp E + 1 := hp; omega)
  · refine Eq.trans ?_ (hA.2.2.2 j p hj hp)
    unfold tv
    rw [o _ _ _ (by omega) (by omega)]
  · rw [o _ _ _ (by omega) (by omega)]; exact c1
  · rw [o _ _ _ (by omega) (by omega)]; exact c2
  · show _ = up1 (rDep R) (eNp E) c p ∧ _ = nI (up1 (rVer R) (eNp E) 1 p) ∧ _ = xcl _ p (up1 (rDep R) (eNp E) c p) ||| _
    have hp' : p < eNp E + 1 := hp
    rw [xcl_congr (f := f) (np := p) _ (fun i hi => o _ _ _ (by omega) (by omega))]
    by_cases e : p = eNp E
    · rw [e, up1_s, up1_s]; exact ⟨s2, s4, s3⟩
    · rw [up1_n _ _ e, up1_n _ _ e, o _ _ _ (by omega) (by omega), o _ _ _ (by omega) (by omega), o _ _ _ (by omega) (by omega)]; exact c3 p (by omega)
theorem Mh_put (g) {E S R f} (a b c : Int32) (h : Mh E S R f) (hE : EW E) (hS : SW E S) (hR : RW E S R) (hlt : eNp E < 12) : ∃ f', s_X10_putPackage [.inr (19, 0), .inl (.int a), .inl (.int b), .inl (.int c)] f g = rV f' g ∧ Mh (addE E a b) S (addR E R c) f' ∧ (∀ k i j, k < 29 → ¬ (k = 19 ∧ i = 0 ∧ j = 2) → f' k i j = f k i j) ∧ ∀ k i j, 48 ≤ k → f' k i j = f k i j := by
  obtain ⟨⟨mA, mT, mD⟩, ⟨m1, m2, m3, m4, m5, m6⟩⟩ := h
  have mp : f 19 0 2 = nI (eNp E) := mA.1
  have h6 := hE.2.1
  obtain ⟨p, hp⟩ : ∃ p, p = eNp E := ⟨_, rfl⟩
  rw [← hp] at mp hlt
  obtain ⟨F0, hF0⟩ : ∃ F0, F0 = ax_up (ax_up (ax_up (ax_up f 29 0 p a) 30 0 p b) 31 0 p c) 32 0 p 1 := ⟨_, rfl⟩
  have y0 : ∀ k i j, ¬ (29 ≤ k ∧ k ≤ 32 ∧ i = 0 ∧ j = p) → F0 k i j = f k i j := fun k i j w => by rw [hF0, upn (by omega), upn (by omega), upn (by omega), upn (by omega)]
  rw [e_X10_putPackage, g_X10_putPackage_0, mp, bd_n (by omega) (by decide), show (ax_up f 29 0 p a) 19 0 2 = nI p from by rw [upn (by omega)]; exact mp, bd_n (by omega) (by decide), show (ax_up (ax_up f 29 0 p a) 30 0 p b) 19 0 2 = nI p from by rw [upn (by omega), upn (by omega)]; exact mp, bd_n (by omega) (by decide), show (ax_up (ax_up (ax_up f 29 0 p a) 30 0 p b) 31 0 p c) 19 0 2 = nI p from by rw [upn (by omega), upn (by omega), upn (by omega)]; exact mp, bd_n (by omega) (by decide), ← hF0]
  obtain ⟨F1, l1, a1, a2⟩ := ax_lpE (fun i (x : ax_F) => ax_run P_X10_putPackage 43 [some (.inr (19, 0)), some (.inl (.int a)), some (.inl (.int b)), some (.inl (.int c)), some (.inl (.int (nI i)))] [] x g 0 0) (fun i x (_ : Unit) => (∀ m, m < i → x 44 0 (12 * m + p) = 0) ∧ ∀ k i' j, ¬ (k = 44 ∧ i' = 0 ∧ j % 12 = p) → x k i' j = F0 k i' j) (fun _ y => y) 6 F0 () ⟨fun m hm => absurd hm (by omega), fun _ _ _ _ => rfl⟩ (by
    intro i x _ hi hI
    obtain ⟨a1, a2⟩ := hI
    rw [g_X10_putPackage_43, if_neg (show ¬ (6 : Int32) ≤ nI i from nI_ge hi (by decide)), a2 19 0 2 (by omega), y0 _ _ _ (by omega), mp, ix12, bd_n (by omega) (by decide), nI_1]
    refine ⟨_, rfl, fun m hm => ?_, fun k i' j w => ?_⟩
    · by_cases e : m = i
      · subst e; exact ax_up_s _ _ _ _ _
      · rw [upn (by omega)]; exact a1 m (by omega)
    · rw [upn (by omega)]; exact a2 k i' j w)
  obtain ⟨F2, l2, b1, b2'⟩ := ax_lpE (fun i (x : ax_F) => ax_run P_X10_putPackage 75 [some (.inr (19, 0)), some (.inl (.int a)), some (.inl (.int b)), some (.inl (.int c)), some (.inl (.int (nI i)))] [] x g 0 0) (fun i x (_ : Unit) => (∀ m, m < i → x 47 0 (12 * m + p) = 0) ∧ ∀ k i' j, ¬ (k = 47 ∧ i' = 0 ∧ j % 12 = p) → x k i' j = F1 k i' j) (fun _ y => y) 4 F1 () ⟨fun m hm => absurd hm (by omega), fun _ _ _ _ => rfl⟩ (by
    intro i x _ hi hI
    obtain ⟨b1, b2'⟩ := hI
    rw [g_X10_putPackage_75, if_neg (show ¬ (4 : Int32) ≤ nI i from nI_ge hi (by decide)), b2' 19 0 2 (by omega), a2 19 0 2 (by omega), y0 _ _ _ (by omega), mp, ix12, bd_n (by omega) (by decide), nI_1]
    refine ⟨_, rfl, fun m hm => ?_, fun k i' j w => ?_⟩
    · by_cases e : m = i
      · subst e; exact ax_up_s _ _ _ _ _
      · rw [upn (by omega)]; exact b1 m (by omega)
    · rw [upn (by omega)]; exact b2' k i' j w)
  have e2 : F2 19 0 2 = nI p := by rw [b2' _ _ _ (by omega), a2 _ _ _ (by omega), y0 _ _ _ (by omega)]; exact mp
  have o : ∀ k i j, ¬ (29 ≤ k ∧ k ≤ 32 ∧ i = 0 ∧ j = p) → ¬ (k = 44 ∧ i = 0 ∧ j % 12 = p) → ¬ (k = 47 ∧ i = 0 ∧ j % 12 = p) → ¬ (k = 19 ∧ i = 0 ∧ j = 2) → (ax_up F2 19 0 2 (nI (p + 1))) k i j = f k i j := fun k i j w1 w2 w3 w4 => by rw [upn w4, b2' k i j w3, a2 k i j w2, y0 k i j w1]
  have q : ∀ k, 29 ≤ k → k ≤ 32 → (ax_up F2 19 0 2 (nI (p + 1))) k 0 p = F0 k 0 p := fun k w1 w2 => by rw [upn (by omega), b2' k 0 p (by omega), a2 k 0 p (by omega)]
  refine ⟨ax_up F2 19 0 2 (nI (p + 1)), (show _ = _ from l1).trans ?_, ⟨⟨⟨?_, ?_, fun p' hp' => ?_, fun j p' hj hp' => ?_, mA.2.2.2.2⟩, ⟨?_, fun m hm => ?_⟩, ?_, ?_, fun m hm => ?_⟩, ?_, ?_, fun p' hp' => ?_, fun j h1 h2 => ?_, ⟨?_, fun c' hc' => ?_⟩, ?_, fun i hi => ?_, fun m hm => ?_⟩, fun k i j w1 w2 => o k i j (by omega) (by omega) (by omega) w2, fun k i j w => o k i j (by omega) (by omega) (by omega) (by omega)⟩
  · rw [g_X10_putPackage_43, if_pos (show (6 : Int32) ≤ nI 6 from nI_le (Nat.le_refl _) (by decide))]
    refine (show _ = _ from l2).trans ?_
    rw [g_X10_putPackage_75, if_pos (show (4 : Int32) ≤ nI 4 from nI_le (Nat.le_refl _) (by decide)), e2, nI_1]
  · rw [ax_up_s, hp]; rfl
  · rw [o _ _ _ (by omega) (by omega) (by omega) (by omega)]; exact mA.2.1
  · show _ = up1 (eSec E) (eNp E) a p' ∧ _ = up1 (eSz E) (eNp E) b p'
    have hp'' : p' < eNp E + 1 := hp'
    by_cases e : p' = eNp E
    · rw [e, up1_s, up1_s, ← hp, q 29 (by omega) (by omega), q 30 (by omega) (by omega), hF0]
      exact ⟨by rw [upn (by omega), upn (by omega), upn (by omega)]; exact ax_up_s _ _ _ _ _, by rw [upn (by omega), upn (by omega)]; exact ax_up_s _ _ _ _ _⟩
    · rw [up1_n _ _ e, up1_n _ _ e, o _ _ _ (by omega) (by omega) (by omega) (by omega), o _ _ _ (by omega) (by omega) (by omega) (by omega)]; exact mA.2.2.1 p' (by omega)
  · rw [o _ _ _ (by omega) (by omega) (by omega) (by omega)]; exact mA.2.2.2.1 j p' hj hp'
  · rw [o _ _ _ (by omega) (by omega) (by omega) (by omega)]; exact mT.1
  · rw [o 36 _ _ (by omega) (by omega) (by omega) (by omega), o 37 _ _ (by omega) (by omega) (by omega) (by omega), o 38 _ _ (by omega) (by omega) (by omega) (by omega), o 39 _ _ (by omega) (by omega) (by omega) (by omega), o 40 _ _ (by omega) (by omega) (by omega) (by omega), o 41 _ _ (by omega) (by omega) (by omega) (by omega)]; exact mT.2 m hm
  · rw [o _ _ _ (by omega) (by omega) (by omega) (by omega)]; exact mD.1
  · rw [o _ _ _ (by omega) (by omega) (by omega) (by omega)]; exact mD.2.1
  · have hm' : m < eNm E := hm
    obtain ⟨d1, d2, d3⟩ := mD.2.2 m hm
    refine ⟨by rw [o 42 _ _ (by omega) (by omega) (by omega) (by omega)]; exact d1, by rw [o 43 _ _ (by omega) (by omega) (by omega) (by omega)]; exact d2, fun p' hp' => ?_⟩
    by_cases e : p' = p
    · subst e
      rw [upn (by omega), b2' _ _ _ (by omega), a1 m (by omega)]
      exact (hS.2.2.1 m hm' p' (by omega)).symm
    · rw [o _ _ _ (by omega) (by omega) (by omega) (by omega)]; exact d3 p' hp'
  · rw [o _ _ _ (by omega) (by omega) (by omega) (by omega)]; exact m1
  · rw [o _ _ _ (by omega) (by omega) (by omega) (by omega)]; exact m2
  · show _ = up1 (rDep R) (eNp E) c p' ∧ _ = nI (up1 (rVer R) (eNp E) 1 p')
    have hp'' : p' < eNp E + 1 := hp'
    by_cases e : p' = eNp E
    · rw [e, up1_s, up1_s, ← hp, q 31 (by omega) (by omega), q 32 (by omega) (by omega), hF0]
      exact ⟨by rw [upn (by omega)]; exact ax_up_s _ _ _ _ _, ax_up_s _ _ _ _ _⟩
    · rw [up1_n _ _ e, up1_n _ _ e, o _ _ _ (by omega) (by omega) (by omega) (by omega), o _ _ _ (by omega) (by omega) (by omega) (by omega)]; exact m3 p' (by omega)
  · rw [o _ _ _ (by omega) (by omega) (by omega) (by omega), o _ _ _ (by omega) (by omega) (by omega) (by omega)]; exact m4 j h1 h2
  · rw [o _ _ _ (by omega) (by omega) (by omega) (by omega)]; exact m5.1
  · have hc'' : c' < rNc R := hc'
    obtain ⟨w1, w2, w3⟩ := m5.2 c' hc'
    refine ⟨by rw [o 45 _ _ (by omega) (by omega) (by omega) (by omega)]; exact w1, by rw [o 46 _ _ (by omega) (by omega) (by omega) (by omega)]; exact w2, fun p' hp' => ?_⟩
    have hp'' : p' < eNp E + 1 := hp'
    have := hR.2.2.2.1.1
    by_cases e : p' = p
    · subst e
      rw [upn (by omega), b1 c' (by omega)]
      exact ((hR.2.2.2.1.2 c' hc'').2 p' (by omega) hlt).symm
    · rw [o _ _ _ (by omega) (by omega) (by omega) (by omega)]; exact w3 p' (by omega)
  · rw [o _ _ _ (by omega) (by omega) (by omega) (by omega)]; exact m6.1
  · rw [o _ _ _ (by omega) (by omega) (by omega) (by omega)]; exact m6.2.1 i hi
  · rw [o _ _ _ (by omega) (by omega) (by omega) (by omega)]; exact m6.2.2 m hm
theorem p_addPackage {n f} (g) (x1 x2 x3 : Int32) (hI : Inv n f) : PQ n [(3, 1), (1, 2), (2, 3)] (s_X9_addPackage [.inr (0, 0), .inl (.int x1), .inl (.int x2), .inl (.int x3)]) (s_X10_addPackage [.inr (19, 0), .inl (.int x1), .inl (.int x2), .inl (.int x3)]) f g := by
  have hI0 := hI
  obtain ⟨E, S, R, h, ht⟩ := hI
  have h' := h
  obtain ⟨hE, hS, hR, hX, hM, hC, hN⟩ := h
  have h12 := hE.1
  have hs5 := hR.1
  have cs : f 1 0 2 = nI (rSec R) := hC.1
  have ms : f 19 0 1 = nI (rSec R) := hN.1
  have cp : f 1 0 3 = nI (eNp E) := hX.1.1
  have mp : f 19 0 2 = nI (eNp E) := hM.1.1
  rcases rng x1 (nI (rSec R) - 1) (show rSec R ≤ 1000 by omega) rfl with ⟨a, ha, rfl⟩ | ⟨b1, b2'⟩
  · have hd := decide_eq_true (rng_ok (nI (rSec R) - 1) ha (by omega) rfl)
    have g1 : ¬ nI a < 0 := nI_pos (sm31 (by omega))
    have g2 : nI a < nI (rSec R) := nI_lt ha (sm31 (by omega))
    by_cases q : ¬ x2 < 1 ∧ ¬ 99 < x2
    · have q2 : x2 ≤ 99 := by have := q.2; rw [i_lt] at this; rw [i_le]; omega
      cases q3 : hbf x3 (eNp E) with
      | true =>
        refine PQ.x 1 2 hI0 (by decide) ?_ (fun g' => ?_)
        · rw [e_X9_addPackage, g_X9_addPackage_0, cs, if_neg g1, if_pos g2, if_neg q.1, if_pos q2, x9_set f g x3 cp, q3, if_pos rfl, calv_x]
        · rw [e_X10_addPackage, g_X10_addPackage_0, ms, x10_within, cali_r, hd, ite_b2, if_pos rfl, x10_within, cali_r, decide_eq_true q, ite_b2, if_pos rfl, mp, x10_set f g' x3 h12, cali_r, q3, ite_b2, if_neg (by decide), t_2]
      | false =>
        by_cases q4 : eNp E = 12
        · refine PQ.x 2 3 hI0 (by decide) ?_ (fun g' => ?_)
          · rw [e_X9_addPackage, g_X9_addPackage_0, cs, if_neg g1, if_pos g2, if_neg q.1, if_pos q2, x9_set f g x3 cp, q3, if_neg (by decide), calv_r, cp, q4, if_neg (by decide +kernel)]
          · rw [e_X10_addPackage, g_X10_addPackage_0, ms, x10_within, cali_r, hd, ite_b2, if_pos rfl, x10_within, cali_r, decide_eq_true q, ite_b2, if_pos rfl, mp, x10_set f g' x3 h12, cali_r, q3, ite_b2, if_pos (by decide), mp, q4, if_pos (by decide +kernel), t_3]
        · have hlt : eNp E < 12 := by omega
          have hbits := hbf_bt h12 q3
          obtain ⟨-, -, -, hCh, hMh⟩ := W7.halves.mp h'
          have hCh1 := Ch_add (nI a) x2 x3 hCh hE
          obtain ⟨F1, hF1⟩ : ∃ F1, F1 = xpk f (eNp E) (nI a) x2 x3 := ⟨_, rfl⟩
          rw [← hF1] at hCh1
          have y1 : ∀ k i j, 19 ≤ k → F1 k i j = f k i j := fun k i j w => by rw [hF1]; exact xpk_o _ _ _ _ _ _ _ _ (by omega) (by omega)
          have hMh1 : Mh E S R (ax_up F1 19 0 0 0) := hMh.of (fun k i j w => by rw [upn (by omega), y1 k i j (by omega)])
          refine Or.inl ⟨nI (eNp E), F1, ?_, fun g' => ?_⟩
          · rw [e_X9_addPackage, g_X9_addPackage_0, cs, if_neg g1, if_pos g2, if_neg q.1, if_pos q2, x9_set f g x3 cp, q3, if_neg (by decide), calv_r, cp, if_pos (show nI (eNp E) < (12 : Int32) from nI_lt (b := 12) hlt (by decide)), x0_addPack f g _ _ _ cp hlt, cali_r, hF1]
          · obtain ⟨F2, e2, hMh2, o1, o2⟩ := Mh_put g' (nI a) x2 x3 hMh1 hE hS hR hlt
            refine ⟨F2, ?_, ?_, addE E (nI a) x2, S, addR E R x3, W7.halves.mpr ⟨EW_add _ _ hE hlt, SW_add _ _ hS, RW_add _ _ hR hbits, hCh1.of (fun k i j w => by rw [o1 k i j (by omega) (by omega), upn (by omega)]), hMh2⟩, by omega⟩
            · have e1 : F1 19 0 1 = nI (rSec R) := by rw [y1 _ _ _ (by omega)]; exact ms
              have e3 : F1 19 0 2 = nI (eNp E) := by rw [y1 _ _ _ (by omega)]; exact mp
              have e4 : F2 19 0 2 = nI (eNp E + 1) := hMh2.1.1.1
              rw [e_X10_addPackage, g_X10_addPackage_0, e1, x10_within, cali_r, hd, ite_b2, if_pos rfl, x10_within, cali_r, decide_eq_true q, ite_b2, if_pos rfl, e3, x10_set F1 g' x3 h12, cali_r, q3, ite_b2, if_pos (by decide), e3, if_neg (nI_neL 12 q4 (by omega) (by decide)), t_0, e2, calv_r, e4, nI_pred]
            · rw [o1 19 0 0 (by decide) (by decide)]; exact ax_up_s _ _ _ _ _
    · refine PQ.x 1 2 hI0 (by decide) ?_ (fun g' => ?_)
      · rw [e_X9_addPackage, g_X9_addPackage_0, cs, if_neg g1, if_pos g2]
        by_cases w : x2 < 1
        · rw [if_pos w]
        · rw [if_neg w, if_neg (fun z => q ⟨w, by rw [i_lt]; rw [i_le] at z; omega⟩)]
      · rw [e_X10_addPackage, g_X10_addPackage_0, ms, x10_within, cali_r, hd, ite_b2, if_pos rfl, x10_within, cali_r, decide_eq_false q, ite_b2, if_neg (by decide), t_2]
  · refine PQ.x 3 1 hI0 (by decide) ?_ (fun g' => ?_)
    · rw [e_X9_addPackage, g_X9_addPackage_0, cs]
      exact rq x1 (by omega) b1
    · rw [e_X10_addPackage, g_X10_addPackage_0, ms, x10_within, cali_r, decide_eq_false b2', ite_b2, if_neg (by decide), t_1]
end AYI
