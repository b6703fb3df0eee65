/-! load: the reference, and both -/
section AYU
theorem Mh.fx {E S R f f'} (h : Mh E S R f) (z : FX f f') : Mh E S R f' := h.of (fun k i j q => z k i j (by omega) (by omega))
theorem ref_add (g) {E S R : _} (hE : EW E) (hS : SW E S) (hR : RW E S R) {I : Nat → It} {N : Nat} (hO : OkI (eNp E) I N) (x1 : Int32) (f : ax_F) (hM : Mh E S R f) (h33 : f 19 0 33 = nI N) (hI : Ids N I f) : ∃ f', ax_run P_X10_load 52 [some (.inr (19, 0)), some (.inl (.int x1)), some (.inl (.int (nI 0)))] [] f g 0 0 = rI (nI N) (ax_up f' 19 0 28 0) g ∧ Mh (addN E R I N).1 S (addN E R I N).2 f' ∧ f' 19 0 0 = f 19 0 0 ∧ (∀ k i j, k < 19 → f' k i j = f k i j) := by
  have hN := hO.1
  obtain ⟨f', l, k1, k2, k3, k4, k5⟩ := ax_lpE (fun i (y : ax_F) => ax_run P_X10_load 52 [some (.inr (19, 0)), some (.inl (.int x1)), some (.inl (.int (nI i)))] [] y g 0 0) (fun i y (_ : Unit) => Mh (addN E R I i).1 S (addN E R I i).2 y ∧ y 19 0 33 = nI N ∧ Ids N I y ∧ y 19 0 0 = f 19 0 0 ∧ (∀ k i j, k < 19 → y k i j = f k i j)) (fun _ y => y) N f () ⟨hM, h33, hI, rfl, fun _ _ _ _ => rfl⟩ (by
    intro i y _ hi hI'
    obtain ⟨k1, k2, k3, k4, k5⟩ := hI'
    obtain ⟨a1, a2, a3⟩ := WN (k := i) hE hS hR ⟨by omega, fun i' hi' => hO.2 i' (by omega)⟩
    have np' := addN_np E R I i
    obtain ⟨t1, t2, t3⟩ := k3 i hi
    obtain ⟨f2, e2, m2, o1, o2⟩ := Mh_put g (I i).1 (nI (I i).2.1) (I i).2.2 k1 a1 a2 a3 (by omega)
    rw [g_X10_load_52, k2, if_neg (nI_ge hi (sm31 (by omega))), bd_n (by omega) (by decide), bd_n (by omega) (by decide), bd_n (by omega) (by decide), t1, t2, t3, e2, calv_r, nI_1]
    refine ⟨f2, rfl, m2, by rw [o1 _ _ _ (by decide) (by decide)]; exact k2, fun k hk => ?_, by rw [o1 _ _ _ (by decide) (by decide)]; exact k4, fun k i j q => by rw [o1 k i j (by omega) (by omega)]; exact k5 k i j q⟩
    rw [o2 54 _ _ (by decide), o2 55 _ _ (by decide), o2 56 _ _ (by decide)]
    exact k3 k hk)
  refine ⟨f', l.trans ?_, k1, k4, k5⟩
  rw [g_X10_load_52, k2, if_pos (nI_le (Nat.le_refl _) (sm31 (by omega))), upn (by omega), k2]
theorem p_load {n f} (g) (hI : Inv n f) : PQ n [(1, 1)] (s_X9_load [.inr (0, 0)]) (s_X10_load [.inr (19, 0)]) f g := by
  have hI0 := hI
  obtain ⟨E, S, R, h, ht⟩ := hI
  have h' := h
  obtain ⟨hE, hS, hR, hX, hM, hC, hN⟩ := h
  obtain ⟨f1, e1, hF1, hC1⟩ := cls_firstWrong g h'
  have h1 := h'.same (Same.f18 hF1)
  have hlen := hR.2.2.2.2.1
  obtain ⟨W, hW⟩ : ∃ W, W = fwk (rSec R) (rBuf R) (rLen R) 0 (q0 (eNp E)) 0 (fun _ => ((0 : Int32), 0, (0 : Int32))) := ⟨_, rfl⟩
  have hle := fwk_le (rSec R) (rBuf R) (rLen R) 0 (q0 (eNp E)) 0 (fun _ => ((0 : Int32), 0, (0 : Int32)))
  rw [← hW] at e1 hC1 hle
  rw [Nat.zero_add] at hle
  have cl16 : f1 16 0 2 = nI (rLen R) := by rw [hF1 _ _ _ (by decide)]; exact hC.2.2.2.2.2.1
  -- the text isn't whole
  have bad : (∀ Qe it' I', W.2 = some (Qe, it', I') → qEnd Qe = false) → PQ n [(1, 1)] (s_X9_load [.inr (0, 0)]) (s_X10_load [.inr (19, 0)]) f g := by
    intro hb
    refine PQ.xs (f1 := f1) 1 1 hI0 (by decide) ?_ (Same.f18 hF1) (fun g' => ?_)
    · rw [e_X9_load, g_X9_load_0, e_X3_isComplete, g_X3_isComplete_0, e1, cali_r, cl16]
      cases hw2 : W.2 with
      | none =>
        have hne : ¬ W.1 = rLen R := fun z => by have := hle.2.2.mp z; rw [hw2] at this; cases this
        rw [if_neg (fun z => hne (nI_inj (sm31 (by omega)) (sm31 (by omega)) z)), cali_r, if_pos rfl]
      | some r =>
        obtain ⟨Qe, it', I'⟩ := r
        have heq : W.1 = rLen R := hle.2.2.mpr (by rw [hw2]; rfl)
        obtain ⟨q1, q2⟩ := hC1 Qe it' I' hw2
        rw [if_pos (by rw [heq]), x8_mayEnd f1 g q1 q2, cali_r, hb Qe it' I' hw2, ite_b2, if_neg (by decide), cali_r, if_pos rfl]
    · obtain ⟨f2, e2, hF2, hC2⟩ := ref_rightLength g' h1
      rw [← hW] at e2 hC2
      have ml : f2 19 0 28 = nI (rLen R) := by rw [hF2 _ _ _ (by omega) (by omega)]; exact h1.2.2.2.2.2.2.2.2.2.2.2.1
      refine ⟨ax_up f2 19 0 0 1, ?_, ax_up_s _ _ _ _ _, (Same.fx hF2).trans (Same.up0 f2 1)⟩
      rw [e_X10_load, g_X10_load_0, e2, cali_r, ml]
      cases hw2 : W.2 with
      | none =>
        have hne : ¬ W.1 = rLen R := fun z => by have := hle.2.2.mp z; rw [hw2] at this; cases this
        rw [if_neg (fun z => hne (nI_inj (sm31 (by omega)) (sm31 (by omega)) z)), t_1]
      | some r =>
        obtain ⟨Qe, it', I'⟩ := r
        have heq : W.1 = rLen R := hle.2.2.mpr (by rw [hw2]; rfl)
        obtain ⟨q1, q2, q3⟩ := hC2 Qe it' I' hw2
        rw [if_pos (by rw [heq]), x10_mayEnd f2 g' q1 q2, cali_r, hb Qe it' I' hw2, ite_b2, if_neg (by decide), t_1]
  cases hw2 : W.2 with
  | none => exact bad (fun Qe it' I' e => by rw [hw2] at e; cases e)
  | some r =>
    obtain ⟨Qe, it', I'⟩ := r
    cases hq : qEnd Qe with
    | false => exact bad (fun Qe' it'' I'' e => by rw [hw2] at e; cases e; exact hq)
    | true =>
      have heq : W.1 = rLen R := hle.2.2.mpr (by rw [hw2]; rfl)
      obtain ⟨q1, q2⟩ := hC1 Qe it' I' hw2
      have hp0 : qP Qe ≠ 0 := by
        unfold qEnd at hq
        rw [decide_eq_true_eq] at hq
        omega
      -- the class
      obtain ⟨c0, hF0⟩ := CQ_restart f1 (rSec R) (eNp E)
      obtain ⟨F0, hF0'⟩ : ∃ F0, F0 = (ax_up (ax_up (ax_up (ax_up (ax_up (ax_up f1 18 0 4 (nI (rSec R))) 18 0 5 (nI (eNp E))) 18 0 3 0) 18 0 0 0) 18 0 1 0) 18 0 2 0) := ⟨_, rfl⟩
      rw [← hF0'] at c0 hF0
      obtain ⟨-, -, -, hCh, hMh⟩ := W7.halves.mp h1
      obtain ⟨f3, e3, n3, o3, ch3, y3⟩ := cls_add g hE hS hR hR.1.2 hlen (fun i hi => (hR.2.2.2.2.2 i hi).2) (rLen R) 0 (by omega) (q0 (eNp E)) 0 (fun _ => ((0 : Int32), 0, (0 : Int32))) F0 Qe it' I' (QW_0 hE.1) c0 rfl ⟨hE.1, fun i hi => absurd hi (by omega)⟩ (hCh.f18 hF0) (by rw [hF0 _ _ _ (by decide)]; exact cl16) (fun i hi => by rw [hF0 _ _ _ (by decide)]; exact h1.2.2.2.2.2.1.2.2.2.2.2.2 i hi) (by rw [← hW]; exact hw2) hp0
      obtain ⟨N, hNe⟩ : ∃ N, N = it' + 1 := ⟨_, rfl⟩
      obtain ⟨I2, hI2⟩ : ∃ I2, I2 = up1 I' it' (qA Qe, qB Qe, qC Qe) := ⟨_, rfl⟩
      rw [← hNe, ← hI2] at o3 ch3
      have hN12 := o3.1
      have np3 : f3 1 0 3 = nI (eNp E + N) := by rw [ch3.1.1.1, addN_np]
      obtain ⟨F3, hF3⟩ : ∃ F3, F3 = ax_up f3 16 0 2 0 := ⟨_, rfl⟩
      have y4 : ∀ k i j, 19 ≤ k → F3 k i j = f1 k i j := fun k i j q => by rw [hF3, upn (by omega), y3 k i j q, hF0 k i j (by omega)]
      refine Or.inl ⟨nI N, F3, ?_, fun g' => ?_⟩
      · rw [e_X9_load, g_X9_load_0, e_X3_isComplete, g_X3_isComplete_0, e1, cali_r, cl16, if_pos (by rw [heq]), x8_mayEnd f1 g q1 q2, cali_r, hq, ite_b2, if_pos rfl, cali_r, if_neg one_ne, e_X3_addPacksTo, g_X3_addPacksTo_0, h1.2.2.2.2.2.1.1, h1.2.2.2.1.1.1, x8_restart, calv_r, ← hF0']
        show ax_calv (ax_run P_X3_addPacksTo 17 [_, _, some (.inl (.int (nI 0)))] _ _ _ _ _) _ _ = _
        rw [e3, calv_r, upn (by omega), np3, pk_sub (by omega), Nat.add_sub_cancel_left, hF3]
      · have hMh3 : Mh E S R F3 := hMh.of (fun k i j q => y4 k i j (by omega))
        -- the reference reads
        have h28 : F3 19 0 28 = nI (rLen R) := by rw [y4 _ _ _ (by omega)]; exact h1.2.2.2.2.2.2.2.2.2.2.2.1
        obtain ⟨f4, e4, hF4, hC4⟩ : ∃ f', s_X10_rightLength [.inr (19, 0)] F3 g' = rI (nI W.1) f' g' ∧ FX F3 f' ∧ ∀ Qe it' I', W.2 = some (Qe, it', I') → TQ (rSec R) (eNp E) it' Qe f' ∧ QW (rSec R) Qe ∧ Ids it' I' f' := by
          rw [e_X10_rightLength, g_X10_rightLength_0]
          have hFz : FX F3 (ax_up (ax_up F3 19 0 30 0) 19 0 33 0) := fun k i j s1 s2 => by rw [upn (by omega), upn (by omega)]
          obtain ⟨f', e', hF', hC'⟩ := ref_first g' (np := eNp E) hR.1 hlen (fun i hi => (hR.2.2.2.2.2 i hi).2) (rLen R) 0 (by omega) (q0 (eNp E)) 0 (fun _ => (0, 0, 0)) (ax_up (ax_up F3 19 0 30 0) 19 0 33 0) (QW_0 hE.1) ⟨ax_up_s _ _ _ _ _, rfl, by rw [upn (by omega), upn (by omega)]; exact hMh3.1.1.1, by rw [upn (by omega), upn (by omega)]; exact hMh3.2.1, by rw [upn (by omega)]; exact ax_up_s _ _ _ _ _, fun z => absurd rfl z⟩ (fun k hk => absurd hk (by omega)) (by rw [upn (by omega), upn (by omega)]; exact h28) (fun i hi => by rw [upn (by omega), upn (by omega)]; exact hMh3.2.2.2.2.2.2.2.1 i hi)
          rw [← hW] at e' hC'
          exact ⟨f', e', hFz.trans hF', hC'⟩
        obtain ⟨r1, r2, r3⟩ := hC4 Qe it' I' hw2
        have ml : f4 19 0 28 = nI (rLen R) := by rw [hF4 _ _ _ (by omega) (by omega)]; exact h28
        obtain ⟨s1, s2, s3, s4, s5, s6⟩ := r1
        obtain ⟨s7, s8, s9, s10⟩ := s6 hp0
        obtain ⟨F5, hF5⟩ : ∃ F5, F5 = ax_up (ax_up (ax_up (ax_up f4 19 0 0 0) 55 0 it' (nI (qB Qe))) 19 0 33 (nI (it' + 1))) 19 0 30 0 := ⟨_, rfl⟩
        have y5 : ∀ k i j, ¬ (k = 19 ∧ i = 0 ∧ (j = 0 ∨ j = 30 ∨ j = 33)) → ¬ (k = 55 ∧ i = 0 ∧ j = it') → F5 k i j = f4 k i j := fun k i j z1 z2 => by rw [hF5, upn (by omega), upn (by omega), upn (by omega), upn (by omega)]
        have hM5 : Mh E S R F5 := (hMh3.fx hF4).of (fun k i j z => y5 k i j (by omega) (by omega))
        have h33 : F5 19 0 33 = nI N := by rw [hF5, upn (by omega), ax_up_s, hNe]
        have hI5 : Ids N I2 F5 := fun k hk => by
          rw [hI2]
          by_cases e : k = it'
          · rw [e, up1_s, y5 54 _ _ (by omega) (by omega), y5 56 _ _ (by omega) (by omega)]
            refine ⟨s9, ?_, s10⟩
            rw [hF5, upn (by omega), upn (by omega)]
            exact ax_up_s _ _ _ _ _
          · rw [up1_n _ _ e, y5 54 _ _ (by omega) (by omega), y5 55 _ _ (by omega) (by omega), y5 56 _ _ (by omega) (by omega)]
            exact r3 k (by omega)
        obtain ⟨f6, e6, m6, t6, y6⟩ := ref_add g' hE hS hR o3 1 F5 hM5 h33 hI5
        obtain ⟨w1, w2, w3⟩ := WN hE hS hR o3
        refine ⟨ax_up f6 19 0 28 0, ?_, ?_, (addN E R I2 N).1, S, _, W7.buf (f := ax_up f6 16 0 2 (f3 16 0 2)) (R := (addN E R I2 N).2) 0 (fun _ => 0) ?_ ⟨by decide, fun i hi => absurd hi (by omega)⟩ (fun k i j z1 z2 z3 z4 => by rw [upn (by omega), upn (by omega)]) ?_ (fun i hi => absurd hi (by omega)) (ax_up_s _ _ _ _ _) (fun i hi => absurd hi (by omega)), by omega⟩
        · have e0 : (ax_up f4 19 0 0 0) 19 0 33 = nI it' := by rw [upn (by omega)]; exact s1
          have e31 : (ax_up f4 19 0 0 0) 19 0 31 = nI (qB Qe) := by rw [upn (by omega)]; exact s7
          have w3' := r2.2.2.1 hp0
          rw [e_X10_load, g_X10_load_0, e4, cali_r, ml, if_pos (by rw [heq]), x10_mayEnd f4 g' ⟨s1, s2, s3, s4, s5, s6⟩ r2, cali_r, hq, ite_b2, if_pos rfl, t_0, e_X10_endItem, g_X10_endItem_0, e0, bd_n (by omega) (by decide), e31, show (ax_up (ax_up f4 19 0 0 0) 55 0 it' (nI (qB Qe))) 19 0 33 = nI it' from by rw [upn (by omega)]; exact e0, nI_1, calv_r, ← hF5]
          exact e6
        · rw [upn (by omega), t6, hF5, upn (by omega), upn (by omega), upn (by omega)]; exact ax_up_s _ _ _ _ _
        · have y7 : ∀ k i j, k < 19 → f6 k i j = F3 k i j := fun k i j q => by rw [y6 k i j q, y5 k i j (by omega) (by omega), hF4 k i j (by omega) (by omega)]
          refine W7.halves.mpr ⟨w1, w2, w3, ch3.of (fun k i j q => ?_), m6.of (fun k i j q => upn (by omega))⟩
          by_cases z : k = 16 ∧ i = 0 ∧ j = 2
          · obtain ⟨rfl, rfl, rfl⟩ := z
            exact ax_up_s _ _ _ _ _
          · rw [upn z, y7 k i j (by omega), hF3, upn z]
        · rw [upn (by omega), y6 _ _ _ (by omega), y5 _ _ _ (by omega) (by omega), hF4 _ _ _ (by omega) (by omega), hF3]
          exact ax_up_s _ _ _ _ _
end AYU
