/-! the whole text -/
section AYS
abbrev It : Type := Int32 × Nat × Int32
/-- from character k on: where it stops, and if it doesn't, what is read and the packages so far -/
def fwk (ns : Nat) (buf : Nat → Nat) : Nat → Nat → Qs → Nat → (Nat → It) → Nat × Option (Qs × Nat × (Nat → It))
  | 0, k, Q, it, I => (k, some (Q, it, I))
  | d + 1, k, Q, it, I => match pst ns Q (buf k) with
    | none => (k, none)
    | some Q' => if buf k = 59 then fwk ns buf d (k + 1) Q' (it + 1) (up1 I it (qA Q, qB Q, qC Q)) else fwk ns buf d (k + 1) Q' it I
theorem fwk_n {ns buf d k Q it I} (h : pst ns Q (buf k) = none) : fwk ns buf (d + 1) k Q it I = (k, none) := by
  show (match pst ns Q (buf k) with | none => _ | some Q' => _) = _
  rw [h]
theorem fwk_s {ns buf d k Q it I Q'} (h : pst ns Q (buf k) = some Q') : fwk ns buf (d + 1) k Q it I = if buf k = 59 then fwk ns buf d (k + 1) Q' (it + 1) (up1 I it (qA Q, qB Q, qC Q)) else fwk ns buf d (k + 1) Q' it I := by
  show (match pst ns Q (buf k) with | none => _ | some Q' => _) = _
  rw [h]
theorem fwk_le (ns buf) : ∀ d k Q it I, k ≤ (fwk ns buf d k Q it I).1 ∧ (fwk ns buf d k Q it I).1 ≤ k + d ∧ ((fwk ns buf d k Q it I).1 = k + d ↔ (fwk ns buf d k Q it I).2.isSome = true) := by
  intro d
  induction d with
  | zero => intro k Q it I; exact ⟨Nat.le_refl _, Nat.le_refl _, fun _ => rfl, fun _ => rfl⟩
  | succ d ih =>
    intro k Q it I
    cases h : pst ns Q (buf k) with
    | none =>
      rw [fwk_n h]
      refine ⟨Nat.le_refl _, by omega, fun z => ?_, fun z => absurd z (show ¬ false = true by decide)⟩
      have : k = k + (d + 1) := z
      omega
    | some Q' =>
      rw [fwk_s h]
      split
      · have := ih (k + 1) Q' (it + 1) (up1 I it (qA Q, qB Q, qC Q))
        rw [show k + (d + 1) = k + 1 + d from by omega]
        exact ⟨by omega, this.2⟩
      · have := ih (k + 1) Q' it I
        rw [show k + (d + 1) = k + 1 + d from by omega]
        exact ⟨by omega, this.2⟩
/-- the class -/
theorem cls_first (g) {ns : Nat} {buf : Nat → Nat} {len : Nat} (hns : ns ≤ 5) (hlen : len ≤ 60) (hbuf : ∀ i, i < len → buf i ≤ 126) : ∀ d k, k + d = len → ∀ Q it I f, QW ns Q → CQ ns Q f → f 16 0 2 = nI len → (∀ i, i < len → f 17 0 i = nI (buf i)) → ∃ f', ax_run P_X3_firstWrong 17 [some (.inr (16, 0)), some (.inr (1, 0)), some (.inl (.int (nI k)))] [] f g 0 0 = rI (nI (fwk ns buf d k Q it I).1) f' g ∧ F18 f f' ∧ ∀ Qe it' I', (fwk ns buf d k Q it I).2 = some (Qe, it', I') → CQ ns Qe f' ∧ QW ns Qe := by
  intro d
  induction d with
  | zero =>
    intro k hk Q it I f hQ hC h16 h17
    refine ⟨f, ?_, fun _ _ _ _ => rfl, fun Qe it' I' e => ?_⟩
    · rw [g_X3_firstWrong_17, h16, if_pos (nI_le (by omega) (sm31 (by omega))), show len = k from by omega]
      rfl
    · cases e; exact ⟨hC, hQ⟩
  | succ d ih =>
    intro k hk Q it I f hQ hC h16 h17
    obtain ⟨f1, e1, hF, hC1⟩ := x8_reads f g (v := buf k) (by have := hbuf k (by omega); omega) hns hC hQ
    rw [g_X3_firstWrong_17, h16, if_neg (nI_ge (by omega) (sm31 (by omega))), bd_n (by omega) (by decide), h17 k (by omega), e1, cali_r, ite_b2, nI_1]
    cases h : pst ns Q (buf k) with
    | none =>
      rw [fwk_n h, if_neg (by decide)]
      exact ⟨f1, rfl, hF, fun Qe it' I' e => by cases e⟩
    | some Q' =>
      rw [if_pos (show (some Q').isSome = true from rfl), fwk_s h]
      have h16' : f1 16 0 2 = nI len := by rw [hF _ _ _ (by decide)]; exact h16
      have h17' : ∀ i, i < len → f1 17 0 i = nI (buf i) := fun i hi => by rw [hF _ _ _ (by decide)]; exact h17 i hi
      split
      · obtain ⟨f2, e2, hF2, hC2⟩ := ih (k + 1) (by omega) Q' (it + 1) (up1 I it (qA Q, qB Q, qC Q)) f1 (QW_s hQ h) (hC1 Q' h) h16' h17'
        exact ⟨f2, e2, hF.trans hF2, hC2⟩
      · obtain ⟨f2, e2, hF2, hC2⟩ := ih (k + 1) (by omega) Q' it I f1 (QW_s hQ h) (hC1 Q' h) h16' h17'
        exact ⟨f2, e2, hF.trans hF2, hC2⟩
/-- what the reference's reading may change -/
def FX (f f' : ax_F) : Prop := ∀ k i j, ¬ (k = 19 ∧ i = 0 ∧ 30 ≤ j ∧ j ≤ 33) → ¬ (54 ≤ k ∧ k ≤ 56) → f' k i j = f k i j
theorem FT.fx {it f f'} (h : FT it f f') : FX f f' := fun k i j q1 q2 => h k i j q1 (by omega)
theorem FX.trans {f f1 f2} (h : FX f f1) (h2 : FX f1 f2) : FX f f2 := fun k i j q1 q2 => (h2 k i j q1 q2).trans (h k i j q1 q2)
def Ids (it : Nat) (I : Nat → It) (f : ax_F) : Prop := ∀ k, k < it → f 54 0 k = (I k).1 ∧ f 55 0 k = nI (I k).2.1 ∧ f 56 0 k = (I k).2.2
theorem no59 {ns Q} (h5 : ns ≤ 5) (h : qEnd Q = false) : pst ns Q 59 = none := by
  unfold pst
  rw [if_neg (fun z => by rw [h] at z; cases z.2)]
  by_cases p0 : qP Q = 0
  · rw [if_pos p0, if_neg (by omega)]
  rw [if_neg p0]
  by_cases p1 : qP Q = 1
  · rw [if_pos p1, if_neg (by decide)]
  rw [if_neg p1]
  by_cases p2 : qP Q = 2
  · rw [if_pos p2, if_neg (by decide)]
  rw [if_neg p2]
  by_cases p3 : qP Q = 3
  · rw [if_pos p3, if_neg (by decide), if_neg (by decide)]
  rw [if_neg p3]
  by_cases p4 : qP Q = 4
  · rw [if_pos p4, if_neg (by decide)]
  rw [if_neg p4, if_neg (by omega)]
theorem ref_first (g) {ns np : Nat} {buf : Nat → Nat} {len : Nat} (hns : 1 ≤ ns ∧ ns ≤ 5) (hlen : len ≤ 60) (hbuf : ∀ i, i < len → buf i ≤ 126) : ∀ d k, k + d = len → ∀ Q it I f, QW ns Q → TQ ns np it Q f → Ids it I f → f 19 0 28 = nI len → (∀ i, i < len → f 49 0 i = nI (buf i)) → ∃ f', ax_run P_X10_rightLength 12 [some (.inr (19, 0)), some (.inl (.int (nI k)))] [] f g 0 0 = rI (nI (fwk ns buf d k Q it I).1) f' g ∧ FX f f' ∧ ∀ Qe it' I', (fwk ns buf d k Q it I).2 = some (Qe, it', I') → TQ ns np it' Qe f' ∧ QW ns Qe ∧ Ids it' I' f' := by
  intro d
  induction d with
  | zero =>
    intro k hk Q it I f hQ hC hI h16 h17
    refine ⟨f, ?_, fun _ _ _ _ _ => rfl, fun Qe it' I' e => ?_⟩
    · rw [g_X10_rightLength_12, h16, if_pos (nI_le (by omega) (sm31 (by omega)))]
      rfl
    · cases e; exact ⟨hC, hQ, hI⟩
  | succ d ih =>
    intro k hk Q it I f hQ hC hI h16 h17
    obtain ⟨f1, e1, hF, hC1⟩ := x10_takes f g (v := buf k) (by have := hbuf k (by omega); omega) hns hC hQ
    rw [g_X10_rightLength_12, h16, if_neg (nI_ge (by omega) (sm31 (by omega))), bd_n (by omega) (by decide), h17 k (by omega), e1, cali_r, ite_b2, nI_1]
    cases h : pst ns Q (buf k) with
    | none =>
      rw [fwk_n h, if_neg (by decide)]
      exact ⟨f1, rfl, hF.fx, fun Qe it' I' e => by cases e⟩
    | some Q' =>
      rw [if_pos (show (some Q').isSome = true from rfl), fwk_s h]
      have h16' : f1 19 0 28 = nI len := by rw [hF.fx _ _ _ (by omega) (by omega)]; exact h16
      have h17' : ∀ i, i < len → f1 49 0 i = nI (buf i) := fun i hi => by rw [hF.fx _ _ _ (by omega) (by omega)]; exact h17 i hi
      have hI1 : Ids it I f1 := fun k' hk' => by
        rw [hF 54 _ _ (by omega) (by omega), hF 55 _ _ (by omega) (by omega), hF 56 _ _ (by omega) (by omega)]
        exact hI k' hk'
      have hC2 := hC1 Q' h
      by_cases c : buf k = 59
      · have ce : qEnd Q = true := by
          cases q : qEnd Q with
          | true => rfl
          | false => rw [c, no59 hns.2 q] at h; cases h
        rw [if_pos ⟨c, ce⟩] at hC2
        rw [if_pos c]
        obtain ⟨t1, t2, t3, t4⟩ := hC2
        obtain ⟨f2, e2, hF2, hC3⟩ := ih (k + 1) (by omega) Q' (it + 1) (up1 I it (qA Q, qB Q, qC Q)) f1 (QW_s hQ h) t1 (fun k' hk' => by
          by_cases e : k' = it
          · rw [e, up1_s]; exact ⟨t2, t3, t4⟩
          · rw [up1_n _ _ e]; exact hI1 k' (by omega)) h16' h17'
        exact ⟨f2, e2, hF.fx.trans hF2, hC3⟩
      · rw [if_neg (fun z => c z.1)] at hC2
        rw [if_neg c]
        obtain ⟨f2, e2, hF2, hC3⟩ := ih (k + 1) (by omega) Q' it I f1 (QW_s hQ h) hC2 hI1 h16' h17'
        exact ⟨f2, e2, hF.fx.trans hF2, hC3⟩
theorem Same.f18 {f f'} (h : F18 f f') : Same f f' := fun k i j q => h k i j (fun e => q (by unfold Scr; omega))
theorem Same.fx {f f'} (h : FX f f') : Same f f' := fun k i j q => h k i j (by unfold Scr at q; omega) (by unfold Scr at q; omega)
theorem x8_restart (f g) (a b : Int32) : s_X8_restart [.inr (18, 0), .inl (.int a), .inl (.int b)] f g = rV (ax_up (ax_up (ax_up (ax_up (ax_up (ax_up f 18 0 4 a) 18 0 5 b) 18 0 3 0) 18 0 0 0) 18 0 1 0) 18 0 2 0) g := by
  rw [e_X8_restart, g_X8_restart_0, x8_start, calv_r]
def q0 (np : Nat) : Qs := (0, np, 0, 0, 0, 0)
theorem CQ_restart (f : ax_F) (ns np : Nat) : CQ ns (q0 np) (ax_up (ax_up (ax_up (ax_up (ax_up (ax_up f 18 0 4 (nI ns)) 18 0 5 (nI np)) 18 0 3 0) 18 0 0 0) 18 0 1 0) 18 0 2 0) ∧ F18 f (ax_up (ax_up (ax_up (ax_up (ax_up (ax_up f 18 0 4 (nI ns)) 18 0 5 (nI np)) 18 0 3 0) 18 0 0 0) 18 0 1 0) 18 0 2 0) := by
  refine ⟨⟨?_, ?_, ?_, ?_, ?_, ?_⟩, fun k i j h => ?_⟩
  · rw [upn (by omega), upn (by omega), upn (by omega)]; exact ax_up_s _ _ _ _ _
  · rw [upn (by omega), upn (by omega), upn (by omega), upn (by omega)]; exact ax_up_s _ _ _ _ _
  · rw [upn (by omega), upn (by omega)]; exact ax_up_s _ _ _ _ _
  · rw [upn (by omega)]; exact ax_up_s _ _ _ _ _
  · exact ax_up_s _ _ _ _ _
  · rw [upn (by omega), upn (by omega), upn (by omega), upn (by omega), upn (by omega)]; exact ax_up_s _ _ _ _ _
  · rw [upn (by omega), upn (by omega), upn (by omega), upn (by omega), upn (by omega), upn (by omega)]
/-- firstWrong, rightLength -/
theorem cls_firstWrong (g) {E S R f} (h : W7 E S R f) : ∃ f', s_X3_firstWrong [.inr (16, 0), .inr (1, 0)] f g = rI (nI (fwk (rSec R) (rBuf R) (rLen R) 0 (q0 (eNp E)) 0 (fun _ => (0, 0, 0))).1) f' g ∧ F18 f f' ∧ ∀ Qe it' I', (fwk (rSec R) (rBuf R) (rLen R) 0 (q0 (eNp E)) 0 (fun _ => (0, 0, 0))).2 = some (Qe, it', I') → CQ (rSec R) Qe f' ∧ QW (rSec R) Qe := by
  obtain ⟨hE, hS, hR, hX, hM, hC, hN⟩ := h
  obtain ⟨c0, hF0⟩ := CQ_restart f (rSec R) (eNp E)
  rw [e_X3_firstWrong, g_X3_firstWrong_0, hC.1, hX.1.1, x8_restart, calv_r]
  obtain ⟨f', e', hF', hC'⟩ := cls_first g hR.1.2 hR.2.2.2.2.1 (fun i hi => (hR.2.2.2.2.2 i hi).2) (rLen R) 0 (by omega) (q0 (eNp E)) 0 (fun _ => (0, 0, 0)) _ (QW_0 hE.1) c0 (by rw [hF0 _ _ _ (by decide)]; exact hC.2.2.2.2.2.1) (fun i hi => by rw [hF0 _ _ _ (by decide)]; exact hC.2.2.2.2.2.2 i hi)
  exact ⟨f', e', hF0.trans hF', hC'⟩
theorem ref_rightLength (g) {E S R f} (h : W7 E S R f) : ∃ f', s_X10_rightLength [.inr (19, 0)] f g = rI (nI (fwk (rSec R) (rBuf R) (rLen R) 0 (q0 (eNp E)) 0 (fun _ => (0, 0, 0))).1) f' g ∧ FX f f' ∧ ∀ Qe it' I', (fwk (rSec R) (rBuf R) (rLen R) 0 (q0 (eNp E)) 0 (fun _ => (0, 0, 0))).2 = some (Qe, it', I') → TQ (rSec R) (eNp E) it' Qe f' ∧ QW (rSec R) Qe ∧ Ids it' I' f' := by
  obtain ⟨hE, hS, hR, hX, hM, hC, hN⟩ := h
  rw [e_X10_rightLength, g_X10_rightLength_0]
  have hF0 : FX f (ax_up (ax_up f 19 0 30 0) 19 0 33 0) := fun k i j q1 q2 => by rw [upn (by omega), upn (by omega)]
  obtain ⟨f', e', hF', hC'⟩ := ref_first g (np := eNp E) hR.1 hR.2.2.2.2.1 (fun i hi => (hR.2.2.2.2.2 i hi).2) (rLen R) 0 (by omega) (q0 (eNp E)) 0 (fun _ => (0, 0, 0)) (ax_up (ax_up f 19 0 30 0) 19 0 33 0) (QW_0 hE.1) ⟨ax_up_s _ _ _ _ _, rfl, by rw [upn (by omega), upn (by omega)]; exact hM.1.1, by rw [upn (by omega), upn (by omega)]; exact hN.1, by rw [upn (by omega)]; exact ax_up_s _ _ _ _ _, fun z => absurd rfl z⟩ (fun k hk => absurd hk (by omega)) (by rw [upn (by omega), upn (by omega)]; exact hN.2.2.2.2.2.1) (fun i hi => by rw [upn (by omega), upn (by omega)]; exact hN.2.2.2.2.2.2.1 i hi)
  exact ⟨f', e', hF0.trans hF', hC'⟩
theorem p_firstError {n f} (g) (hI : Inv n f) : PQ n [] (s_X9_firstError [.inr (0, 0)]) (s_X10_firstError [.inr (19, 0)]) f g := by
  have hI0 := hI
  obtain ⟨E, S, R, h, ht⟩ := hI
  obtain ⟨f1, e1, hF1, -⟩ := cls_firstWrong g h
  refine PQ.q (nI (fwk (rSec R) (rBuf R) (rLen R) 0 (q0 (eNp E)) 0 (fun _ => (0, 0, 0))).1) hI0 (f1 := f1) ?_ (Same.f18 hF1) (fun g' => ?_)
  · rw [e_X9_firstError, g_X9_firstError_0, e1, cali_r]
  · obtain ⟨f2, e2, hF2, -⟩ := ref_rightLength g' ((h.same (Same.f18 hF1)).up0 0)
    refine ⟨f2, ?_, ?_, (Same.up0 f1 0).trans (Same.fx hF2)⟩
    · rw [e_X10_firstError, g_X10_firstError_0, e2, cali_r]
    · rw [hF2 _ _ _ (by omega) (by omega)]; exact ax_up_s _ _ _ _ _
end AYS
