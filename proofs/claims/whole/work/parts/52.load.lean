/-! load -/
section AYT
def adI (x : It) (p : Ev × Rt) : Ev × Rt := (addE p.1 x.1 (nI x.2.1), addR p.1 p.2 x.2.2)
def addN (E : Ev) (R : Rt) (I : Nat → It) (k : Nat) : Ev × Rt := ax_it k (fun i p => adI (I i) p) (E, R)
theorem addN_s (E R I k) : addN E R I (k + 1) = adI (I k) (addN E R I k) := rfl
theorem addN_congr {E R I I'} {k : Nat} (h : ∀ i, i < k → I i = I' i) : addN E R I k = addN E R I' k := ax_it_congr k _ (fun i x hi => by rw [h i hi])
theorem addN_np (E R I k) : eNp (addN E R I k).1 = eNp E + k := by
  induction k with
  | zero => rfl
  | succ k ih =>
    rw [addN_s]
    show eNp (addN E R I k).1 + 1 = _
    rw [ih]
    omega
/-- packages that may be added -/
def OkI (np : Nat) (I : Nat → It) (k : Nat) : Prop := np + k ≤ 12 ∧ ∀ i, i < k → ∀ j, np + i ≤ j → j < 32 → bt (I i).2.2 j = false
theorem WN {E S R I} {k : Nat} (hE : EW E) (hS : SW E S) (hR : RW E S R) (h : OkI (eNp E) I k) : EW (addN E R I k).1 ∧ SW (addN E R I k).1 S ∧ RW (addN E R I k).1 S (addN E R I k).2 := by
  induction k with
  | zero => exact ⟨hE, hS, hR⟩
  | succ k ih =>
    obtain ⟨a1, a2, a3⟩ := ih ⟨by have := h.1; omega, fun i hi => h.2 i (by omega)⟩
    have hn := addN_np E R I k
    have := h.1
    rw [addN_s]
    exact ⟨EW_add _ _ a1 (by omega), SW_add _ _ a2, RW_add _ _ a3 (fun i h1 h2 => h.2 k (by omega) i (by omega) h2)⟩
theorem Ch.f18 {E S R f f'} (h : Ch E S R f) (z : F18 f f') : Ch E S R f' := h.of (fun k i j q => z k i j (by omega))
/-- the class adds them while it reads -/
theorem cls_add (g) {E S R : _} {ns : Nat} {buf : Nat → Nat} {len : Nat} (hE : EW E) (hS : SW E S) (hR : RW E S R) (hns : ns ≤ 5) (hlen : len ≤ 60) (hbuf : ∀ i, i < len → buf i ≤ 126) : ∀ d k, k + d = len → ∀ Q it I f Qe it' I', QW ns Q → CQ ns Q f → qN Q = eNp E + it → OkI (eNp E) I it → Ch (addN E R I it).1 S (addN E R I it).2 f → f 16 0 2 = nI len → (∀ i, i < len → f 17 0 i = nI (buf i)) → (fwk ns buf d k Q it I).2 = some (Qe, it', I') → qP Qe ≠ 0 → ∃ f', ax_run P_X3_addPacksTo 17 [some (.inr (16, 0)), some (.inr (1, 0)), some (.inl (.int (nI k)))] [] f g 0 0 = rV f' g ∧ qN Qe = eNp E + it' ∧ OkI (eNp E) (up1 I' it' (qA Qe, qB Qe, qC Qe)) (it' + 1) ∧ Ch (addN E R (up1 I' it' (qA Qe, qB Qe, qC Qe)) (it' + 1)).1 S (addN E R (up1 I' it' (qA Qe, qB Qe, qC Qe)) (it' + 1)).2 f' ∧ ∀ k i j, 19 ≤ k → f' k i j = f k i j := by
  -- one more
  have one : ∀ Q it I f, QW ns Q → CQ ns Q f → qP Q ≠ 0 → qN Q = eNp E + it → OkI (eNp E) I it → Ch (addN E R I it).1 S (addN E R I it).2 f → ∃ f1, s_X0_addPack [.inr (1, 0), .inl (.int (f 18 0 0)), .inl (.int (f 18 0 1)), .inl (.int (f 18 0 2))] f g = rI (nI (eNp E + it)) f1 g ∧ OkI (eNp E) (up1 I it (qA Q, qB Q, qC Q)) (it + 1) ∧ Ch (addN E R (up1 I it (qA Q, qB Q, qC Q)) (it + 1)).1 S (addN E R (up1 I it (qA Q, qB Q, qC Q)) (it + 1)).2 f1 ∧ (∀ k i j, k ≠ 1 → k ≠ 3 → f1 k i j = f k i j) := by
    intro Q it I f hQ hC hp hn hO hCh
    have hlt := hQ.2.2.1 hp
    have w11 := hQ.2.2.2.2.2.2.2.2.2.2.1
    have w10 := hQ.2.2.2.2.2.2.2.2.2.1
    obtain ⟨a1, a2, a3⟩ := WN hE hS hR hO
    have np' := addN_np E R I it
    have hO' : OkI (eNp E) (up1 I it (qA Q, qB Q, qC Q)) (it + 1) := by
      refine ⟨by omega, fun i hi j h1 h2 => ?_⟩
      by_cases e : i = it
      · rw [e, up1_s]; exact w11 j h2 (by omega)
      · rw [up1_n _ _ e]; exact hO.2 i (by omega) j h1 h2
    have eadd : addN E R (up1 I it (qA Q, qB Q, qC Q)) (it + 1) = adI (qA Q, qB Q, qC Q) (addN E R I it) := by
      rw [addN_s, up1_s, addN_congr (I' := I) (fun i hi => up1_n _ _ (by omega))]
    have h13 : f 1 0 3 = nI (eNp E + it) := by rw [hCh.1.1.1, np']
    refine ⟨xpk f (eNp E + it) (qA Q) (nI (qB Q)) (qC Q), ?_, hO', ?_, ?_⟩
    · rw [hC.2.2.1, hC.2.2.2.1, hC.2.2.2.2.1, x0_addPack f g _ _ _ h13 (by omega)]
    · rw [eadd]
      have := Ch_add (qA Q) (nI (qB Q)) (qC Q) hCh a1
      rw [np'] at this
      exact this
    · intro k i j h1 h2
      exact xpk_o _ _ _ _ _ _ _ _ (by omega) (by omega)
  intro d
  induction d with
  | zero =>
    intro k hk Q it I f Qe it' I' hQ hC hn hO hCh h16 h17 he hp
    cases he
    obtain ⟨f1, e1, o1, c1, y1⟩ := one Q it I f hQ hC hp hn hO hCh
    refine ⟨f1, ?_, hn, o1, c1, fun k i j q => y1 k i j (by omega) (by omega)⟩
    rw [g_X3_addPacksTo_17, h16, if_pos (nI_le (by omega) (sm31 (by omega))), e1, cali_r]
  | succ d ih =>
    intro k hk Q it I f Qe it' I' hQ hC hn hO hCh h16 h17 he hp
    cases h : pst ns Q (buf k) with
    | none => rw [fwk_n h] at he; cases he
    | some Q' =>
      rw [fwk_s h] at he
      have hb := hbuf k (by omega)
      rw [g_X3_addPacksTo_17, h16, if_neg (nI_ge (by omega) (sm31 (by omega))), bd_n (by omega) (by decide), h17 k (by omega), bd_n (by omega) (by decide), h17 k (by omega)]
      by_cases c : buf k = 59
      · rw [if_pos c] at he
        have ce : qEnd Q = true := by
          cases q : qEnd Q with
          | true => rfl
          | false => rw [c, no59 hns q] at h; cases h
        have hp0 : qP Q ≠ 0 := by
          unfold qEnd at ce
          rw [decide_eq_true_eq] at ce
          omega
        obtain ⟨f1, e1, o1, c1, y1⟩ := one Q it I f hQ hC hp0 hn hO hCh
        have hC1 : CQ ns Q f1 := by
          obtain ⟨z1, z2, z3, z4, z5, z6⟩ := hC
          exact ⟨by rw [y1 _ _ _ (by decide) (by decide)]; exact z1, by rw [y1 _ _ _ (by decide) (by decide)]; exact z2, by rw [y1 _ _ _ (by decide) (by decide)]; exact z3, by rw [y1 _ _ _ (by decide) (by decide)]; exact z4, by rw [y1 _ _ _ (by decide) (by decide)]; exact z5, by rw [y1 _ _ _ (by decide) (by decide)]; exact z6⟩
        obtain ⟨f2, e2, hF2, hC2⟩ := x8_reads f1 g (v := buf k) (by omega) hns hC1 hQ
        have hQ' : qN Q' = eNp E + (it + 1) := by
          unfold pst at h
          rw [if_pos ⟨c, ce⟩] at h
          cases h
          show qN Q + 1 = _
          omega
        rw [if_pos (show nI (buf k) = (59 : Int32) by rw [c]; rfl), e1, cali_r, bd_n (by omega) (by decide), y1 17 0 k (by decide) (by decide), h17 k (by omega), e2, cali_r, nI_1]
        obtain ⟨f3, e3, n3, o3, c3, y3⟩ := ih (k + 1) (by omega) Q' (it + 1) (up1 I it (qA Q, qB Q, qC Q)) f2 Qe it' I' (QW_s hQ h) (hC2 Q' h) hQ' o1 (c1.f18 hF2) (by rw [hF2 _ _ _ (by decide), y1 _ _ _ (by decide) (by decide)]; exact h16) (fun i hi => by rw [hF2 _ _ _ (by decide), y1 _ _ _ (by decide) (by decide)]; exact h17 i hi) he hp
        exact ⟨f3, e3, n3, o3, c3, fun k i j q => by rw [y3 k i j q, hF2 k i j (by omega), y1 k i j (by omega) (by omega)]⟩
      · rw [if_neg c] at he
        obtain ⟨f2, e2, hF2, hC2⟩ := x8_reads f g (v := buf k) (by omega) hns hC hQ
        have hQ' : qN Q' = eNp E + it := by
          unfold pst at h
          rw [if_neg (fun z => c z.1)] at h
          rw [← hn]
          repeat' split at h
          all_goals first | (cases h; rfl) | cases h
        rw [if_neg (nI_neL 59 c (by omega) (by decide)), e2, cali_r, nI_1]
        obtain ⟨f3, e3, n3, o3, c3, y3⟩ := ih (k + 1) (by omega) Q' it I f2 Qe it' I' (QW_s hQ h) (hC2 Q' h) hQ' hO (hCh.f18 hF2) (by rw [hF2 _ _ _ (by decide)]; exact h16) (fun i hi => by rw [hF2 _ _ _ (by decide)]; exact h17 i hi) he hp
        exact ⟨f3, e3, n3, o3, c3, fun k i j q => by rw [y3 k i j q, hF2 k i j (by omega)]⟩
end AYT
