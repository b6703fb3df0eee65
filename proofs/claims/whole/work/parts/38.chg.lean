/-! changes -/
section AYF
theorem NA.of' {E f f'} (h : NA E f) (z : ∀ k i j, (k = 1 ∧ i = 0 ∧ (j = 3 ∨ j = 4)) ∨ (k = 3 ∧ j < 2) ∨ k = 6 → f' k i j = f k i j) : NA E f' := by
  obtain ⟨h1, h2, h3, h4⟩ := h
  refine ⟨by rw [z _ _ _ (by omega)]; exact h1, by rw [z _ _ _ (by omega)]; exact h2, fun p hp => by rw [z _ _ _ (by omega), z _ _ _ (by omega)]; exact h3 p hp, fun j p hj hp => ?_⟩
  rw [← h4 j p hj hp]; unfold tv; rw [z _ _ _ (by omega)]
theorem NT.of' {E f f'} (h : NT 0 E f) (z : ∀ k i j, (k = 7 ∧ i = 0 ∧ j = 2) ∨ (k = 9 ∧ 1 ≤ j ∧ j ≤ 6) → f' k i j = f k i j) : NT 0 E f' := by
  obtain ⟨h1, h2⟩ := h
  refine ⟨by rw [z _ _ _ (by omega)]; exact h1, fun m hm => ?_⟩
  rw [z 9 _ 1 (by omega), z 9 _ 2 (by omega), z 9 _ 3 (by omega), z 9 _ 4 (by omega), z 9 _ 5 (by omega), z 9 _ 6 (by omega)]; exact h2 m hm
theorem ND.of' {E S f f'} (h : ND 0 E S f) (z : ∀ k i j, (k = 7 ∧ i = 0 ∧ (j = 3 ∨ j = 4)) ∨ (k = 9 ∧ (j = 7 ∨ j = 8)) ∨ k = 10 → f' k i j = f k i j) : ND 0 E S f' := by
  obtain ⟨h1, h2, h3⟩ := h
  refine ⟨by rw [z _ _ _ (by omega)]; exact h1, by rw [z _ _ _ (by omega)]; exact h2, fun m hm => ?_⟩
  rw [z 9 _ 7 (by omega), z 9 _ 8 (by omega)]
  exact ⟨(h3 m hm).1, (h3 m hm).2.1, fun p hp => by rw [z 10 _ _ (by omega)]; exact (h3 m hm).2.2 p hp⟩
theorem MA.of' {E f f'} (h : MA E f) (z : ∀ k i j, (k = 19 ∧ i = 0 ∧ (j = 2 ∨ j = 3)) ∨ k = 29 ∨ k = 30 ∨ k = 35 → f' k i j = f k i j) : MA E f' := by
  obtain ⟨h1, h2, h3, h4, h5⟩ := h
  exact ⟨by rw [z _ _ _ (by omega)]; exact h1, by rw [z _ _ _ (by omega)]; exact h2, fun p hp => by rw [z _ _ _ (by omega), z _ _ _ (by omega)]; exact h3 p hp, fun j p hj hp => by rw [z _ _ _ (by omega)]; exact h4 j p hj hp, h5⟩
theorem MT.of' {E f f'} (h : MT E f) (z : ∀ k i j, (k = 19 ∧ i = 0 ∧ j = 4) ∨ (36 ≤ k ∧ k ≤ 41) → f' k i j = f k i j) : MT E f' := by
  obtain ⟨h1, h2⟩ := h
  refine ⟨by rw [z _ _ _ (by omega)]; exact h1, fun m hm => ?_⟩
  rw [z 36 _ _ (by omega), z 37 _ _ (by omega), z 38 _ _ (by omega), z 39 _ _ (by omega), z 40 _ _ (by omega), z 41 _ _ (by omega)]
  exact h2 m hm
theorem MD.of' {E S f f'} (h : MD E S f) (z : ∀ k i j, (k = 19 ∧ i = 0 ∧ (j = 6 ∨ j = 8)) ∨ (42 ≤ k ∧ k ≤ 44) → f' k i j = f k i j) : MD E S f' := by
  obtain ⟨h1, h2, h3⟩ := h
  refine ⟨by rw [z _ _ _ (by omega)]; exact h1, by rw [z _ _ _ (by omega)]; exact h2, fun m hm => ?_⟩
  rw [z 42 _ _ (by omega), z 43 _ _ (by omega)]
  exact ⟨(h3 m hm).1, (h3 m hm).2.1, fun p hp => by rw [z 44 _ _ (by omega)]; exact (h3 m hm).2.2 p hp⟩
theorem CRp.of {E R f f'} (h : CRp E R f) (z : ∀ k i j, k = 3 ∧ (j = 2 ∨ j = 3 ∨ j = 4) → f' k i j = f k i j) : CRp E R f' := fun p hp => by
  rw [z 3 p 2 (by omega), z 3 p 3 (by omega), z 3 p 4 (by omega), xcl_congr (f := f) _ (fun i hi => z 3 i 3 (by omega))]
  exact h p hp
theorem CRj.of {E R f f'} (h : CRj E R f) (z : ∀ k i j, k = 5 → f' k i j = f k i j) : CRj E R f' := fun j h1 h2 => by
  rw [z 5 _ 1 rfl, z 5 _ 2 rfl, z 5 _ 3 rfl]
  exact h j h1 h2
theorem CRc.of {R f f'} (h : CRc R f) (z : ∀ k i j, (k = 0 ∧ i = 0 ∧ j = 6) ∨ k = 12 ∨ k = 13 → f' k i j = f k i j) : CRc R f' := by
  refine ⟨by rw [z _ _ _ (by omega)]; exact h.1, fun c hc => ?_⟩
  rw [z 12 _ _ (by omega), z 12 _ _ (by omega)]
  exact ⟨(h.2 c hc).1, (h.2 c hc).2.1, fun p hp => by rw [z 13 _ _ (by omega)]; exact (h.2 c hc).2.2 p hp⟩
theorem CRb.of {R f f'} (h : CRb R f) (z : ∀ k i j, (k = 16 ∧ i = 0 ∧ j = 2) ∨ k = 17 → f' k i j = f k i j) : CRb R f' := ⟨by rw [z _ _ _ (by omega)]; exact h.1, fun i hi => by rw [z _ _ _ (by omega)]; exact h.2 i hi⟩
theorem MRp.of {E R f f'} (h : MRp E R f) (z : ∀ k i j, k = 31 ∨ k = 32 → f' k i j = f k i j) : MRp E R f' := fun p hp => by rw [z 31 _ _ (by omega), z 32 _ _ (by omega)]; exact h p hp
theorem MRj.of {E R f f'} (h : MRj E R f) (z : ∀ k i j, k = 33 ∨ k = 34 → f' k i j = f k i j) : MRj E R f' := fun j h1 h2 => by rw [z 33 _ _ (by omega), z 34 _ _ (by omega)]; exact h j h1 h2
theorem MRc.of {E R f f'} (h : MRc E R f) (z : ∀ k i j, (k = 19 ∧ i = 0 ∧ j = 5) ∨ k = 45 ∨ k = 46 ∨ k = 47 → f' k i j = f k i j) : MRc E R f' := by
  refine ⟨by rw [z _ _ _ (by omega)]; exact h.1, fun c hc => ?_⟩
  rw [z 45 _ _ (by omega), z 46 _ _ (by omega)]
  exact ⟨(h.2 c hc).1, (h.2 c hc).2.1, fun p hp => by rw [z 47 _ _ (by omega)]; exact (h.2 c hc).2.2 p hp⟩
theorem MRb.of {R f f'} (h : MRb R f) (z : ∀ k i j, (k = 19 ∧ i = 0 ∧ j = 28) ∨ k = 49 ∨ k = 43 → f' k i j = f k i j) : MRb R f' := ⟨by rw [z _ _ _ (by omega)]; exact h.1, fun i hi => by rw [z _ _ _ (by omega)]; exact h.2.1 i hi, fun m hm => by rw [z 43 _ _ (by omega)]; exact h.2.2 m hm⟩
theorem upn {f : ax_F} {k i j : Nat} {x : Int32} {a b c : Nat} (h : ¬ (a = k ∧ b = i ∧ c = j)) : ax_up f k i j x a b c = f a b c := if_neg h
theorem p_setValidity {n f} (g) (x : Int32) (hI : Inv n f) : PQ n [(1, 1)] (s_X9_setValidity [.inr (0, 0), .inl (.int x)]) (s_X10_setValidity [.inr (19, 0), .inl (.int x)]) f g := by
  have hI0 := hI
  obtain ⟨E, S, R, ⟨hE, hS, hR, ⟨hA, hT, hD⟩, ⟨mA, mT, mD⟩, ⟨c1, c2, c3, c4, c5, c6⟩, ⟨m1, m2, m3, m4, m5, m6⟩⟩, ht⟩ := hI
  by_cases q1 : x < 1
  · refine PQ.x 1 1 hI0 (by decide) ?_ (fun g' => ?_)
    · rw [e_X9_setValidity, g_X9_setValidity_0, if_pos q1]
    · rw [e_X10_setValidity, g_X10_setValidity_0, x10_within, cali_r, decide_eq_false (fun w => w.1 q1), ite_b2, if_neg (by decide), t_1]
  by_cases q2 : x ≤ 999
  · refine PQ.c (f1 := ax_up f 1 0 5 x) (f2 := ax_up (ax_up (ax_up f 1 0 5 x) 19 0 0 0) 19 0 7 x) (rVal R) ?_ (fun g' => ?_) ?_ ?_
    · rw [e_X9_setValidity, g_X9_setValidity_0, if_neg q1, if_pos q2, c2]
    · have e7 : (ax_up (ax_up f 1 0 5 x) 19 0 0 0) 19 0 7 = rVal R := by rw [upn (by omega), upn (by omega)]; exact m2
      rw [e_X10_setValidity, g_X10_setValidity_0, x10_within, cali_r, decide_eq_true ⟨q1, by rw [i_lt]; rw [i_le] at q2; omega⟩, ite_b2, if_pos rfl, t_0, e7]
    · rw [upn (by omega)]; exact ax_up_s _ _ _ _ _
    · have z : ∀ k i j, ¬ (k = 1 ∧ i = 0 ∧ j = 5) → ¬ (k = 19 ∧ i = 0 ∧ j = 0) → ¬ (k = 19 ∧ i = 0 ∧ j = 7) → (ax_up (ax_up (ax_up f 1 0 5 x) 19 0 0 0) 19 0 7 x) k i j = f k i j := fun k i j h1 h2 h3 => by rw [upn h3, upn h2, upn h1]
      refine ⟨E, S, (rSec R, x, R.2.2), ⟨hE, hS, hR, ⟨hA.of' (fun k i j q => z k i j (by omega) (by omega) (by omega)), hT.of' (fun k i j q => z k i j (by omega) (by omega) (by omega)), hD.of' (fun k i j q => z k i j (by omega) (by omega) (by omega))⟩, ⟨mA.of' (fun k i j q => z k i j (by omega) (by omega) (by omega)), mT.of' (fun k i j q => z k i j (by omega) (by omega) (by omega)), mD.of' (fun k i j q => z k i j (by omega) (by omega) (by omega))⟩, ⟨?_, ?_, ?_, ?_, ?_, ?_⟩, ⟨?_, ?_, ?_, ?_, ?_, ?_⟩⟩, by omega⟩
      · rw [z _ _ _ (by omega) (by omega) (by omega)]; exact c1
      · rw [upn (by omega), upn (by omega)]; exact ax_up_s _ _ _ _ _
      · exact CRp.of (R := (rSec R, x, R.2.2)) (f := f) c3 (fun k i j q => z k i j (by omega) (by omega) (by omega))
      · exact CRj.of (R := (rSec R, x, R.2.2)) (f := f) c4 (fun k i j q => z k i j (by omega) (by omega) (by omega))
      · exact CRc.of (R := (rSec R, x, R.2.2)) (f := f) c5 (fun k i j q => z k i j (by omega) (by omega) (by omega))
      · exact CRb.of (R := (rSec R, x, R.2.2)) (f := f) c6 (fun k i j q => z k i j (by omega) (by omega) (by omega))
      · rw [z _ _ _ (by omega) (by omega) (by omega)]; exact m1
      · exact ax_up_s _ _ _ _ _
      · exact MRp.of (R := (rSec R, x, R.2.2)) (f := f) m3 (fun k i j q => z k i j (by omega) (by omega) (by omega))
      · exact MRj.of (R := (rSec R, x, R.2.2)) (f := f) m4 (fun k i j q => z k i j (by omega) (by omega) (by omega))
      · exact MRc.of (R := (rSec R, x, R.2.2)) (f := f) m5 (fun k i j q => z k i j (by omega) (by omega) (by omega))
      · exact MRb.of (R := (rSec R, x, R.2.2)) (f := f) m6 (fun k i j q => z k i j (by omega) (by omega) (by omega))
  · refine PQ.x 1 1 hI0 (by decide) ?_ (fun g' => ?_)
    · rw [e_X9_setValidity, g_X9_setValidity_0, if_neg q1, if_neg q2]
    · rw [e_X10_setValidity, g_X10_setValidity_0, x10_within, cali_r, decide_eq_false (fun w => w.2 (by rw [i_lt]; rw [i_le] at q2; omega)), ite_b2, if_neg (by decide), t_1]
/-- the buffer's part alone changes -/
theorem W7.buf {E S R f f'} (len : Nat) (buf : Nat → Nat) (h : W7 E S R f) (hw : len ≤ 60 ∧ ∀ i, i < len → 32 ≤ buf i ∧ buf i ≤ 126) (z : ∀ k i j, ¬ (k = 16 ∧ i = 0 ∧ j = 2) → k ≠ 17 → ¬ (k = 19 ∧ i = 0 ∧ (j = 0 ∨ j = 28)) → k ≠ 49 → f' k i j = f k i j) (h1 : f' 16 0 2 = nI len) (h2 : ∀ i, i < len → f' 17 0 i = nI (buf i)) (h3 : f' 19 0 28 = nI len) (h4 : ∀ i, i < len → f' 49 0 i = nI (buf i)) : W7 E S (R.1, R.2.1, R.2.2.1, R.2.2.2.1, R.2.2.2.2.1, R.2.2.2.2.2.1, R.2.2.2.2.2.2.1, R.2.2.2.2.2.2.2.1, R.2.2.2.2.2.2.2.2.1, R.2.2.2.2.2.2.2.2.2.1, R.2.2.2.2.2.2.2.2.2.2.1, len, buf) f' := by
  obtain ⟨hE, hS, hR, ⟨hA, hT, hD⟩, ⟨mA, mT, mD⟩, ⟨c1, c2, c3, c4, c5, c6⟩, ⟨m1, m2, m3, m4, m5, m6⟩⟩ := h
  obtain ⟨R', hR'⟩ : ∃ R' : Rt, R' = (R.1, R.2.1, R.2.2.1, R.2.2.2.1, R.2.2.2.2.1, R.2.2.2.2.2.1, R.2.2.2.2.2.2.1, R.2.2.2.2.2.2.2.1, R.2.2.2.2.2.2.2.2.1, R.2.2.2.2.2.2.2.2.2.1, R.2.2.2.2.2.2.2.2.2.2.1, len, buf) := ⟨_, rfl⟩
  rw [← hR']
  have e3 : CRp E R' f := by rw [hR']; exact c3
  have e4 : CRj E R' f := by rw [hR']; exact c4
  have e5 : CRc R' f := by rw [hR']; exact c5
  have f3 : MRp E R' f := by rw [hR']; exact m3
  have f4 : MRj E R' f := by rw [hR']; exact m4
  have f5 : MRc E R' f := by rw [hR']; exact m5
  refine ⟨hE, hS, ?_, ⟨hA.of' (fun k i j q => z k i j (by omega) (by omega) (by omega) (by omega)), hT.of' (fun k i j q => z k i j (by omega) (by omega) (by omega) (by omega)), hD.of' (fun k i j q => z k i j (by omega) (by omega) (by omega) (by omega))⟩, ⟨mA.of' (fun k i j q => z k i j (by omega) (by omega) (by omega) (by omega)), mT.of' (fun k i j q => z k i j (by omega) (by omega) (by omega) (by omega)), mD.of' (fun k i j q => z k i j (by omega) (by omega) (by omega) (by omega))⟩, ⟨?_, ?_, e3.of (fun k i j q => z k i j (by omega) (by omega) (by omega) (by omega)), e4.of (fun k i j q => z k i j (by omega) (by omega) (by omega) (by omega)), e5.of (fun k i j q => z k i j (by omega) (by omega) (by omega) (by omega)), ?_⟩, ⟨?_, ?_, f3.of (fun k i j q => z k i j (by omega) (by omega) (by omega) (by omega)), f4.of (fun k i j q => z k i j (by omega) (by omega) (by omega) (by omega)), f5.of (fun k i j q => z k i j (by omega) (by omega) (by omega) (by omega)), ?_⟩⟩
  · rw [hR']; exact ⟨hR.1, hR.2.1, hR.2.2.1, hR.2.2.2.1, hw⟩
  · rw [z _ _ _ (by omega) (by omega) (by omega) (by omega), hR']; exact c1
  · rw [z _ _ _ (by omega) (by omega) (by omega) (by omega), hR']; exact c2
  · rw [hR']; exact ⟨h1, h2⟩
  · rw [z _ _ _ (by omega) (by omega) (by omega) (by omega), hR']; exact m1
  · rw [z _ _ _ (by omega) (by omega) (by omega) (by omega), hR']; exact m2
  · rw [hR']; exact ⟨h3, h4, fun m hm => by rw [z 43 _ _ (by omega) (by omega) (by omega) (by omega)]; exact m6.2.2 m hm⟩
theorem p_clearInput {n f} (g) (hI : Inv n f) : PQ n [] (s_X9_clearInput [.inr (0, 0)]) (s_X10_clearInput [.inr (19, 0)]) f g := by
  obtain ⟨E, S, R, h, ht⟩ := hI
  refine PQ.c (f1 := ax_up f 16 0 2 0) (f2 := ax_up (ax_up (ax_up f 16 0 2 0) 19 0 0 0) 19 0 28 0) (nI (rLen R)) ?_ (fun g' => ?_) ?_ ⟨E, S, _, h.buf 0 (fun _ => 0) ⟨by decide, fun i hi => absurd hi (by omega)⟩ (fun k i j h1 h2 h3 h4 => by rw [upn (by omega), upn (by omega), upn (by omega)]) (by rw [upn (by omega), upn (by omega)]; exact ax_up_s _ _ _ _ _) (fun i hi => absurd hi (by omega)) (ax_up_s _ _ _ _ _) (fun i hi => absurd hi (by omega)), by omega⟩
  · rw [e_X9_clearInput, g_X9_clearInput_0, h.2.2.2.2.2.1.2.2.2.2.2.1]
  · have e7 : (ax_up (ax_up f 16 0 2 0) 19 0 0 0) 19 0 28 = nI (rLen R) := by rw [upn (by omega), upn (by omega)]; exact h.2.2.2.2.2.2.2.2.2.2.2.1
    rw [e_X10_clearInput, g_X10_clearInput_0, e7]
  · rw [upn (by omega)]; exact ax_up_s _ _ _ _ _
theorem p_append {n f} (g) (x : Int32) (hI : Inv n f) : PQ n [(1, 1), (2, 2)] (s_X9_append [.inr (0, 0), .inl (.int x)]) (s_X10_append [.inr (19, 0), .inl (.int x)]) f g := by
  have hI0 := hI
  obtain ⟨E, S, R, h, ht⟩ := hI
  have cl : f 16 0 2 = nI (rLen R) := h.2.2.2.2.2.1.2.2.2.2.2.1
  have ml : f 19 0 28 = nI (rLen R) := h.2.2.2.2.2.2.2.2.2.2.2.1
  have hl : rLen R ≤ 60 := h.2.2.1.2.2.2.2.1
  by_cases q1 : x < 32
  · refine PQ.x 1 1 hI0 (by decide) ?_ (fun g' => ?_)
    · rw [e_X9_append, g_X9_append_0, if_pos q1]
    · rw [e_X10_append, g_X10_append_0, x10_within, cali_r, decide_eq_false (fun w => w.1 q1), ite_b2, if_neg (by decide), t_1]
  by_cases q2 : x ≤ 126
  · have hin : ¬ x < 32 ∧ ¬ 126 < x := ⟨q1, by rw [i_lt]; rw [i_le] at q2; omega⟩
    obtain ⟨v, hv, rfl⟩ := nI_of2 (x := x) (M := 126) (n := 126) rfl (by rw [i_lt] at q1 ⊢; have : (32 : Int32).toInt = 32 := rfl; have : (0 : Int32).toInt = 0 := rfl; omega) q2
    have hv32 : 32 ≤ v := by
      rcases Nat.lt_or_ge v 32 with w | w
      · exact absurd (nI_lt (b := 32) w (by decide)) q1
      · exact w
    by_cases q3 : rLen R = 60
    · refine PQ.x 2 2 hI0 (by decide) ?_ (fun g' => ?_)
      · rw [e_X9_append, g_X9_append_0, if_neg q1, if_pos q2, cl, q3, if_neg (by decide +kernel)]
      · rw [e_X10_append, g_X10_append_0, x10_within, cali_r, decide_eq_true hin, ite_b2, if_pos rfl, ml, q3, if_pos (by decide +kernel), t_2]
    · have e1 : (ax_up f 17 0 (rLen R) (nI v)) 16 0 2 = nI (rLen R) := by rw [upn (by omega)]; exact cl
      refine PQ.c (f1 := ax_up (ax_up f 17 0 (rLen R) (nI v)) 16 0 2 (nI (rLen R + 1))) (f2 := ax_up (ax_up (ax_up (ax_up (ax_up f 17 0 (rLen R) (nI v)) 16 0 2 (nI (rLen R + 1))) 19 0 0 0) 49 0 (rLen R) (nI v)) 19 0 28 (nI (rLen R + 1))) (nI (rLen R + 1)) ?_ (fun g' => ?_) ?_ ⟨E, S, _, h.buf (rLen R + 1) (fun i => if i = rLen R then v else rBuf R i) ⟨by omega, fun i hi => ?_⟩ (fun k i j h1 h2 h3 h4 => by rw [upn (by omega), upn (by omega), upn (by omega), upn (by omega), upn (by omega)]) (by rw [upn (by omega), upn (by omega), upn (by omega)]; exact ax_up_s _ _ _ _ _) (fun i hi => ?_) (ax_up_s _ _ _ _ _) (fun i hi => ?_), by omega⟩
      · rw [e_X9_append, g_X9_append_0, if_neg q1, if_pos q2, cl, if_pos (show nI (rLen R) < (60 : Int32) from nI_lt (b := 60) (by omega) (by decide)), e_X3_put, g_X3_put_0, cl, if_neg (nI_ge (by omega) (by decide)), bd_n (by omega) (by decide), e1, nI_1, calv_r, ax_up_s]
      · have e2 : (ax_up (ax_up (ax_up f 17 0 (rLen R) (nI v)) 16 0 2 (nI (rLen R + 1))) 19 0 0 0) 19 0 28 = nI (rLen R) := by rw [upn (by omega), upn (by omega), upn (by omega)]; exact ml
        have e3 : (ax_up (ax_up f 17 0 (rLen R) (nI v)) 16 0 2 (nI (rLen R + 1))) 19 0 28 = nI (rLen R) := by rw [upn (by omega), upn (by omega)]; exact ml
        rw [e_X10_append, g_X10_append_0, x10_within, cali_r, decide_eq_true hin, ite_b2, if_pos rfl, e3, if_neg (nI_neL 60 q3 (by omega) (by decide)), t_0, e2, bd_n (by omega) (by decide), ax_up_s, upn (by omega), e2, nI_1]
      · rw [upn (by omega), upn (by omega)]; exact ax_up_s _ _ _ _ _
      · by_cases c : i = rLen R
        · rw [if_pos c]; omega
        · rw [if_neg c]; exact h.2.2.1.2.2.2.2.2 i (by omega)
      · rw [upn (by omega), upn (by omega), upn (by omega), upn (by omega)]
        by_cases c : i = rLen R
        · subst c; simp [ax_up_ap]
        · rw [upn (by omega), if_neg c]; exact h.2.2.2.2.2.1.2.2.2.2.2.2 i (by omega)
      · rw [upn (by omega)]
        by_cases c : i = rLen R
        · subst c; simp [ax_up_ap]
        · rw [upn (by omega), upn (by omega), upn (by omega), upn (by omega), if_neg c]; exact h.2.2.2.2.2.2.2.2.2.2.2.2.1 i (by omega)
  · refine PQ.x 1 1 hI0 (by decide) ?_ (fun g' => ?_)
    · rw [e_X9_append, g_X9_append_0, if_neg q1, if_neg q2]
    · rw [e_X10_append, g_X10_append_0, x10_within, cali_r, decide_eq_false (fun w => w.2 (by rw [i_lt]; rw [i_le] at q2; omega)), ite_b2, if_neg (by decide), t_1]
end AYF
