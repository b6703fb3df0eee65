/-! the class: restart, copies -/
section AXT
theorem x4_restart (f g) (r : Nat) (x1 x2 x3 x4 x5 x6 : Int32) (h6 : x6 = 0 ∨ x6 = 1) : s_X4_restart [.inr (9, r), .inl (.int x1), .inl (.int x2), .inl (.int x3), .inl (.int x4), .inl (.int x5), .inl (.int x6)] f g = rV (ax_row1 (ax_up (ax_up (ax_up (ax_up (ax_up (ax_up (ax_up (ax_up f 9 r 1 x1) 9 r 2 x2) 9 r 3 x3) 9 r 4 x4) 9 r 5 x5) 9 r 6 x6) 9 r 7 0) 9 r 8 0) 10 r (fun j => if j < 12 then 0 else f 10 r j)) g := by
  rw [e_X4_restart, g_X4_restart_0, bb_of h6]
  refine (ax_lp (fun i h => ax_run P_X4_restart 46 [some (.inr (9, r)), some (.inl (.int x1)), some (.inl (.int x2)), some (.inl (.int x3)), some (.inl (.int x4)), some (.inl (.int x5)), some (.inl (.int x6)), some (.inl (.int (nI i)))] [] h g 0 0) (fun j h => ax_up h 10 r j 0) 12 (ax_up (ax_up (ax_up (ax_up (ax_up (ax_up (ax_up (ax_up f 9 r 1 x1) 9 r 2 x2) 9 r 3 x3) 9 r 4 x4) 9 r 5 x5) 9 r 6 x6) 9 r 7 0) 9 r 8 0) (fun i hlt => ?_)).trans ?_
  · show ax_run _ _ [_, _, _, _, _, _, _, some (.inl (.int (nI i)))] _ _ _ _ _ = _
    rw [g_X4_restart_46, if_neg (nI_ge hlt (by decide)), nI_1, bd_n hlt (by decide)]
  · rw [row1_lp _ 10 r (fun _ => 0)]
    show ax_run _ _ [_, _, _, _, _, _, _, some (.inl (.int (nI 12)))] _ _ _ _ _ = _
    rw [g_X4_restart_46, if_pos (nI_le (Nat.le_refl _) (by decide))]
    have : (fun j => if j < 12 then (0 : Int32) else (ax_up (ax_up (ax_up (ax_up (ax_up (ax_up (ax_up (ax_up f 9 r 1 x1) 9 r 2 x2) 9 r 3 x3) 9 r 4 x4) 9 r 5 x5) 9 r 6 x6) 9 r 7 0) 9 r 8 0) 10 r j) = (fun j => if j < 12 then 0 else f 10 r j) := by
      funext j; simp [ax_up_ap]
    rw [this]
theorem x4_copyFrom (f g) {r q : Nat} (hne : ¬ q = r) (h6 : f 9 q 6 = 0 ∨ f 9 q 6 = 1) (h8 : f 9 q 8 = 0 ∨ f 9 q 8 = 1) : ∃ f', s_X4_copyFrom [.inr (9, r), .inr (9, q)] f g = rV f' g ∧ (∀ s, 1 ≤ s → s ≤ 8 → f' 9 r s = f 9 q s) ∧ (∀ p, p < 12 → f' 10 r p = f 10 q p) ∧ ∀ k i j, ¬ (k = 9 ∧ i = r) → ¬ (k = 10 ∧ i = r) → f' k i j = f k i j := by
  rw [e_X4_copyFrom, g_X4_copyFrom_0]
  simp only [ax_up_ap, hne, false_and, and_false, if_false]
  rw [bb_of h6, bb_of h8]
  obtain ⟨F, hF⟩ : ∃ F, F = (ax_up (ax_up (ax_up (ax_up (ax_up (ax_up (ax_up (ax_up f 9 r 1 (f 9 q 1)) 9 r 2 (f 9 q 2)) 9 r 3 (f 9 q 3)) 9 r 4 (f 9 q 4)) 9 r 5 (f 9 q 5)) 9 r 6 (f 9 q 6)) 9 r 7 (f 9 q 7)) 9 r 8 (f 9 q 8)) := ⟨_, rfl⟩
  rw [← hF]
  have l := ax_lp (fun i h => ax_run P_X4_copyFrom 66 [some (.inr (9, r)), some (.inr (9, q)), some (.inl (.int (nI i)))] [] h g 0 0) (fun j h => ax_up h 10 r j (f 10 q j)) 12 F (fun i hlt => by
    rw [row1_lp]
    show ax_run _ _ [_, _, some (.inl (.int (nI i)))] _ _ _ _ _ = _
    rw [g_X4_copyFrom_66, if_neg (nI_ge hlt (by decide)), nI_1, bd_n hlt (by decide), bd_n hlt (by decide), row1_ap, if_neg (fun z => hne z.2), hF]
    simp [ax_up_ap])
  refine ⟨ax_row1 F 10 r (fun j => if j < 12 then f 10 q j else F 10 r j), l.trans ?_, ?_⟩
  · rw [row1_lp]
    show ax_run _ _ [_, _, some (.inl (.int (nI 12)))] _ _ _ _ _ = _
    rw [g_X4_copyFrom_66, if_pos (nI_le (Nat.le_refl _) (by decide))]
  · refine ⟨fun s h1 h2 => ?_, fun p hp => ?_, fun k i j h1 h2 => ?_⟩
    · rw [row1_ap, if_neg (by simp), hF]
      have : s = 1 ∨ s = 2 ∨ s = 3 ∨ s = 4 ∨ s = 5 ∨ s = 6 ∨ s = 7 ∨ s = 8 := by omega
      rcases this with rfl | rfl | rfl | rfl | rfl | rfl | rfl | rfl <;> simp [ax_up_ap]
    · rw [row1_ap, if_pos ⟨rfl, rfl⟩, if_pos hp]
    · rw [row1_ap, if_neg h2, hF]
      have z : ∀ s, ¬ (k = 9 ∧ i = r ∧ j = s) := fun s q => h1 ⟨q.1, q.2.1⟩
      simp only [ax_up_ap, z, if_false]
/-- all places of a network -/
def Fg (n : Nat) (f f' : ax_F) : Prop := ∀ k i j, ¬ (k = 7 ∧ i = n) → ¬ (k = 9 ∧ 6 * n ≤ i ∧ i < 6 * n + 6) → ¬ (k = 10 ∧ 6 * n ≤ i ∧ i < 6 * n + 6) → f' k i j = f k i j
theorem Fr.fg {n f f'} (h : Fr n f f') : Fg n f f' := fun k i j h1 h2 h3 => h k i j (by
  rintro (q | q | q)
  · exact h2 ⟨q.1, q.2.1, q.2.2.1⟩
  · exact h3 q
  · exact h1 ⟨q.1, q.2.1⟩)
theorem Fg.trans {n f f1 f2} (h : Fg n f f1) (h2 : Fg n f1 f2) : Fg n f f2 := fun k i j q1 q2 q3 => (h2 k i j q1 q2 q3).trans (h k i j q1 q2 q3)
theorem NA.fg {n E f f'} (h : NA E f) (hf : Fg n f f') : NA E f' := by
  obtain ⟨h1, h2, h3, h4⟩ := h
  refine ⟨by rw [hf _ _ _ (by simp) (by simp) (by simp)]; exact h1, by rw [hf _ _ _ (by simp) (by simp) (by simp)]; exact h2, fun p hp => ⟨by rw [hf _ _ _ (by simp) (by simp) (by simp)]; exact (h3 p hp).1, by rw [hf _ _ _ (by simp) (by simp) (by simp)]; exact (h3 p hp).2⟩, fun j p hj hp => ?_⟩
  rw [← h4 j p hj hp]
  unfold tv
  rw [hf _ _ _ (by simp) (by simp) (by simp)]
theorem x5_copyFrom (g) {E S f} (hE : EW E) (hX : NX 0 E S f) : ∃ f', s_X5_copyFrom [.inr (7, 1), .inr (7, 0)] f g = rV f' g ∧ NX 1 E S f' ∧ Fg 1 f f' := by
  have hm6 := hE.2.1
  obtain ⟨hA, hT, hD⟩ := hX
  rw [e_X5_copyFrom, g_X5_copyFrom_0]
  show ∃ f', ax_run P_X5_copyFrom 26 [some (.inr (7, 1)), some (.inr (7, 0)), some (.inl (.int 0))] [] (ax_up (ax_up (ax_up f 7 1 2 (f 7 0 2)) 7 1 3 (f 7 0 3)) 7 1 4 (f 7 0 4)) g 0 0 = _ ∧ _
  obtain ⟨F, hF⟩ : ∃ F, F = ax_up (ax_up (ax_up f 7 1 2 (f 7 0 2)) 7 1 3 (f 7 0 3)) 7 1 4 (f 7 0 4) := ⟨_, rfl⟩
  rw [← hF]
  have hFo : ∀ k i j, ¬ (k = 7 ∧ i = 1) → F k i j = f k i j := by
    intro k i j h
    have z : ∀ s, ¬ (k = 7 ∧ i = 1 ∧ j = s) := fun s q => h ⟨q.1, q.2.1⟩
    rw [hF]
    simp only [ax_up_ap, z, if_false]
  obtain ⟨x', h1, i1, i2, i3⟩ := ax_lpE (fun i (x : ax_F) => ax_run P_X5_copyFrom 26 [some (.inr (7, 1)), some (.inr (7, 0)), some (.inl (.int (nI i)))] [] x g 0 0) (fun i x (_ : Unit) => (∀ m, m < i → (∀ s, 1 ≤ s → s ≤ 8 → x 9 (6 + m) s = f 9 m s) ∧ ∀ p, p < 12 → x 10 (6 + m) p = f 10 m p) ∧ (∀ j, x 7 1 j = F 7 1 j) ∧ Fg 1 f x) (fun _ y => y) (eNm E) F () ⟨fun m hm => absurd hm (by omega), fun _ => rfl, fun k i j q1 _ _ => hFo k i j q1⟩ (by
    intro i x _ hi hI
    obtain ⟨i1, i2, i3⟩ := hI
    have e2 : x 7 1 2 = nI (eNm E) := by rw [i2, hF]; simp [ax_up_ap]; exact hT.1
    have e6 : x 9 i 6 = b2 (eCrf E i) := by
      rw [i3 _ _ _ (by simp) (by simp; omega) (by simp)]
      have := (hT.2 i hi).2.2.2.2.2
      simpa using this
    have e8 : x 9 i 8 = b2 (sWr S i) := by
      rw [i3 _ _ _ (by simp) (by simp; omega) (by simp)]
      have := (hD.2.2 i hi).2.1
      simpa using this
    obtain ⟨x2, c1, c2, c3, c4⟩ := x4_copyFrom x g (r := 6 + i) (q := i) (by omega) (by rw [e6]; exact b2_01 _) (by rw [e8]; exact b2_01 _)
    rw [g_X5_copyFrom_26, e2, if_neg (nI_ge hi (sm31 (by omega))), bd_n (by omega) (by decide), bd_n (by omega) (by decide), nI_1]
    show ∃ x', ax_calv (s_X4_copyFrom [.inr (9, 6 * 1 + i), .inr (9, 6 * 0 + i)] x g) _ _ = _ ∧ _
    rw [show 6 * 1 + i = 6 + i from by omega, show 6 * 0 + i = i from by omega, c1, calv_r]
    refine ⟨x2, rfl, fun m hm => ?_, fun j => ?_, fun k a b q1 q2 q3 => ?_⟩
    · by_cases h : m = i
      · subst h
        refine ⟨fun s z1 z2 => ?_, fun p hp => ?_⟩
        · rw [c2 s z1 z2]; exact i3 _ _ _ (by simp) (by simp; omega) (by simp)
        · rw [c3 p hp]; exact i3 _ _ _ (by simp) (by simp) (by simp; omega)
      · refine ⟨fun s z1 z2 => ?_, fun p hp => ?_⟩
        · rw [c4 _ _ _ (by simp; omega) (by simp)]; exact (i1 m (by omega)).1 s z1 z2
        · rw [c4 _ _ _ (by simp) (by simp; omega)]; exact (i1 m (by omega)).2 p hp
    · rw [c4 _ _ _ (by simp) (by simp)]; exact i2 j
    · rw [c4 _ _ _ (fun z => q2 ⟨z.1, by omega, by omega⟩) (fun z => q3 ⟨z.1, by omega, by omega⟩)]
      exact i3 k a b q1 q2 q3)
  have e2 : ∀ j, x' 7 1 j = F 7 1 j := i2
  refine ⟨x', h1.trans ?_, ⟨hA.fg i3, ⟨?_, fun m hm => ?_⟩, ?_, ?_, fun m hm => ?_⟩, i3⟩
  · have e7 : x' 7 1 2 = nI (eNm E) := by rw [i2, hF]; simp [ax_up_ap]; exact hT.1
    rw [g_X5_copyFrom_26, e7, if_pos (nI_le (Nat.le_refl _) (sm31 (by omega)))]
  · rw [i2, hF]; simp [ax_up_ap]; exact hT.1
  · obtain ⟨t1, t2, t3, t4, t5, t6⟩ := hT.2 m hm
    obtain ⟨j1, j2⟩ := i1 m hm
    simp only [Nat.mul_zero, Nat.zero_add] at t1 t2 t3 t4 t5 t6
    show x' 9 (6 * 1 + m) 1 = _ ∧ _
    rw [show 6 * 1 + m = 6 + m from by omega, j1 1 (by decide) (by decide), j1 2 (by decide) (by decide), j1 3 (by decide) (by decide), j1 4 (by decide) (by decide), j1 5 (by decide) (by decide), j1 6 (by decide) (by decide)]
    exact ⟨t1, t2, t3, t4, t5, t6⟩
  · rw [i2, hF]; simp [ax_up_ap]; exact hD.1
  · rw [i2, hF]; simp [ax_up_ap]; exact hD.2.1
  · obtain ⟨d1, d2, d3⟩ := hD.2.2 m hm
    obtain ⟨j1, j2⟩ := i1 m hm
    simp only [Nat.mul_zero, Nat.zero_add] at d1 d2 d3
    rw [show 6 * 1 + m = 6 + m from by omega, j1 7 (by decide) (by decide), j1 8 (by decide) (by decide)]
    exact ⟨d1, d2, fun p hp => by rw [j2 p hp]; exact d3 p hp⟩
end AXT
