/-! the class: pull, passMinute -/
section AXQ
theorem NX_tak {n E S f} {m j : Nat} (hE : EW E) (hX : NX n E S f) (hm : m < eNm E) : NX n E (sTak S m j) (ax_up (ax_up f 9 (6 * n + m) 7 (nI j)) 9 (6 * n + m) 8 0) ∧ Fr n f (ax_up (ax_up f 9 (6 * n + m) 7 (nI j)) 9 (6 * n + m) 8 0) := by
  obtain ⟨hA, hT, hD⟩ := hX
  have hm6 := hE.2.1
  have hfr : Fr n f (ax_up (ax_up f 9 (6 * n + m) 7 (nI j)) 9 (6 * n + m) 8 0) := by
    intro k i j' hd
    simp only [ax_up_ap]
    rw [if_neg, if_neg]
    · rintro ⟨rfl, rfl, rfl⟩; exact hd (Or.inl ⟨rfl, by omega, by omega, Or.inl rfl⟩)
    · rintro ⟨rfl, rfl, rfl⟩; exact hd (Or.inl ⟨rfl, by omega, by omega, Or.inr rfl⟩)
  refine ⟨⟨hA.fr hfr, hT.fr hfr, by simp only [ax_up_ap]; simp; exact hD.1, by simp only [ax_up_ap]; simp; exact hD.2.1, fun m' hm' => ?_⟩, hfr⟩
  obtain ⟨c1, c2, c3⟩ := hD.2.2 m' hm'
  refine ⟨?_, ?_, fun p hp => by simp only [ax_up_ap]; simp; exact c3 p hp⟩
  · show _ = nI (up1 (sOwn S) m j m')
    by_cases h : m' = m
    · subst h; rw [up1_s]; simp [ax_up_ap]
    · rw [up1_n _ _ h, ← c1]; simp [ax_up_ap, h]
  · show _ = b2 (up1 (sWr S) m false m')
    by_cases h : m' = m
    · subst h; rw [up1_s]; simp [ax_up_ap, b2]
    · rw [up1_n _ _ h, ← c2]; simp [ax_up_ap, h]
theorem x5_pull (g) {n E S f} {m : Nat} (hE : EW E) (hS : SW E S) (hX : NX n E S f) (hm : m < eNm E) : ∃ f', s_X5_pull [.inr (7, n), .inr (9, 6 * n + m)] f g = rV f' g ∧ NX n E (pul E S m) f' ∧ Fr n f f' := by
  have hm6 := hE.2.1
  have h20 := hE.2.2.1
  rw [e_X5_pull, g_X5_pull_0, x5_offered g hE hS hX hm, cali_r]
  obtain ⟨j, hj⟩ : ∃ j, j = offr E S m := ⟨_, rfl⟩
  have hjle := offr_le hE hS hm
  unfold pul
  rw [← hj] at hjle ⊢
  by_cases h0 : j = 0
  · subst h0
    rw [if_pos rfl]
    exact ⟨f, rfl, hX, Fr.refl n f⟩
  rw [if_neg (nI_ne0 (by omega) (sm31 (by omega)))]
  simp only [if_neg h0]
  have hown : f 9 (6 * n + m) 7 = nI (sOwn S m) := (hX.2.2.2.2 m hm).1
  have hole := hS.1 m hm
  have hcrf : f 9 (6 * n + m) 6 = b2 (eCrf E m) := (hX.2.1.2 m hm).2.2.2.2.2
  have six : ∀ f1, NX n E S f1 → f1 9 (6 * n + m) 6 = b2 (eCrf E m) := fun f1 h => (h.2.1.2 m hm).2.2.2.2.2
  rw [hcrf, hown]
  cases hc : eCrf E m with
  | false =>
    rw [if_pos (by decide +kernel), x4_takeIndex, calv_r]
    obtain ⟨hX1, hF1⟩ := NX_tak (j := j) hE hX hm
    obtain ⟨f2, e2, hX2, hF2⟩ := x5_copyMissing g hE hX1 hm hjle
    rw [e2, calv_r]
    have hX2 : NX n E (sTak (sCpd E S m j) m j) f2 := hX2
    have a6 : f2 9 (6 * n + m) 6 = b2 (eCrf E m) := (hX2.2.1.2 m hm).2.2.2.2.2
    have a7 : f2 9 (6 * n + m) 7 = nI j := by
      have := (hX2.2.2.2.2 m hm).1
      rw [this]
      exact congrArg nI (up1_s _ _ _)
    rw [a6, a7, hc, if_pos (by decide +kernel), if_pos (Or.inl rfl)]
    have hF12 := hF1.trans (Fc.fr (by omega) hF2)
    by_cases he : sOwn S m = j
    · rw [if_pos he, if_pos (by rw [he])]
      exact ⟨f2, rfl, hX2, hF12⟩
    · rw [if_neg he, if_neg (fun q => he (nI_inj (sm31 (by omega)) (sm31 (by omega)) q).symm)]
      obtain ⟨f3, e3, hX3, hF3⟩ := x5_dropOld g hE (SW_tak (SW_cpd hE hS hm) hjle) hX2 hm
      rw [e3, calv_r]
      have hown3 : sOwn (sTak (sCpd E S m j) m j) m = j := up1_s _ _ _
      rw [hown3] at hX3
      exact ⟨f3, rfl, hX3, hF12.trans (Fc.fr (by omega) hF3)⟩
  | true =>
    rw [if_neg (by decide +kernel)]
    obtain ⟨f2, e2, hX2, hF2⟩ := x5_copyMissing g hE hX hm hjle
    rw [e2, calv_r]
    have a6 : f2 9 (6 * n + m) 6 = b2 (eCrf E m) := (hX2.2.1.2 m hm).2.2.2.2.2
    have a7 : f2 9 (6 * n + m) 7 = nI (sOwn S m) := (hX2.2.2.2.2 m hm).1
    have hF2' := Fc.fr (show m < 6 by omega) hF2
    rw [a6, hc, if_neg (by decide +kernel), x5_missing g hE hX2 hm hjle, cali_r]
    by_cases hmis : mis E (sCpd E S m j) m j = 0
    · rw [if_pos hmis, if_pos (Or.inr hmis), x4_takeIndex, calv_r]
      obtain ⟨hX3, hF3⟩ := NX_tak (j := j) hE hX2 hm
      have b7 : (ax_up (ax_up f2 9 (6 * n + m) 7 (nI j)) 9 (6 * n + m) 8 0) 9 (6 * n + m) 7 = nI j := by simp [ax_up_ap]
      rw [b7]
      by_cases he : sOwn S m = j
      · rw [if_pos he, if_pos (by rw [he])]
        exact ⟨_, rfl, hX3, hF2'.trans hF3⟩
      · rw [if_neg he, if_neg (fun q => he (nI_inj (sm31 (by omega)) (sm31 (by omega)) q).symm)]
        obtain ⟨f4, e4, hX4, hF4⟩ := x5_dropOld g hE (SW_tak (SW_cpd hE hS hm) hjle) hX3 hm
        rw [e4, calv_r]
        have hown3 : sOwn (sTak (sCpd E S m j) m j) m = j := up1_s _ _ _
        rw [hown3] at hX4
        exact ⟨f4, rfl, hX4, (hF2'.trans hF3).trans (Fc.fr (by omega) hF4)⟩
    · rw [if_neg hmis, a7, if_pos rfl, if_neg (fun q => q.elim (fun z => by cases z) hmis)]
      exact ⟨f2, rfl, hX2, hF2'⟩
theorem NX_tick {n E S f} (hX : NX n E S f) : NX n E (sTick S) (ax_up f 7 n 3 (f 7 n 3 + 1)) ∧ Fr n f (ax_up f 7 n 3 (f 7 n 3 + 1)) := by
  obtain ⟨hA, hT, hD⟩ := hX
  have hfr : Fr n f (ax_up f 7 n 3 (f 7 n 3 + 1)) := by
    intro k i j' hd
    simp only [ax_up_ap]
    rw [if_neg]
    rintro ⟨rfl, rfl, rfl⟩; exact hd (Or.inr (Or.inr ⟨rfl, rfl, Or.inl rfl⟩))
  refine ⟨⟨hA.fr hfr, hT.fr hfr, ?_, by simp only [ax_up_ap]; simp; exact hD.2.1, fun m' hm' => ?_⟩, hfr⟩
  · show _ = nI (sTm S + 1)
    rw [ax_up_s, hD.1, nI_1]
  · obtain ⟨c1, c2, c3⟩ := hD.2.2 m' hm'
    exact ⟨by simp only [ax_up_ap]; simp; exact c1, by simp only [ax_up_ap]; simp; exact c2, fun p hp => by simp only [ax_up_ap]; simp; exact c3 p hp⟩
theorem SW_tick {E S} (hS : SW E S) (h : sTm S + 1 < 2 ^ 30) : SW E (sTick S) := ⟨hS.1, hS.2.1, hS.2.2.1, h⟩
theorem x5_passMinute (g) {n E S f} (hE : EW E) (hS : SW E S) (ht : sTm S + 1 < 2 ^ 30) (hX : NX n E S f) : ∃ f', s_X5_passMinute [.inr (7, n)] f g = rV f' g ∧ NX n E (mnt E S) f' ∧ SW E (mnt E S) ∧ sTm (mnt E S) = sTm S + 1 ∧ Fr n f f' := by
  have hm6 := hE.2.1
  rw [e_X5_passMinute, g_X5_passMinute_0]
  obtain ⟨hX0, hF0⟩ := NX_tick hX
  obtain ⟨x', h1, i1, i2, i3, i4⟩ := ax_lpE (fun i (x : ax_F) => ax_run P_X5_passMinute 12 [some (.inr (7, n)), some (.inl (.int (nI i)))] [] x g 0 0) (fun i x (T : St) => NX n E T x ∧ SW E T ∧ sTm T = sTm S + 1 ∧ Fr n f x) (fun m T => if sTm T % eItv E m = eOfs E m then pul E T m else T) (eNm E) (ax_up f 7 n 3 (f 7 n 3 + 1)) (sTick S) ⟨hX0, SW_tick hS ht, rfl, hF0⟩ (by
    intro i h T hi hI
    obtain ⟨i1, i2, i3, i4⟩ := hI
    obtain ⟨w1, w2, w3, w4⟩ := hE.2.2.2.1 i hi
    obtain ⟨t1, t2, t3, -⟩ := i1.2.1.2 i hi
    rw [g_X5_passMinute_12, i1.2.1.1, if_neg (nI_ge hi (sm31 (by omega))), bd_n (by omega) (by decide), i1.2.2.1, x4_pullsAt h g _ t2 t3 ⟨w1, w2⟩ w3 (by omega), cali_r, ite_b, nI_1, bd_n (by omega) (by decide)]
    by_cases c : sTm T % eItv E i = eOfs E i
    · rw [if_pos c]
      obtain ⟨f2, e2, hX2, hF2⟩ := x5_pull g hE i2 i1 hi
      rw [e2, calv_r]
      refine ⟨f2, rfl, ?_⟩
      simp only [if_pos c]
      exact ⟨hX2, SW_pul hE i2 hi, by rw [pul_tm]; exact i3, i4.trans hF2⟩
    · rw [if_neg c]
      refine ⟨h, rfl, ?_⟩
      simp only [if_neg c]
      exact ⟨i1, i2, i3, i4⟩)
  refine ⟨x', h1.trans ?_, i1, i2, i3, i4⟩
  rw [g_X5_passMinute_12, i1.2.1.1, if_pos (nI_le (Nat.le_refl _) (sm31 (by omega)))]
end AXQ
