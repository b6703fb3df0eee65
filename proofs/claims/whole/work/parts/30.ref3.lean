/-! the reference: minute, and what it answers of mirrors -/
section AXX
theorem NM_cp {E S f} (n : Int32) (hX : NM E S f) : NM E (addC S n) (ax_up f 19 0 8 (sCp S + n)) ∧ Fm f (ax_up f 19 0 8 (sCp S + n)) := by
  obtain ⟨hA, hT, hD⟩ := hX
  have hfm : Fm f (ax_up f 19 0 8 (sCp S + n)) := ⟨fun k i j' q1 q2 q3 q4 => by
    simp only [ax_up_ap]
    rw [if_neg (fun w => q4 ⟨w.1, w.2.1, Or.inr w.2.2⟩)], fun j' => Or.inl (by simp [ax_up_ap])⟩
  refine ⟨⟨hA.of hfm.z, hT.of hfm.z, by simp [ax_up_ap]; exact hD.1, by simp [ax_up_ap]; rfl, fun m hm => ?_⟩, hfm⟩
  obtain ⟨c1, c2, c3⟩ := hD.2.2 m hm
  exact ⟨by simp [ax_up_ap]; exact c1, by simp [ax_up_ap]; exact c2, fun p hp => by simp [ax_up_ap]; exact c3 p hp⟩
theorem addC_0 (S) : addC S 0 = S := by
  show (S.1, S.2.1, S.2.2.1, S.2.2.2.1, S.2.2.2.2 + 0) = S
  rw [Int32.add_zero]
theorem NM_tm {E S f} {t : Nat} (hX : NM E S f) : NM E (sOwn S, sWr S, sFl S, t, sCp S) (ax_up f 19 0 6 (nI t)) ∧ Fm f (ax_up f 19 0 6 (nI t)) := by
  obtain ⟨hA, hT, hD⟩ := hX
  have hfm : Fm f (ax_up f 19 0 6 (nI t)) := ⟨fun k i j' q1 q2 q3 q4 => by
    simp only [ax_up_ap]
    rw [if_neg (fun w => q4 ⟨w.1, w.2.1, Or.inl w.2.2⟩)], fun j' => Or.inl (by simp [ax_up_ap])⟩
  refine ⟨⟨hA.of hfm.z, hT.of hfm.z, by simp [ax_up_ap]; rfl, by simp [ax_up_ap]; exact hD.2.1, fun m hm => ?_⟩, hfm⟩
  obtain ⟨c1, c2, c3⟩ := hD.2.2 m hm
  exact ⟨by simp [ax_up_ap]; exact c1, by simp [ax_up_ap]; exact c2, fun p hp => by simp [ax_up_ap]; exact c3 p hp⟩
theorem pulM_cp (E S m) : sCp (pulM E S m) = sCp S := by
  unfold pulM
  split
  · rfl
  · split
    · split <;> rfl
    · rfl
theorem x10_minute (g) {E S f} (hE : EW E) (hS : SW E S) (ht : sTm S + 1 < 2 ^ 30) (hX : NM E S f) : ∃ f', s_X10_minute [.inr (19, 0)] f g = rV f' g ∧ NM E (mnt E S) f' ∧ Fm f f' := by
  have h6 := hE.2.1
  rw [e_X10_minute, g_X10_minute_0, hX.2.2.1, nI_1]
  obtain ⟨hX0, hF0⟩ := NM_tm (t := sTm S + 1) hX
  obtain ⟨x', h1, i1, i2, i3, i4⟩ := ax_lpE (fun i (x : ax_F) => ax_run P_X10_minute 12 [some (.inr (19, 0)), some (.inl (.int (nI i)))] [] x g 0 0) (fun i x (T : St) => NM E T x ∧ SW E T ∧ sTm T = sTm S + 1 ∧ Fm f x) (fun m T => if sTm T % eItv E m = eOfs E m then pul E T m else T) (eNm E) (ax_up f 19 0 6 (nI (sTm S + 1))) (sTick S) ⟨hX0, SW_tick hS ht, rfl, hF0⟩ (by
    intro i h T hi hI
    obtain ⟨i1, i2, i3, i4⟩ := hI
    obtain ⟨w1, w2, w3, w4⟩ := hE.2.2.2.1 i hi
    obtain ⟨t1, t2, t3, -⟩ := i1.2.1.2 i hi
    have hr := Nat.mod_lt (sTm T) (show 0 < eItv E i by omega)
    rw [g_X10_minute_12, i1.2.1.1, if_neg (nI_ge hi (sm31 (by omega))), bd_n (by omega) (by decide), bd_n (by omega) (by decide), t2, if_neg (nI_ne0 (by omega) (sm31 (by omega))), i1.2.2.1, pk_rem (by omega) (by omega) (by omega), t3, nI_1, i1.2.2.2.1]
    by_cases c : sTm T % eItv E i = eOfs E i
    · rw [if_pos (by rw [c])]
      obtain ⟨f2, e2, hX2, hF2⟩ := x10_pull g hE i2 i1 hi
      rw [e2, cali_r]
      obtain ⟨hX3, hF3⟩ := NM_cp (pulN E T i) hX2
      rw [pulM_cp] at hX3 hF3
      rw [← pul_MN] at hX3
      refine ⟨_, rfl, ?_⟩
      simp only [if_pos c]
      exact ⟨hX3, SW_pul hE i2 hi, by rw [pul_tm]; exact i3, (i4.trans hF2).trans hF3⟩
    · rw [if_neg (fun q => c (nI_inj (by omega) (by omega) q))]
      obtain ⟨hX3, hF3⟩ := NM_cp 0 i1
      rw [addC_0] at hX3
      refine ⟨_, rfl, ?_⟩
      simp only [if_neg c]
      exact ⟨hX3, i2, i3, i4.trans hF3⟩)
  refine ⟨x', h1.trans ?_, i1, i4⟩
  rw [g_X10_minute_12, i1.2.1.1, if_pos (nI_le (Nat.le_refl _) (sm31 (by omega)))]
theorem x10_fileCount (g) {E S f} {m : Nat} (hE : EW E) (hS : SW E S) (hX : NM E S f) (hm : m < eNm E) : s_X10_fileCount [.inr (19, 0), .inl (.int (nI m))] f g = rI (ax_sum 12 (fun p => bts (sFl S m p))) f g := by
  have h12 := hE.1
  have h6 := hE.2.1
  rw [e_X10_fileCount, g_X10_fileCount_0, fcn_np hE hS hm]
  refine (ax_lp (fun i a => ax_run P_X10_fileCount 4 [some (.inr (19, 0)), some (.inl (.int (nI m))), some (.inl (.int a)), some (.inl (.int (nI i)))] [] f g 0 0) (fun p a => a + bts (sFl S m p)) (eNp E) 0 (fun i hi => ?_)).trans ?_
  · show ax_run _ _ [_, _, _, some (.inl (.int (nI i)))] _ _ _ _ _ = _
    rw [g_X10_fileCount_4, hX.1.1, if_neg (nI_ge hi (sm31 (by omega))), ix12, bd_n (by omega) (by decide), x10_bits, cali_r, (hX.2.2.2.2 m hm).2.2 i (by omega), nI_1]
  · show ax_run _ _ [_, _, _, some (.inl (.int (nI (eNp E))))] _ _ _ _ _ = _
    rw [g_X10_fileCount_4, hX.1.1, if_pos (nI_le (Nat.le_refl _) (sm31 (by omega)))]
    rfl
theorem x10_isComplete (g) {E S f} {m : Nat} (hE : EW E) (hS : SW E S) (hX : NM E S f) (hm : m < eNm E) : s_X10_isComplete [.inr (19, 0), .inl (.int (nI m))] f g = rI (b2 (cmp E S m)) f g := by
  have h6 := hE.2.1
  have h20 := hE.2.2.1
  have ho := hS.1 m hm
  obtain ⟨d1, d2, -⟩ := hX.2.2.2.2 m hm
  have bm : ∀ kk, ax_bd (nI m) 6 kk = kk m := fun kk => bd_n (by omega) (by decide) kk
  rw [e_X10_isComplete, g_X10_isComplete_0]
  simp only [bm]
  rw [d1, d2, ite_b2, x10_lacking g hE hX hm ho, cali_r]
  unfold cmp gud
  by_cases c : sOwn S m = 0
  · rw [c, if_pos (show nI 0 ≤ 0 by decide +kernel)]; rfl
  · rw [if_neg (nI_nle (by omega) (sm31 (by omega))), decide_eq_true (show 0 < sOwn S m by omega)]
    cases sWr S m
    · rw [if_neg (by decide)]
      show _ = rI (b2 (decide (mis E S m (sOwn S m) = 0))) f g
      rw [b2_d]
      by_cases d : mis E S m (sOwn S m) = 0
      · rw [if_pos d, if_pos d]
      · rw [if_neg d, if_neg d]
    · rw [if_pos rfl]; rfl
theorem nxp_spec {d o t : Nat} (hd : 0 < d) (ho : o < d) : 1 ≤ nxp d o t ∧ nxp d o t ≤ d ∧ ∀ k, 1 ≤ k → k ≤ nxp d o t → ((t + k) % d = o ↔ k = nxp d o t) := by
  have hr : t % d < d := Nat.mod_lt _ hd
  have e : nxp d o t = if t % d < o then o - t % d else o + d - t % d := by
    unfold nxp
    generalize t % d = r at *
    by_cases h : r < o
    · rw [if_pos h, show o + d - r = (o - r) + d from by omega, Nat.add_mod_right, Nat.mod_eq_of_lt (a := o - r) (by omega), if_neg (by omega)]
    · rw [if_neg h]
      by_cases h2 : r = o
      · rw [h2, show o + d - o = d from by omega, Nat.mod_self, if_pos rfl]
      · rw [Nat.mod_eq_of_lt (a := o + d - r) (by omega), if_neg (by omega)]
  have hk : ∀ k, (t + k) % d = (t % d + k) % d := fun k => (Nat.mod_add_mod t d k).symm
  rw [e]
  simp only [hk]
  generalize t % d = r at *
  by_cases h : r < o
  · rw [if_pos h]
    refine ⟨by omega, by omega, fun k h1 h2 => ?_⟩
    rw [Nat.mod_eq_of_lt (a := r + k) (by omega)]
    omega
  · rw [if_neg h]
    refine ⟨by omega, by omega, fun k h1 h2 => ?_⟩
    by_cases c : r + k < d
    · rw [Nat.mod_eq_of_lt c]; omega
    · rw [show r + k = (r + k - d) + d from by omega, Nat.add_mod_right, Nat.mod_eq_of_lt (a := r + k - d) (by omega)]
      omega
theorem x10_nextPull (g) {E S f} {m : Nat} (hE : EW E) (hS : SW E S) (hX : NM E S f) (hm : m < eNm E) : s_X10_nextPull [.inr (19, 0), .inl (.int (nI m))] f g = rI (nI (nxp (eItv E m) (eOfs E m) (sTm S))) f g := by
  have h6 := hE.2.1
  obtain ⟨w1, w2, w3, w4⟩ := hE.2.2.2.1 m hm
  obtain ⟨t1, t2, t3, -⟩ := hX.2.1.2 m hm
  obtain ⟨n1, n2, n3⟩ := nxp_spec (t := sTm S) (show 0 < eItv E m by omega) w3
  have htm := hS.2.2.2
  have step : ∀ k, 1 ≤ k → k ≤ nxp (eItv E m) (eOfs E m) (sTm S) → ax_run P_X10_nextPull 2 [some (.inr (19, 0)), some (.inl (.int (nI m))), some (.inl (.int (nI k)))] [] f g 0 0 = if k = nxp (eItv E m) (eOfs E m) (sTm S) then rI (nI k) f g else ax_run P_X10_nextPull 2 [some (.inr (19, 0)), some (.inl (.int (nI m))), some (.inl (.int (nI (k + 1))))] [] f g 0 0 := by
    intro k h1 h2
    have hr := Nat.mod_lt (sTm S + k) (show 0 < eItv E m by omega)
    rw [g_X10_nextPull_2, bd_n (by omega) (by decide), bd_n (by omega) (by decide), t2, if_neg (nI_ne0 (by omega) (sm31 (by omega))), hX.2.2.1, t3, nI_add, pk_rem (by omega) (by omega) (by omega), nI_1]
    by_cases c : k = nxp (eItv E m) (eOfs E m) (sTm S)
    · rw [if_pos c, if_pos (by rw [(n3 k h1 h2).mpr c])]
    · rw [if_neg c, if_neg (fun q => c ((n3 k h1 h2).mp (nI_inj (by omega) (by omega) q)))]
  rw [e_X10_nextPull, g_X10_nextPull_0]
  refine (ax_lp (fun i (_ : Unit) => ax_run P_X10_nextPull 2 [some (.inr (19, 0)), some (.inl (.int (nI m))), some (.inl (.int (nI (i + 1))))] [] f g 0 0) (fun _ u => u) (nxp (eItv E m) (eOfs E m) (sTm S) - 1) () (fun i hi => ?_)).trans ?_
  · rw [step (i + 1) (by omega) (by omega), if_neg (by omega)]
  · show ax_run P_X10_nextPull 2 [_, _, some (.inl (.int (nI (nxp (eItv E m) (eOfs E m) (sTm S) - 1 + 1))))] _ _ _ _ _ = _
    rw [show nxp (eItv E m) (eOfs E m) (sTm S) - 1 + 1 = nxp (eItv E m) (eOfs E m) (sTm S) from by omega, step _ n1 (Nat.le_refl _), if_pos rfl]
theorem x10_mirrorNow (g) {E S f} {m w : Nat} (hE : EW E) (hS : SW E S) (hX : NM E S f) (hm : m < eNm E) (hw : w < 11) : s_X10_mirrorNow [.inr (19, 0), .inl (.int (nI m)), .inl (.int (nI w))] f g = rI (prp E S m w) f g := by
  have h6 := hE.2.1
  have h20 := hE.2.2.1
  have ho := hS.1 m hm
  obtain ⟨d1, d2, d3⟩ := hX.2.2.2.2 m hm
  obtain ⟨t1, t2, t3, t4, t5, t6⟩ := hX.2.1.2 m hm
  have bm : ∀ kk, ax_bd (nI m) 6 kk = kk m := fun kk => bd_n (by omega) (by decide) kk
  rw [e_X10_mirrorNow, g_X10_mirrorNow_0]
  simp only [bm]
  rw [t1, t2, t3, t4, d1, d2, hX.1.2.1, x10_lacking g hE hX hm ho, cali_r, x10_fileCount g hE hS hX hm, cali_r, x10_nextPull g hE hS hX hm, cali_r, x10_isComplete g hE hS hX hm, cali_r]
  unfold prp
  by_cases h0 : w = 0
  · subst h0; rfl
  rw [if_neg (nI_neL 0 h0 (by omega) (by decide)), if_neg h0]
  by_cases h1 : w = 1
  · subst h1; rfl
  rw [if_neg (nI_neL 1 h1 (by omega) (by decide)), if_neg h1]
  by_cases h2 : w = 2
  · subst h2; rfl
  rw [if_neg (nI_neL 2 h2 (by omega) (by decide)), if_neg h2]
  by_cases h3 : w = 3
  · subst h3; rfl
  rw [if_neg (nI_neL 3 h3 (by omega) (by decide)), if_neg h3]
  by_cases h4 : w = 4
  · subst h4; rfl
  rw [if_neg (nI_neL 4 h4 (by omega) (by decide)), if_neg h4]
  by_cases h5 : w = 5
  · subst h5; rw [if_pos (show nI 5 = 5 from rfl), if_pos rfl]; exact ite_b2r _ (fun z => rI z f g)
  rw [if_neg (nI_neL 5 h5 (by omega) (by decide)), if_neg h5]
  by_cases h6 : w = 6
  · subst h6; rfl
  rw [if_neg (nI_neL 6 h6 (by omega) (by decide)), if_neg h6]
  by_cases h7 : w = 7
  · subst h7; rfl
  rw [if_neg (nI_neL 7 h7 (by omega) (by decide)), if_neg h7]
  by_cases h8 : w = 8
  · subst h8; rfl
  rw [if_neg (nI_neL 8 h8 (by omega) (by decide)), if_neg h8]
  by_cases h9 : w = 9
  · subst h9; rfl
  rw [if_neg (nI_neL 9 h9 (by omega) (by decide)), if_neg h9]
  exact ite_b2r _ (fun z => rI z f g)
theorem x10_isFresh (f g) {j : Nat} (hj : j ≤ 20) : s_X10_isFresh [.inr (19, 0), .inl (.int (nI j))] f g = rI (if ¬ f 19 0 7 < f 19 0 6 - f 33 0 j then 1 else 0) f g := by
  rw [e_X10_isFresh, g_X10_isFresh_0, bd_n (by omega) (by decide)]
  by_cases h : f 19 0 7 < f 19 0 6 - f 33 0 j
  · rw [if_pos h, if_neg (fun q => q h)]
  · rw [if_neg h, if_pos h]
theorem x10_indexFor (g) {E S f} {c : Nat} (fr : Nat → Bool) (hE : EW E) (hS : SW E S) (hX : NM E S f) (hc : c < 4) (hfr : ∀ j, 0 < j → j ≤ eNi E → (fr j = true ↔ ¬ f 19 0 7 < nI (sTm S) - f 33 0 j)) : s_X10_indexFor [.inr (19, 0), .inl (.int (nI c))] f g = rI (nI (lfi E S fr (f 45 0 c))) f g := by
  have h6 := hE.2.1
  have h20 := hE.2.2.1
  rw [e_X10_indexFor, g_X10_indexFor_0]
  obtain ⟨x', h1, i1, i2⟩ := ax_lpE (fun i (a : Int32) => ax_run P_X10_indexFor 4 [some (.inr (19, 0)), some (.inl (.int (nI c))), some (.inl (.int a)), some (.inl (.int (nI i))), none] [] f g 0 0) (fun _ x (y : Nat) => x = nI y ∧ y ≤ eNi E) (fun m a => if hs (f 45 0 c) (nI m) = true ∧ gud S m = true ∧ fr (sOwn S m) = true then max a (sOwn S m) else a) (eNm E) 0 0 ⟨rfl, Nat.zero_le _⟩ (by
    intro i x y hi hI
    obtain ⟨rfl, hy⟩ := hI
    obtain ⟨d1, d2, -⟩ := hX.2.2.2.2 i hi
    have ho := hS.1 i hi
    have bi : ∀ kk, ax_bd (nI i) 6 kk = kk i := fun kk => bd_n (by omega) (by decide) kk
    rw [g_X10_indexFor_4, hX.2.1.1, if_neg (nI_ge hi (sm31 (by omega))), bd_n hc (by decide), nI_1, x10_has, cali_r, ite_b2]
    simp only [bi]
    rw [d1, d2, ite_b2, x10_isFresh f g (by omega), cali_r, ite_b, d1, hX.2.2.1]
    by_cases c1 : hs (f 45 0 c) (nI i) = true
    · rw [if_pos c1]
      by_cases c2 : sOwn S i ≤ y
      · rw [if_pos (nI_le c2 (sm31 (by omega)))]
        refine ⟨_, rfl, ?_⟩
        split
        · rw [Nat.max_eq_left c2]; exact ⟨rfl, hy⟩
        · exact ⟨rfl, hy⟩
      · rw [if_neg (nI_ge (by omega) (sm31 (by omega)))]
        have hpos : 0 < sOwn S i := by omega
        cases hw : sWr S i with
        | true =>
          rw [if_pos rfl]
          refine ⟨_, rfl, ?_⟩
          rw [if_neg (fun q => by have := q.2.1; unfold gud at this; rw [hw] at this; simp at this)]
          exact ⟨rfl, hy⟩
        | false =>
          rw [if_neg (by decide)]
          have hg : gud S i = true := by unfold gud; rw [hw, decide_eq_true hpos]; rfl
          by_cases c3 : fr (sOwn S i) = true
          · rw [if_pos ((hfr _ hpos ho).mp c3)]
            refine ⟨_, rfl, ?_⟩
            rw [if_pos ⟨c1, hg, c3⟩, Nat.max_eq_right (by omega)]
            exact ⟨rfl, ho⟩
          · rw [if_neg (fun q => c3 ((hfr _ hpos ho).mpr q))]
            refine ⟨_, rfl, ?_⟩
            rw [if_neg (fun q => c3 q.2.2)]
            exact ⟨rfl, hy⟩
    · rw [if_neg c1]
      refine ⟨_, rfl, ?_⟩
      rw [if_neg (fun q => c1 q.1)]
      exact ⟨rfl, hy⟩)
  refine h1.trans ?_
  rw [g_X10_indexFor_4, hX.2.1.1, if_pos (nI_le (Nat.le_refl _) (sm31 (by omega))), i1]
  rfl
end AXX
