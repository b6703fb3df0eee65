/-! a pull, a minute -/
section AXP
theorem ax_it_pt (n : Nat) (G : Nat → Int32 → Int32) (F0 : Nat → Int32) : ax_it n (fun i F => upd F i (G i (F i))) F0 = fun p => if p < n then G p (F0 p) else F0 p := by
  induction n with
  | zero => funext p; simp [ax_it_0]
  | succ n ih =>
    rw [ax_it_s, ih]
    funext p
    simp only [upd_ap]
    by_cases h : p = n
    · subst h; simp
    · by_cases h2 : p < n
      · have : p < n + 1 := by omega
        simp [h, h2, this]
      · have : ¬ p < n + 1 := by omega
        simp [h, h2, this]
theorem sh0 : ((1 : Int32) <<< ((0 : Int32) &&& 31)) = 1 := by decide +kernel
theorem mk_1 {x : Int32} (h : x &&& (-2147483647) = 0) : x &&& 1 = 0 := by
  have h1 : x &&& 1 = (x &&& (-2147483647)) &&& 1 := by
    rw [Int32.and_assoc]
    rfl
  rw [h1, h]
  decide +kernel
theorem drp_c {E : Ev} (hE : EW E) (x : Int32) (j p : Nat) (hx : x &&& 1 = 0) : x &&& ((1 : Int32) <<< (eTol E j p &&& 31)) = drp x (eTol E j p) := by
  unfold drp
  by_cases h : 0 < eTol E j p
  · rw [if_pos h]
  · rw [if_neg h]
    obtain ⟨w, hw, e⟩ := hE.2.2.2.2 j p
    have : w = 0 := by
      rcases Nat.eq_zero_or_pos w with q | q
      · exact q
      · exact absurd (by rw [e]; exact nI_lt (a := 0) q (sm31 (by omega))) h
    subst this
    rw [e]
    show x &&& ((1 : Int32) <<< ((0 : Int32) &&& 31)) = 0
    rw [sh0, hx]
theorem x5_dropOld (g) {n E S f} {m : Nat} (hE : EW E) (hS : SW E S) (hX : NX n E S f) (hm : m < eNm E) : ∃ f', s_X5_dropOldFiles [.inr (7, n), .inr (9, 6 * n + m)] f g = rV f' g ∧ NX n E (sDrp E S m (sOwn S m)) f' ∧ Fc n m f f' := by
  obtain ⟨hA, hT, hD⟩ := hX
  have hp12 := hE.1
  have hm6 := hE.2.1
  have hj := hS.1 m hm
  obtain ⟨d1, d2, d3⟩ := hD.2.2 m hm
  rw [e_X5_dropOldFiles, g_X5_dropOldFiles_0]
  obtain ⟨x', h1, i2, i3⟩ := ax_lpE (fun i (x : ax_F) => ax_run P_X5_dropOldFiles 2 [some (.inr (7, n)), some (.inr (9, 6 * n + m)), some (.inl (.int (nI i)))] [] x g 0 0) (fun i x (y : Nat → Int32) => (∀ p, p < 12 → x 10 (6 * n + m) p = y p ∧ (i ≤ p → y p = sFl S m p)) ∧ ∀ k i' j', ¬ (k = 10 ∧ i' = 6 * n + m) → x k i' j' = f k i' j') (fun i F => upd F i (drp (F i) (eTol E (sOwn S m) i))) (eNp E) f (sFl S m) ⟨fun p hp => ⟨d3 p hp, fun _ => rfl⟩, fun _ _ _ _ => rfl⟩ (by
    intro i h F hi hI
    obtain ⟨i2, i3⟩ := hI
    have hfr : Fr n f h := Fc.fr (m := m) (by omega) (fun k i' j' q1 _ => i3 k i' j' q1)
    have hA' := hA.fr hfr
    rw [g_X5_dropOldFiles_2, hA'.1, if_neg (nI_ge hi (sm31 (by omega))), i3 _ _ _ (by simp), d1, x0_versionIn h g hA'.2.1 hE.2.2.1 hj (by omega), cali_r, hA'.2.2.2 _ i hj (by omega), x4_dropOther h g _ _ (by omega), calv_r, nI_1]
    refine ⟨_, rfl, fun p hp => ?_, fun k i' j' q => ?_⟩
    · simp only [ax_up_ap, upd_ap]
      by_cases hpi : p = i
      · subst hpi
        have e1 := (i2 p hp).1
        have e2 := (i2 p hp).2 (Nat.le_refl _)
        refine ⟨?_, fun q => absurd q (by omega)⟩
        simp only [and_self, if_true, e1]
        exact drp_c hE _ _ _ (by rw [e2]; exact mk_1 (hS.2.1 m hm p))
      · refine ⟨by simp [hpi, (i2 p hp).1], fun q => ?_⟩
        rw [if_neg hpi]
        exact (i2 p hp).2 (by omega)
    · simp only [ax_up_ap]
      rw [if_neg (fun z => q ⟨z.1, z.2.1⟩)]
      exact i3 k i' j' q)
  have hfc : Fc n m f x' := fun k i' j' q1 _ => i3 k i' j' q1
  have hfr := Fc.fr (show m < 6 by omega) hfc
  refine ⟨x', h1.trans ?_, ⟨hA.fr hfr, hT.fr hfr, by rw [i3 _ _ _ (by simp)]; exact hD.1, by rw [i3 _ _ _ (by simp)]; exact hD.2.1, fun m' hm' => ?_⟩, hfc⟩
  · rw [g_X5_dropOldFiles_2, (hA.fr hfr).1, if_pos (nI_le (Nat.le_refl _) (sm31 (by omega)))]
  · obtain ⟨c1, c2, c3⟩ := hD.2.2 m' hm'
    refine ⟨by rw [i3 _ _ _ (by simp)]; exact c1, by rw [i3 _ _ _ (by simp)]; exact c2, fun p hp => ?_⟩
    show x' 10 (6 * n + m') p = up1 (sFl S) m _ m' p
    by_cases hmm : m' = m
    · subst hmm
      rw [up1_s, (i2 p hp).1]
      exact congrFun (ax_it_pt (eNp E) (fun p x => drp x (eTol E (sOwn S m') p)) (sFl S m')) p
    · rw [up1_n _ _ hmm, ← c3 p hp]
      exact i3 _ _ _ (by simp; omega)
/-! what stays well made -/
theorem offr_le {E S} {m : Nat} (hE : EW E) (hS : SW E S) (hm : m < eNm E) : offr E S m ≤ eNi E := by
  unfold offr
  cases e : eUps E m with
  | none => exact Nat.le_refl _
  | some u =>
    have hu := (hE.2.2.2.1 m hm).2.2.2 u e
    show (if gud S u = true then sOwn S u else 0) ≤ eNi E
    by_cases c : gud S u = true
    · rw [if_pos c]; exact hS.1 u (by omega)
    · rw [if_neg c]; exact Nat.zero_le _
theorem bit1 : ∀ w : Nat, w ≤ 30 → 1 ≤ w → ((1 : Int32) <<< (nI w &&& 31)) &&& (-2147483647) = 0 := by decide +kernel
theorem or_and1 (x y : Int32) {k : Int32} (hx : x &&& k = 0) (hy : y &&& k = 0) : (x ||| y) &&& k = 0 := by
  have h : (x ||| y) &&& k = (x &&& k) ||| (y &&& k) := by
    apply Int32.toBitVec_inj.mp
    simp only [Int32.toBitVec_and, Int32.toBitVec_or]
    ext i hi
    simp only [BitVec.getElem_and, BitVec.getElem_or]
    cases x.toBitVec[i] <;> cases y.toBitVec[i] <;> simp
  rw [h, hx, hy]
  decide +kernel
theorem and_and1 (x y : Int32) {k : Int32} (hx : x &&& k = 0) : (x &&& y) &&& k = 0 := by
  have h : (x &&& y) &&& k = (x &&& k) &&& y := by
    apply Int32.toBitVec_inj.mp
    simp only [Int32.toBitVec_and]
    ext i hi
    simp only [BitVec.getElem_and]
    cases x.toBitVec[i] <;> cases y.toBitVec[i] <;> simp
  rw [h, hx]
  apply Int32.toBitVec_inj.mp
  simp
theorem cpy_inv {E S} {m : Nat} (hE : EW E) (hS : SW E S) (hm : m < eNm E) (j : Nat) : (∀ p, (cpy E S m j).1 p &&& (-2147483647) = 0) ∧ ∀ p, eNp E ≤ p → (cpy E S m j).1 p = sFl S m p := by
  have h := ax_it_inv (fun _ (a : (Nat → Int32) × Int32 × Int32) => (∀ p, a.1 p &&& (-2147483647) = 0) ∧ ∀ p, eNp E ≤ p → a.1 p = sFl S m p) (cp1 E S m j) (eNp E) (sFl S m, eCap E m, 0) ⟨hS.2.1 m hm, fun _ _ => rfl⟩ (by
    intro i a hi ha
    unfold cp1
    split
    · rename_i hc
      refine ⟨fun p => ?_, fun p hp => ?_⟩
      · dsimp only
        rw [upd_ap]
        split
        · obtain ⟨w, hw, e⟩ := hE.2.2.2.2 j i
          have hv := hc.2.2
          unfold lk at hv
          simp only [Bool.and_eq_true, decide_eq_true_eq] at hv
          refine or_and1 _ _ (ha.1 i) ?_
          rw [e]
          refine bit1 w hw ?_
          rcases Nat.eq_zero_or_pos w with q | q
          · subst q
            rw [e] at hv
            exact absurd hv.1 (by decide +kernel)
          · exact q
        · exact ha.1 p
      · dsimp only
        rw [upd_ap, if_neg (by omega)]
        exact ha.2 p hp
    · exact ha)
  exact h (eNp E) (Nat.le_refl _)
theorem SW_cpd {E S} {m j : Nat} (hE : EW E) (hS : SW E S) (hm : m < eNm E) : SW E (sCpd E S m j) := by
  obtain ⟨c1, c2⟩ := cpy_inv hE hS hm j
  refine ⟨hS.1, fun m' hm' p => ?_, fun m' hm' p hp => ?_, hS.2.2.2⟩
  · show up1 (sFl S) m _ m' p &&& (-2147483647) = 0
    by_cases h : m' = m
    · subst h; rw [up1_s]; exact c1 p
    · rw [up1_n _ _ h]; exact hS.2.1 m' hm' p
  · show up1 (sFl S) m _ m' p = 0
    by_cases h : m' = m
    · subst h; rw [up1_s, c2 p hp]; exact hS.2.2.1 m' hm' p hp
    · rw [up1_n _ _ h]; exact hS.2.2.1 m' hm' p hp
theorem SW_tak {E S} {m j : Nat} (hS : SW E S) (hj : j ≤ eNi E) : SW E (sTak S m j) := by
  refine ⟨fun m' hm' => ?_, hS.2.1, hS.2.2.1, hS.2.2.2⟩
  show up1 (sOwn S) m j m' ≤ _
  by_cases h : m' = m
  · subst h; rw [up1_s]; exact hj
  · rw [up1_n _ _ h]; exact hS.1 m' hm'
theorem SW_drp {E S} {m j : Nat} (hS : SW E S) : SW E (sDrp E S m j) := by
  refine ⟨hS.1, fun m' hm' p => ?_, fun m' hm' p hp => ?_, hS.2.2.2⟩
  · show up1 (sFl S) m _ m' p &&& (-2147483647) = 0
    by_cases h : m' = m
    · subst h
      rw [up1_s]
      split
      · unfold drp
        split
        · exact and_and1 _ _ (hS.2.1 m' hm' p)
        · decide +kernel
      · exact hS.2.1 m' hm' p
    · rw [up1_n _ _ h]; exact hS.2.1 m' hm' p
  · show up1 (sFl S) m _ m' p = 0
    by_cases h : m' = m
    · subst h
      rw [up1_s, if_neg (by omega)]
      exact hS.2.2.1 m' hm' p hp
    · rw [up1_n _ _ h]; exact hS.2.2.1 m' hm' p hp
theorem SW_pul {E S} {m : Nat} (hE : EW E) (hS : SW E S) (hm : m < eNm E) : SW E (pul E S m) := by
  unfold pul
  split
  · exact hS
  · split
    · split
      · exact SW_tak (SW_cpd hE hS hm) (offr_le hE hS hm)
      · exact SW_drp (SW_tak (SW_cpd hE hS hm) (offr_le hE hS hm))
    · exact SW_cpd hE hS hm
theorem pul_tm (E S m) : sTm (pul E S m) = sTm S := by
  unfold pul
  split
  · rfl
  · split
    · split <;> rfl
    · rfl
end AXP
