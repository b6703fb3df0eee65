/-! what the network answers, all mirrors -/
section AXS
theorem b2_d (c : Prop) [Decidable c] : b2 (decide c) = if c then 1 else 0 := by
  by_cases h : c
  · rw [if_pos h, decide_eq_true h]; rfl
  · rw [if_neg h, decide_eq_false h]; rfl
def cmp (E : Ev) (S : St) (m : Nat) : Bool := gud S m && decide (mis E S m (sOwn S m) = 0)
theorem x5_isComplete (g) {n E S f} {m : Nat} (hE : EW E) (hS : SW E S) (hX : NX n E S f) (hm : m < eNm E) : s_X5_isComplete [.inr (7, n), .inr (9, 6 * n + m)] f g = rI (b2 (cmp E S m)) f g := by
  obtain ⟨d1, d2, -⟩ := hX.2.2.2.2 m hm
  have ho := hS.1 m hm
  have h20 := hE.2.2.1
  rw [e_X5_isComplete, g_X5_isComplete_0, x4_hasGood f g _ d1 (by omega) d2, cali_r, ite_b2, d1, x5_missing g hE hX hm ho, cali_r]
  unfold cmp
  show (if gud S m = true then _ else _) = _
  cases gud S m
  · rfl
  · rw [if_pos rfl, Bool.true_and, b2_d]
    by_cases c : mis E S m (sOwn S m) = 0
    · rw [if_pos c, if_pos c]
    · rw [if_neg c, if_neg c]
theorem x5_completeMirrors (g) {n E S f} (hE : EW E) (hS : SW E S) (hX : NX n E S f) : s_X5_completeMirrors [.inr (7, n)] f g = rI (ax_sum (eNm E) (fun m => b2 (cmp E S m))) f g := by
  have hm6 := hE.2.1
  rw [e_X5_completeMirrors, g_X5_completeMirrors_0]
  refine (ax_lp (fun i a => ax_run P_X5_completeMirrors 4 [some (.inr (7, n)), some (.inl (.int a)), some (.inl (.int (nI i)))] [] f g 0 0) (fun i a => a + b2 (cmp E S i)) (eNm E) 0 (fun i hi => ?_)).trans ?_
  · show ax_run _ _ [_, _, some (.inl (.int (nI i)))] _ _ _ _ _ = _
    rw [g_X5_completeMirrors_4, hX.2.1.1, if_neg (nI_ge hi (sm31 (by omega))), bd_n (by omega) (by decide), x5_isComplete g hE hS hX hi, cali_r, nI_1, ite_b2]
    cases cmp E S i
    · show ax_run _ _ [_, some (.inl (.int _)), _] _ _ _ _ _ = ax_run _ _ [_, some (.inl (.int (_ + 0))), _] _ _ _ _ _
      rw [Int32.add_zero]
    · rfl
  · show ax_run _ _ [_, _, some (.inl (.int (nI (eNm E))))] _ _ _ _ _ = _
    rw [g_X5_completeMirrors_4, hX.2.1.1, if_pos (nI_le (Nat.le_refl _) (sm31 (by omega)))]
    rfl
theorem x5_fileCount (g) {n E S f} (hE : EW E) (hS : SW E S) (hX : NX n E S f) : s_X5_fileCount [.inr (7, n)] f g = rI (ax_sum (eNm E) (fun m => ax_sum 12 (fun p => bts (sFl S m p)))) f g := by
  have hm6 := hE.2.1
  rw [e_X5_fileCount, g_X5_fileCount_0]
  refine (ax_lp (fun i a => ax_run P_X5_fileCount 4 [some (.inr (7, n)), some (.inl (.int a)), some (.inl (.int (nI i)))] [] f g 0 0) (fun i a => a + ax_sum 12 (fun p => bts (sFl S i p))) (eNm E) 0 (fun i hi => ?_)).trans ?_
  · show ax_run _ _ [_, _, some (.inl (.int (nI i)))] _ _ _ _ _ = _
    rw [g_X5_fileCount_4, hX.2.1.1, if_neg (nI_ge hi (sm31 (by omega))), bd_n (by omega) (by decide), x4_fileCount g hS hX.2.2 hi, cali_r, nI_1]
  · show ax_run _ _ [_, _, some (.inl (.int (nI (eNm E))))] _ _ _ _ _ = _
    rw [g_X5_fileCount_4, hX.2.1.1, if_pos (nI_le (Nat.le_refl _) (sm31 (by omega)))]
    rfl
def hf (x v : Int32) : Bool := decide (¬ v < 1 ∧ ¬ 30 < v ∧ hs x v = true)
theorem x4_hasF (f g) (a : Nat) {p : Nat} (v : Int32) (hp : p < 12) : s_X4_hasFile [.inr (9, a), .inl (.int (nI p)), .inl (.int v)] f g = rI (b2 (hf (f 10 a p) v)) f g := by
  rw [x4_hasFile f g a v hp]
  unfold hf
  rw [b2_d]
/-- versions 1 to 30: the same as the bit -/
theorem hf_hs {x : Int32} {w : Nat} (hw : w ≤ 30) (hx : x &&& (-2147483647) = 0) : hf x (nI w) = hs x (nI w) := by
  unfold hf
  rcases Nat.eq_zero_or_pos w with h | h
  · subst h
    rw [decide_eq_false (fun q => q.1 (by decide +kernel))]
    have : hs x (nI 0) = false := by
      rw [hs_bt (by decide)]
      have h2 : bt (x &&& (-2147483647)) 0 = (bt x 0 && true) := by rw [b_and]; rfl
      rw [hx, Bool.and_true] at h2
      exact h2.symm
    exact this.symm
  · have a1 : ¬ nI w < 1 := fun q => by
      have := (nI_ltI (a := w) (b := 1) (sm31 (by omega)) (by decide)).mp q
      omega
    have a2 : ¬ 30 < nI w := fun q => by
      have := (nI_ltI (a := 30) (b := w) (by decide) (sm31 (by omega))).mp q
      omega
    cases hh : hs x (nI w)
    · exact decide_eq_false (fun q => by cases q.2.2)
    · exact decide_eq_true ⟨a1, a2, rfl⟩
theorem x5_mirrorsWith (g) {n E S f} {p : Nat} (v : Int32) (hE : EW E) (hX : NX n E S f) (hp : p < 12) : s_X5_mirrorsWith [.inr (7, n), .inl (.int (nI p)), .inl (.int v)] f g = rI (ax_sum (eNm E) (fun m => b2 (hf (sFl S m p) v))) f g := by
  have hm6 := hE.2.1
  rw [e_X5_mirrorsWith, g_X5_mirrorsWith_0]
  refine (ax_lp (fun i a => ax_run P_X5_mirrorsWith 5 [some (.inr (7, n)), some (.inl (.int (nI p))), some (.inl (.int v)), some (.inl (.int a)), some (.inl (.int (nI i)))] [] f g 0 0) (fun i a => a + b2 (hf (sFl S i p) v)) (eNm E) 0 (fun i hi => ?_)).trans ?_
  · show ax_run _ _ [_, _, _, _, some (.inl (.int (nI i)))] _ _ _ _ _ = _
    rw [g_X5_mirrorsWith_5, hX.2.1.1, if_neg (nI_ge hi (sm31 (by omega))), bd_n (by omega) (by decide), x4_hasF f g _ v hp, cali_r, nI_1, ite_b2, (hX.2.2.2.2 i hi).2.2 p hp]
    cases hf (sFl S i p) v
    · show ax_run _ _ [_, _, _, some (.inl (.int _)), _] _ _ _ _ _ = ax_run _ _ [_, _, _, some (.inl (.int (_ + 0))), _] _ _ _ _ _
      rw [Int32.add_zero]
    · rfl
  · show ax_run _ _ [_, _, _, _, some (.inl (.int (nI (eNm E))))] _ _ _ _ _ = _
    rw [g_X5_mirrorsWith_5, hX.2.1.1, if_pos (nI_le (Nat.le_refl _) (sm31 (by omega)))]
    rfl
/-- a mirror's property -/
def prp (E : Ev) (S : St) (m w : Nat) : Int32 :=
  if w = 0 then eCar E m else if w = 1 then nI (eItv E m) else if w = 2 then nI (eOfs E m) else if w = 3 then upsI (eUps E m) else if w = 4 then nI (sOwn S m) else if w = 5 then b2 (sWr S m) else if w = 6 then mis E S m (sOwn S m) else if w = 7 then ax_sum 12 (fun p => bts (sFl S m p)) else if w = 8 then nI (nxp (eItv E m) (eOfs E m) (sTm S)) else if w = 9 then nI (eNi E) - nI (sOwn S m) else b2 (cmp E S m)
theorem ite_b2r {α : Type} (c : Bool) (F : Int32 → α) : (if b2 c = 0 then F 0 else F 1) = F (b2 c) := by
  cases c
  · rfl
  · rw [if_neg (show ¬ b2 true = 0 from one_ne)]; rfl
theorem x5_property (g) {n E S f} {m w : Nat} (hE : EW E) (hS : SW E S) (hX : NX n E S f) (hm : m < eNm E) (hw : w < 11) : s_X5_propertyOf [.inr (7, n), .inl (.int (nI m)), .inl (.int (nI w))] f g = rI (prp E S m w) f g := by
  have hm6 := hE.2.1
  have h20 := hE.2.2.1
  have ho := hS.1 m hm
  obtain ⟨d1, d2, d3⟩ := hX.2.2.2.2 m hm
  obtain ⟨t1, t2, t3, t4, t5, t6⟩ := hX.2.1.2 m hm
  obtain ⟨w1, w2, w3, w4⟩ := hE.2.2.2.1 m hm
  rw [e_X5_propertyOf, g_X5_propertyOf_0, bd_n (by omega) (by decide), t1, t2, t3, t4, d1, d2, hX.1.2.1, hX.2.2.1, x5_missing g hE hX hm ho, cali_r, x4_fileCount g hS hX.2.2 hm, cali_r, x4_minutesToPull f g _ t2 t3 ⟨w1, w2⟩ w3 (by have := hS.2.2.2; omega), cali_r, x5_isComplete g hE hS hX hm, cali_r]
  unfold prp
  by_cases h0 : w = 0
  · subst h0; rfl
  rw [if_neg (nI_neL 0 h0 (by omega) (by decide)), if_neg h0]
  by_cases h1 : w = 1
  · subst h1; rfl
  rw [if_neg (nI_neL 1 h1 (by omega) (by decide)), if_neg h1]
  by_cases h2 : w = 2
  · subst h2; rfl
  rw [if_neg (nI_neL 2 h2 (by omega) (by decide)), if_neg h2]
  by_cases h3 : w = 3
  · subst h3; rfl
  rw [if_neg (nI_neL 3 h3 (by omega) (by decide)), if_neg h3]
  by_cases h4 : w = 4
  · subst h4; rfl
  rw [if_neg (nI_neL 4 h4 (by omega) (by decide)), if_neg h4]
  by_cases h5 : w = 5
  · subst h5; rw [if_pos (show nI 5 = 5 from rfl), if_pos rfl]; exact ite_b2r _ (fun z => rI z f g)
  rw [if_neg (nI_neL 5 h5 (by omega) (by decide)), if_neg h5]
  by_cases h6 : w = 6
  · subst h6; rfl
  rw [if_neg (nI_neL 6 h6 (by omega) (by decide)), if_neg h6]
  by_cases h7 : w = 7
  · subst h7; rfl
  rw [if_neg (nI_neL 7 h7 (by omega) (by decide)), if_neg h7]
  by_cases h8 : w = 8
  · subst h8; rfl
  rw [if_neg (nI_neL 8 h8 (by omega) (by decide)), if_neg h8]
  by_cases h9 : w = 9
  · subst h9; rfl
  rw [if_neg (nI_neL 9 h9 (by omega) (by decide)), if_neg h9]
  exact ite_b2r _ (fun z => rI z f g)
/-! freshness -/
def frs (v t : Int32) (rel : Nat → Int32) (j : Nat) : Bool := decide (¬ v < t - rel j)
def lfi (E : Ev) (S : St) (fr : Nat → Bool) (set : Int32) : Nat := ax_it (eNm E) (fun m a => if hs set (nI m) = true ∧ gud S m = true ∧ fr (sOwn S m) = true then max a (sOwn S m) else a) 0
theorem J9_max (f g) {a b : Nat} (ha : a ≤ 1000) (hb : b ≤ 1000) : s_J9_max [.inl (.int (nI a)), .inl (.int (nI b))] f g = rI (nI (max a b)) f g := by
  rw [e_J9_max, g_J9_max_0]
  by_cases h : a < b
  · rw [if_pos (nI_lt h (sm31 hb)), Nat.max_eq_right (by omega)]
  · rw [if_neg (nI_nlt (by omega) (sm31 ha)), Nat.max_eq_left (by omega)]
theorem lfi_le {E S} (hS : SW E S) (fr set) : lfi E S fr set ≤ eNi E := by
  refine ax_it_inv (fun _ a => a ≤ eNi E) _ (eNm E) 0 (Nat.zero_le _) (fun i a hi ha => ?_) (eNm E) (Nat.le_refl _)
  split
  · have := hS.1 i hi; exact Nat.max_le.mpr ⟨ha, this⟩
  · exact ha
theorem x5_latest (g) {n E S f} (set : Int32) (fr : Nat → Bool) (hE : EW E) (hS : SW E S) (hX : NX n E S f) (hfr : ∀ j, 0 < j → j ≤ eNi E → (fr j = true ↔ ¬ f 1 0 5 < nI (sTm S) - f 5 (j - 1) 2)) : s_X5_latestFreshIndex [.inr (7, n), .inl (.int set)] f g = rI (nI (lfi E S fr set)) f g := by
  have hm6 := hE.2.1
  have h20 := hE.2.2.1
  rw [e_X5_latestFreshIndex, g_X5_latestFreshIndex_0]
  obtain ⟨x', h1, i1, i2⟩ := ax_lpE (fun i (a : Int32) => ax_run P_X5_latestFreshIndex 4 [some (.inr (7, n)), some (.inl (.int set)), some (.inl (.int a)), some (.inl (.int (nI i))), none] [] f g 0 0) (fun _ x (y : Nat) => x = nI y ∧ y ≤ eNi E) (fun m a => if hs set (nI m) = true ∧ gud S m = true ∧ fr (sOwn S m) = true then max a (sOwn S m) else a) (eNm E) 0 0 ⟨rfl, Nat.zero_le _⟩ (by
    intro i x y hi hI
    obtain ⟨rfl, hy⟩ := hI
    obtain ⟨d1, d2, -⟩ := hX.2.2.2.2 i hi
    have ho := hS.1 i hi
    rw [g_X5_latestFreshIndex_4, hX.2.1.1, if_neg (nI_ge hi (sm31 (by omega))), bd_n (by omega) (by decide), nI_1, x4_hasGood f g _ d1 (by omega) d2, cali_r, ite_b2, d1, hX.2.2.1, x0_isFresh f g _ hX.1.2.1 h20 ho, cali_r, ite_b, d1, J9_max f g (by omega) (by omega), cali_r]
    by_cases c1 : ((set >>> (nI i &&& 31)) &&& 1) = 0
    · rw [if_pos c1]
      refine ⟨_, rfl, ?_⟩
      rw [if_neg (fun q => by rw [hs_f.mpr c1] at q; cases q.1)]
      exact ⟨rfl, hy⟩
    · rw [if_neg c1]
      by_cases c2 : gud S i = true
      · rw [if_pos (show (decide (0 < sOwn S i) && !sWr S i) = true from c2)]
        have hpos : 0 < sOwn S i := by
          unfold gud at c2
          simp only [Bool.and_eq_true, decide_eq_true_eq] at c2
          exact c2.1
        by_cases c3 : fr (sOwn S i) = true
        · rw [if_pos ⟨by omega, (hfr _ hpos ho).mp c3⟩]
          refine ⟨_, rfl, ?_⟩
          rw [if_pos ⟨hs_t.mpr c1, c2, c3⟩]
          exact ⟨rfl, Nat.max_le.mpr ⟨hy, ho⟩⟩
        · rw [if_neg (fun q => c3 ((hfr _ hpos ho).mpr q.2))]
          refine ⟨_, rfl, ?_⟩
          rw [if_neg (fun q => c3 q.2.2)]
          exact ⟨rfl, hy⟩
      · rw [if_neg (show ¬ (decide (0 < sOwn S i) && !sWr S i) = true from c2)]
        refine ⟨_, rfl, ?_⟩
        rw [if_neg (fun q => c2 q.2.1)]
        exact ⟨rfl, hy⟩)
  refine h1.trans ?_
  rw [g_X5_latestFreshIndex_4, hX.2.1.1, if_pos (nI_le (Nat.le_refl _) (sm31 (by omega))), i1]
  rfl
/-- those of the wanted that a mirror has -/
def fnd (E : Ev) (S : St) (m j : Nat) (w : Int32) : Int32 := ax_it (eNp E) (fun i a => if hs w (nI i) = true ∧ hf (sFl S m i) (eTol E j i) = true then a ||| ((1 : Int32) <<< (nI i &&& 31)) else a) 0
theorem x5_foundAt (g) {n E S f} {m j : Nat} (w : Int32) (hE : EW E) (hX : NX n E S f) (hm : m < eNm E) (hj : j ≤ eNi E) : s_X5_foundAt [.inr (7, n), .inl (.int (nI m)), .inl (.int (nI j)), .inl (.int w)] f g = rI (fnd E S m j w) f g := by
  have hm6 := hE.2.1
  have hp12 := hE.1
  rw [e_X5_foundAt, g_X5_foundAt_0]
  refine (ax_lp (fun i a => ax_run P_X5_foundAt 6 [some (.inr (7, n)), some (.inl (.int (nI m))), some (.inl (.int (nI j))), some (.inl (.int w)), some (.inl (.int a)), some (.inl (.int (nI i)))] [] f g 0 0) (fun i a => if hs w (nI i) = true ∧ hf (sFl S m i) (eTol E j i) = true then a ||| ((1 : Int32) <<< (nI i &&& 31)) else a) (eNp E) 0 (fun i hi => ?_)).trans ?_
  · show ax_run _ _ [_, _, _, _, _, some (.inl (.int (nI i)))] _ _ _ _ _ = _
    rw [g_X5_foundAt_6, hX.1.1, if_neg (nI_ge hi (sm31 (by omega))), bd_n (by omega) (by decide), nI_1, x0_versionIn f g hX.1.2.1 hE.2.2.1 hj (by omega), cali_r, x4_hasF f g _ _ (by omega), cali_r, ite_b2, hX.1.2.2.2 j i hj (by omega), (hX.2.2.2.2 m hm).2.2 i (by omega)]
    by_cases c : ((w >>> (nI i &&& 31)) &&& 1) = 0
    · rw [if_pos c, if_neg (fun q => by rw [hs_f.mpr c] at q; cases q.1)]
    · rw [if_neg c]
      by_cases c2 : hf (sFl S m i) (eTol E j i) = true
      · rw [if_pos c2, if_pos ⟨hs_t.mpr c, c2⟩]
      · rw [if_neg c2, if_neg (fun q => c2 q.2)]
  · show ax_run _ _ [_, _, _, _, _, some (.inl (.int (nI (eNp E))))] _ _ _ _ _ = _
    rw [g_X5_foundAt_6, hX.1.1, if_pos (nI_le (Nat.le_refl _) (sm31 (by omega)))]
    rfl
end AXS
