/-! the reference: have, reason, fewest -/
section AXY
theorem b2_b1 (a b : Bool) : (if b2 a = 0 then (0 : Int32) else b2 b) = b2 (a && b) := by
  cases a
  · rfl
  · rw [if_neg (show ¬ b2 true = 0 from one_ne)]; rfl
def thr (E : Ev) (S : St) (set : Int32) (p : Nat) : Int32 := ax_it (eNm E) (fun m a => if hs set (nI m) = true then a ||| sFl S m p else a) 0
def hav (E : Ev) (S : St) (set w : Int32) (j : Nat) : Bool := ax_it (eNp E) (fun p a => a && (!hs w (nI p) || hs (thr E S set p) (eTol E j p))) true
theorem x10_have (g) {E S f} {j : Nat} (set w : Int32) (hE : EW E) (hX : NM E S f) (hj : j ≤ eNi E) : s_X10_have [.inr (19, 0), .inl (.int set), .inl (.int w), .inl (.int (nI j))] f g = rI (b2 (hav E S set w j)) f g := by
  have h12 := hE.1
  have h6 := hE.2.1
  rw [e_X10_have, g_X10_have_0]
  have inner : ∀ (a : Bool) (i : Nat), i < eNp E → ax_run P_X10_have 21 [some (.inr (19, 0)), some (.inl (.int set)), some (.inl (.int w)), some (.inl (.int (nI j))), some (.inl (.int (b2 a))), some (.inl (.int (nI i))), some (.inl (.int 0)), some (.inl (.int 0))] [] f g 0 0 = ax_run P_X10_have 6 [some (.inr (19, 0)), some (.inl (.int set)), some (.inl (.int w)), some (.inl (.int (nI j))), some (.inl (.int (b2 (a && (!hs w (nI i) || hs (thr E S set i) (eTol E j i)))))), some (.inl (.int (nI (i + 1)))), none, none] [] f g 0 0 := by
    intro a i hi
    refine (ax_lp (fun m x => ax_run P_X10_have 21 [some (.inr (19, 0)), some (.inl (.int set)), some (.inl (.int w)), some (.inl (.int (nI j))), some (.inl (.int (b2 a))), some (.inl (.int (nI i))), some (.inl (.int x)), some (.inl (.int (nI m)))] [] f g 0 0) (fun m a => if hs set (nI m) = true then a ||| sFl S m i else a) (eNm E) 0 (fun m hm => ?_)).trans ?_
    · show ax_run _ _ [_, _, _, _, _, _, _, some (.inl (.int (nI m)))] _ _ _ _ _ = _
      rw [g_X10_have_21, hX.2.1.1, if_neg (nI_ge hm (sm31 (by omega))), x10_has, cali_r, ite_b2, ix12, bd_n (by omega) (by decide), nI_1, (hX.2.2.2.2 m hm).2.2 i (by omega), Int32.or_zero]
      by_cases c : hs set (nI m) = true
      · rw [if_pos c, if_pos c]
      · rw [if_neg c, if_neg c]
    · show ax_run _ _ [_, _, _, _, _, _, some (.inl (.int (thr E S set i))), some (.inl (.int (nI (eNm E))))] _ _ _ _ _ = _
      rw [g_X10_have_21, hX.2.1.1, if_pos (nI_le (Nat.le_refl _) (sm31 (by omega))), ite_b2, x10_has, cali_r, ite_b2, x10_toldBy g hE hX.1 hj (by omega), cali_r, x10_has, cali_r, ite_b2, nI_1]
      cases a
      · rfl
      · cases hs w (nI i)
        · rfl
        · cases hs (thr E S set i) (eTol E j i)
          · rfl
          · rfl
  refine (ax_lp (fun i (a : Bool) => ax_run P_X10_have 6 [some (.inr (19, 0)), some (.inl (.int set)), some (.inl (.int w)), some (.inl (.int (nI j))), some (.inl (.int (b2 a))), some (.inl (.int (nI i))), none, none] [] f g 0 0) (fun p a => a && (!hs w (nI p) || hs (thr E S set p) (eTol E j p))) (eNp E) true (fun i hi => ?_)).trans ?_
  · show ax_run _ _ [_, _, _, _, _, some (.inl (.int (nI i))), _, _] _ _ _ _ _ = _
    rw [g_X10_have_6, hX.1.1, if_neg (nI_ge hi (sm31 (by omega))), inner _ i hi]
  · show ax_run _ _ [_, _, _, _, some (.inl (.int (b2 (hav E S set w j)))), some (.inl (.int (nI (eNp E)))), _, _] _ _ _ _ _ = _
    rw [g_X10_have_6, hX.1.1, if_pos (nI_le (Nat.le_refl _) (sm31 (by omega))), bb_of (b2_01 _)]
def tldA (E : Ev) (w : Int32) (j : Nat) : Bool := ax_it (eNp E) (fun p a => a && (!hs w (nI p) || decide (0 < eTol E j p))) true
/-- why an install fails, in the reference -/
def rsM (E : Ev) (S : St) (uses lat : Int32) (j : Nat) (w : Int32) : Nat := if j = 0 then 1 else if ¬ lat ≤ nI j then 2 else if tldA E w j = false then 3 else if hav E S uses w j = true then 0 else 4
theorem x10_reason20 (g) {E S f} {c j : Nat} (x2 w : Int32) (hE : EW E) (hX : NM E S f) (hc : c < 4) (hj : j ≤ eNi E) : ax_run P_X10_reason 20 [some (.inr (19, 0)), some (.inl (.int (nI c))), some (.inl (.int x2)), some (.inl (.int (nI j))), some (.inl (.int w)), some (.inl (.int 1)), some (.inl (.int 0))] [] f g 0 0 = rI (nI (rsM E S (f 45 0 c) (f 46 0 c) j w)) f g := by
  have h12 := hE.1
  have h20 := hE.2.2.1
  unfold rsM
  by_cases h0 : j = 0
  · rw [if_pos h0, h0, g_X10_reason_20, if_pos (show nI 0 = 0 from rfl), if_pos (show nI 0 ≤ 0 by decide +kernel)]
    by_cases d : f 19 0 2 ≤ 0
    · rw [if_pos d]; rfl
    · rw [if_neg d]; rfl
  rw [if_neg h0]
  refine (ax_lp (fun i (a : Bool) => ax_run P_X10_reason 20 [some (.inr (19, 0)), some (.inl (.int (nI c))), some (.inl (.int x2)), some (.inl (.int (nI j))), some (.inl (.int w)), some (.inl (.int (b2 a))), some (.inl (.int (nI i)))] [] f g 0 0) (fun p a => a && (!hs w (nI p) || decide (0 < eTol E j p))) (eNp E) true (fun i hi => ?_)).trans ?_
  · show ax_run _ _ [_, _, _, _, _, _, some (.inl (.int (nI i)))] _ _ _ _ _ = _
    rw [g_X10_reason_20, hX.1.1, if_neg (nI_ge hi (sm31 (by omega))), if_neg (nI_nle (by omega) (sm31 (by omega))), ite_b2, x10_has, cali_r, ite_b2, x10_toldBy g hE hX.1 hj (by omega), cali_r, nI_1]
    generalize ax_it i _ true = a
    cases a
    · rfl
    · cases hs w (nI i)
      · rfl
      · by_cases q : eTol E j i ≤ 0
        · rw [if_pos rfl, if_pos rfl, if_pos q, decide_eq_false (by rw [i_lt]; rw [i_le] at q; omega)]
          rfl
        · rw [if_pos rfl, if_pos rfl, if_neg q, decide_eq_true (by rw [i_lt]; rw [i_le] at q; omega)]
          rfl
  · show ax_run _ _ [_, _, _, _, _, some (.inl (.int (b2 (tldA E w j)))), some (.inl (.int (nI (eNp E))))] _ _ _ _ _ = _
    have bc : ∀ kk, ax_bd (nI c) 4 kk = kk c := fun kk => bd_n hc (by decide) kk
    rw [g_X10_reason_20, hX.1.1, if_pos (nI_le (Nat.le_refl _) (sm31 (by omega))), if_neg (nI_ne0 (by omega) (sm31 (by omega)))]
    simp only [bc]
    rw [ite_b2, x10_have g _ w hE hX hj, cali_r, ite_b2]
    by_cases c1 : f 46 0 c ≤ nI j
    · rw [if_pos c1, if_neg (show ¬ ¬ f 46 0 c ≤ nI j from fun q => q c1)]
      cases tldA E w j
      · rfl
      · cases hav E S (f 45 0 c) w j
        · rfl
        · rfl
    · rw [if_neg c1, if_pos c1]
      rfl
/-- what is wanted, in the reference -/
def mcl (f : ax_F) (np : Nat) (set : Int32) : Int32 := ax_it np (fun i a => if hs a (nI (np - 1 - i)) = true then a ||| f 31 0 (np - 1 - i) else a) set
theorem x10_closure (f g) {np : Nat} (set : Int32) (hn : f 19 0 2 = nI np) (h12 : np ≤ 12) : s_X10_closure [.inr (19, 0), .inl (.int set)] f g = rI (mcl f np set) f g := by
  rw [e_X10_closure, g_X10_closure_0, hn]
  refine (ax_lp (fun i a => ax_run P_X10_closure 9 [some (.inr (19, 0)), some (.inl (.int set)), some (.inl (.int a)), some (.inl (.int (nI (np - i) - 1)))] [] f g 0 0) (fun i a => if hs a (nI (np - 1 - i)) = true then a ||| f 31 0 (np - 1 - i) else a) np set (fun i hi => ?_)).trans ?_
  · show ax_run _ _ [_, _, _, some (.inl (.int (nI (np - i) - 1)))] _ _ _ _ _ = _
    rw [nI_sub1 (by omega), show np - i - 1 = np - 1 - i from by omega, g_X10_closure_9, if_neg (nI_pos (sm31 (by omega))), x10_has, cali_r, ite_b2, bd_n (by omega) (by decide), Int32.or_zero]
    have e : nI (np - 1 - i) + (-1) = nI (np - (i + 1)) - 1 := by
      rw [show np - 1 - i = np - (i + 1) from by omega, Int32.sub_eq_add_neg]
    rw [e]
    generalize ax_it i _ set = a
    by_cases c : hs a (nI (np - 1 - i)) = true
    · rw [if_pos c, if_pos c]
    · rw [if_neg c, if_neg c]
  · show ax_run _ _ [_, _, _, some (.inl (.int (nI (np - np) - 1)))] _ _ _ _ _ = _
    rw [show np - np = 0 from by omega, g_X10_closure_9, if_pos (by decide +kernel)]
    rfl
theorem x10_installedSet (f g) {np c : Nat} (hn : f 19 0 2 = nI np) (h12 : np ≤ 12) (hc : c < 4) : s_X10_installedSet [.inr (19, 0), .inl (.int (nI c))] f g = rI (ins np (fun p => f 47 0 (12 * c + p))) f g := by
  rw [e_X10_installedSet, g_X10_installedSet_0]
  refine (ax_lp (fun i a => ax_run P_X10_installedSet 4 [some (.inr (19, 0)), some (.inl (.int (nI c))), some (.inl (.int a)), some (.inl (.int (nI i)))] [] f g 0 0) (fun i a => if f 47 0 (12 * c + i) ≤ 0 then a else a ||| ((1 : Int32) <<< (nI i &&& 31))) np 0 (fun i hi => ?_)).trans ?_
  · show ax_run _ _ [_, _, _, some (.inl (.int (nI i)))] _ _ _ _ _ = _
    rw [g_X10_installedSet_4, hn, if_neg (nI_ge hi (sm31 (by omega))), ix12, bd_n (by omega) (by decide), nI_1, Int32.or_zero]
    by_cases q : f 47 0 (12 * c + i) ≤ 0
    · rw [if_pos q, if_pos q]
    · rw [if_neg q, if_neg q]
  · show ax_run _ _ [_, _, _, some (.inl (.int (nI np)))] _ _ _ _ _ = _
    rw [g_X10_installedSet_4, hn, if_pos (nI_le (Nat.le_refl _) (sm31 (by omega)))]
    rfl
theorem x10_wantedBy (f g) {np c : Nat} (set : Int32) (hn : f 19 0 2 = nI np) (h12 : np ≤ 12) (hc : c < 4) : s_X10_wantedBy [.inr (19, 0), .inl (.int (nI c)), .inl (.int set)] f g = rI (mcl f np (set ||| ins np (fun p => f 47 0 (12 * c + p)))) f g := by
  rw [e_X10_wantedBy, g_X10_wantedBy_0, x10_installedSet f g hn h12 hc, cali_r, x10_closure f g _ hn h12, cali_r]
theorem x10_reason (g) {E S f} {c j : Nat} {w : Int32} (pk : Int32) (fr : Nat → Bool) (hE : EW E) (hS : SW E S) (hX : NM E S f) (hc : c < 4) (hfr : ∀ j, 0 < j → j ≤ eNi E → (fr j = true ↔ ¬ f 19 0 7 < nI (sTm S) - f 33 0 j)) (hj : j = lfi E S fr (f 45 0 c)) (hw : w = mcl f (eNp E) (pk ||| ins (eNp E) (fun p => f 47 0 (12 * c + p)))) : s_X10_reason [.inr (19, 0), .inl (.int (nI c)), .inl (.int pk)] f g = rI (nI (rsM E S (f 45 0 c) (f 46 0 c) j w)) f g := by
  rw [e_X10_reason, g_X10_reason_0, x10_indexFor g fr hE hS hX hc hfr, cali_r, x10_wantedBy f g pk hX.1.1 hE.1 hc, cali_r, ← hj, ← hw]
  exact x10_reason20 g pk w hE hX hc (by rw [hj]; exact lfi_le hS _ _)
theorem x10_changing (g) {E S f} {c j : Nat} (w : Int32) (hE : EW E) (hX : NM E S f) (hc : c < 4) (hj : j ≤ eNi E) : s_X10_changing [.inr (19, 0), .inl (.int (nI c)), .inl (.int w), .inl (.int (nI j))] f g = rI (ax_sum (eNp E) (fun p => if hs w (nI p) = true ∧ ¬ f 47 0 (12 * c + p) = eTol E j p then eSz E p else 0)) f g := by
  have h12 := hE.1
  rw [e_X10_changing, g_X10_changing_0]
  refine (ax_lp (fun i a => ax_run P_X10_changing 6 [some (.inr (19, 0)), some (.inl (.int (nI c))), some (.inl (.int w)), some (.inl (.int (nI j))), some (.inl (.int a)), some (.inl (.int (nI i)))] [] f g 0 0) (fun p a => a + (if hs w (nI p) = true ∧ ¬ f 47 0 (12 * c + p) = eTol E j p then eSz E p else 0)) (eNp E) 0 (fun i hi => ?_)).trans ?_
  · show ax_run _ _ [_, _, _, _, _, some (.inl (.int (nI i)))] _ _ _ _ _ = _
    rw [g_X10_changing_6, hX.1.1, if_neg (nI_ge hi (sm31 (by omega))), x10_has, cali_r, ite_b2, ix12, bd_n (by omega) (by decide), x10_toldBy g hE hX.1 hj (by omega), cali_r, bd_n (by omega) (by decide), (hX.1.2.2.1 i hi).2, nI_1]
    by_cases c1 : hs w (nI i) = true
    · rw [if_pos c1]
      by_cases c2 : f 47 0 (12 * c + i) = eTol E j i
      · rw [if_pos c2, if_neg (fun q => q.2 c2)]
      · rw [if_neg c2, if_pos ⟨c1, c2⟩]
    · rw [if_neg c1, if_neg (fun q => c1 q.1)]
  · show ax_run _ _ [_, _, _, _, _, some (.inl (.int (nI (eNp E))))] _ _ _ _ _ = _
    rw [g_X10_changing_6, hX.1.1, if_pos (nI_le (Nat.le_refl _) (sm31 (by omega)))]
    rfl
theorem shl_n : ∀ k, k ≤ 6 → (1 : Int32) <<< (nI k &&& 31) = nI (2 ^ k) := by decide +kernel
def fwM (E : Ev) (S : St) (uses w : Int32) (j N : Nat) (b : Int32) : Int32 := ax_it N (fun s a => if (nI s &&& (uses ^^^ (-1))) = 0 ∧ bts (nI s) < a ∧ hav E S (nI s) w j = true then bts (nI s) else a) b
theorem x10_fewest (g) {E S f} {c j : Nat} (w : Int32) (hE : EW E) (hX : NM E S f) (hc : c < 4) (hj : j ≤ eNi E) : s_X10_fewest [.inr (19, 0), .inl (.int (nI c)), .inl (.int w), .inl (.int (nI j))] f g = rI (fwM E S (f 45 0 c) w j (2 ^ eNm E) 7) f g := by
  have h6 := hE.2.1
  have hp : 2 ^ eNm E ≤ 64 := Nat.pow_le_pow_right (by decide) h6 (n := 2)
  have bc : ∀ kk, ax_bd (nI c) 4 kk = kk c := fun kk => bd_n hc (by decide) kk
  rw [e_X10_fewest, g_X10_fewest_0]
  refine (ax_lp (fun i a => ax_run P_X10_fewest 7 [some (.inr (19, 0)), some (.inl (.int (nI c))), some (.inl (.int w)), some (.inl (.int (nI j))), some (.inl (.int a)), some (.inl (.int (nI i))), none] [] f g 0 0) (fun s a => if (nI s &&& (f 45 0 c ^^^ (-1))) = 0 ∧ bts (nI s) < a ∧ hav E S (nI s) w j = true then bts (nI s) else a) (2 ^ eNm E) 7 (fun i hi => ?_)).trans ?_
  · show ax_run _ _ [_, _, _, _, _, some (.inl (.int (nI i))), _] _ _ _ _ _ = _
    rw [g_X10_fewest_7, hX.2.1.1, shl_n _ h6, if_neg (nI_ge hi (sm31 (by omega))), bc, x10_bits, cali_r, x10_have g _ w hE hX hj, cali_r, ite_b2, x10_bits, cali_r, nI_1]
    generalize ax_it i _ (7 : Int32) = a
    by_cases c1 : (nI i &&& (f 45 0 c ^^^ (-1))) = 0
    · rw [if_pos c1]
      by_cases c2 : a ≤ bts (nI i)
      · rw [if_pos c2, if_neg (fun q => by have := q.2.1; rw [i_lt] at this; rw [i_le] at c2; omega)]
      · rw [if_neg c2]
        have c2' : bts (nI i) < a := by rw [i_lt]; rw [i_le] at c2; omega
        by_cases c3 : hav E S (nI i) w j = true
        · rw [if_pos c3, if_pos ⟨c1, c2', c3⟩]
        · rw [if_neg c3, if_neg (fun q => c3 q.2.2)]
    · rw [if_neg c1, if_neg (fun q => c1 q.1)]
  · show ax_run _ _ [_, _, _, _, _, some (.inl (.int (nI (2 ^ eNm E)))), _] _ _ _ _ _ = _
    rw [g_X10_fewest_7, hX.2.1.1, shl_n _ h6, if_pos (nI_le (Nat.le_refl _) (sm31 (by omega)))]
    rfl
end AXY
