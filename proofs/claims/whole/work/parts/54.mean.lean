/-! the mean age -/
section AYV
theorem dnum {x : UInt64} (h : FP.Core.dIsNaN x = false) : x &&& 0x7fffffffffffffff ≤ 0x7ff0000000000000 := by
  rw [UInt64.le_iff_toNat_le, UInt64.toNat_and]
  have e : (0x7fffffffffffffff : UInt64).toNat = 2 ^ 63 - 1 := by decide +kernel
  have e2 : (0x7ff0000000000000 : UInt64).toNat = 9218868437227405312 := by decide +kernel
  rw [e, e2, Nat.and_two_pow_sub_one_eq_mod]
  rcases Nat.lt_or_ge 9218868437227405312 (x.toNat % 2 ^ 63) with q | q
  · rw [(FP.Core.isNaN_bits x).mpr q] at h; cases h
  · exact q
theorem i2d_add {s a : Nat} (hs' : s < 2 ^ 29) (ha : a < 2 ^ 29) : FP.dadd (FP.i2d (nI s)) (FP.i2d (nI a)) = FP.i2d (nI (s + a)) := by
  have n0 : FP.i2d (nI 0) = FP.Core.dconst0 := by decide +kernel
  have nn : ∀ b : Nat, FP.Core.val64 (FP.i2d (nI b)) ≠ .nan := fun b => (FP.Core.i2d_fin (nI b)).ne_nan
  have nz : ∀ b : Nat, b < 2 ^ 29 → FP.i2d (nI b) ≠ FP.Core.dzeroNeg := by
    intro b hb e
    by_cases c : b = 0
    · rw [c, n0] at e; exact absurd e (by decide +kernel)
    · have h1 := FP.Core.i2d_ne_zero (v := nI b) (nI_ne0 (Nat.pos_of_ne_zero c) (Nat.lt_trans hb (by decide)))
      have e' : FP.Core.i2d (nI b) = FP.Core.dzeroNeg := e
      rw [e'] at h1
      exact h1 (by decide +kernel)
  by_cases hz : a = 0
  · rw [hz, n0]; exact FP.Core.dadd_zero (nn s) (nz s hs')
  by_cases hz2 : s = 0
  · rw [hz2, n0, Nat.zero_add]
    exact (FP.Core.dadd_comm _ _).trans (FP.Core.dadd_zero (nn a) (nz a ha))
  have h1 := FP.Core.i2d_int (nI s)
  have h2 := FP.Core.i2d_int (nI a)
  have h3 := FP.Core.i2d_int (nI (s + a))
  rw [nI_toInt (by omega)] at h1 h2 h3
  refine FP.Core.dint_unique (i := ((s + a : Nat) : Int)) (by omega) ?_ h3
  have h4 := FP.Core.dadd_int h1 h2 (by
    rw [← Int.natCast_add, Int.natAbs_natCast]
    exact Nat.le_trans (show s + a ≤ 2 ^ 30 by omega) (by decide))
  rw [← Int.natCast_add] at h4
  exact h4
def agst (S : St) (R : Rt) (i : Nat) (a : Nat × Nat) : Nat × Nat := if gud S i = true then (a.1 + (sTm S - rRel R (sOwn S i)), a.2 + 1) else a
theorem ag_le (S R) (k : Nat) : (ax_it k (agst S R) (0, 0)).1 ≤ k * sTm S ∧ (ax_it k (agst S R) (0, 0)).2 ≤ k := by
  induction k with
  | zero => exact ⟨Nat.zero_le _, Nat.zero_le _⟩
  | succ k ih =>
    rw [ax_it_s]
    obtain ⟨h1, h2⟩ := ih
    obtain ⟨q, hq⟩ : ∃ q, q = ax_it k (agst S R) (0, 0) := ⟨_, rfl⟩
    rw [← hq] at h1 h2 ⊢
    unfold agst
    rw [Nat.succ_mul]
    split
    · exact ⟨by show q.1 + _ ≤ _; omega, by show q.2 + 1 ≤ _; omega⟩
    · exact ⟨by omega, by omega⟩
def agR (N : Nat × Nat) : UInt64 := if N.2 = 0 then FP.dconst0 else FP.ddiv (FP.i2d (nI N.1)) (FP.i2d (nI N.2))
theorem agR_div {a b : Nat} (hb : b ≠ 0) (hb2 : b ≤ 1000) : FP.Core.dIsNaN (FP.ddiv (FP.i2d (nI a)) (FP.i2d (nI b))) = false := by
  refine FP.Core.ddiv_out (FP.Core.i2d_fin (nI a)).notNaN (FP.Core.i2d_fin (nI b)) (fun z => ?_)
  exact FP.Core.i2d_ne_zero (v := nI b) (nI_ne0 (Nat.pos_of_ne_zero hb) (sm31 hb2)) ((FP.Core.zero_bits2 _).mp z)
theorem agR_n {N : Nat × Nat} (h : N.2 ≤ 1000) : FP.Core.dIsNaN (agR N) = false := by
  unfold agR
  split
  · decide +kernel
  · rename_i hz; exact agR_div hz h
/-- both, at the end -/
theorem ag_end {N : Nat × Nat} (h : N.2 ≤ 1000) (f : ax_F) (g : ax_G) : (if nI N.2 = 0 then (some (.inl (some (.inl (.double FP.dconst0))), f, g) : Option ax_Fin) else (if FP.ddiv (FP.i2d (nI N.1)) (FP.i2d (nI N.2)) &&& 0x7fffffffffffffff ≤ 0x7ff0000000000000 then (some (.inl (some (.inl (.double (FP.ddiv (FP.i2d (nI N.1)) (FP.i2d (nI N.2)))))), f, g)) else none)) = rD (agR N) f g := by
  unfold agR
  by_cases hz : N.2 = 0
  · rw [if_pos (show nI N.2 = 0 by rw [hz]; rfl), if_pos hz]
  · rw [if_neg (nI_ne0 (Nat.pos_of_ne_zero hz) (sm31 h)), if_neg hz, if_pos (dnum (agR_div hz h))]
theorem p_meanAge {n f} (g) (hn : n ≤ 1000) (hI : Inv n f) : ∃ v, s_X9_meanAge [.inr (0, 0)] f g = rD v f g ∧ FP.Core.dIsNaN v = false ∧ (∀ g', s_X10_meanAge [.inr (19, 0)] f g' = rD v (ax_up f 19 0 0 0) g') ∧ Inv (n + 1) (ax_up f 19 0 0 0) := by
  have hI0 := hI
  obtain ⟨E, S, R, h, ht⟩ := hI
  have h' := h
  obtain ⟨hE, hS, hR, hX, hM, hC, hN⟩ := h
  have h6 := hE.2.1
  have h20 := hE.2.2.1
  have hT : sTm S ≤ 200000 := by omega
  have bnd : ∀ k, k ≤ 6 → (ax_it k (agst S R) (0, 0)).1 ≤ 1200000 ∧ (ax_it k (agst S R) (0, 0)).2 ≤ 6 := fun k hk => by
    obtain ⟨q1, q2⟩ := ag_le S R k
    have := Nat.mul_le_mul hk hT
    omega
  refine ⟨agR (ax_it (eNm E) (agst S R) (0, 0)), ?_, agR_n (by have := (bnd (eNm E) h6).2; omega), fun g' => ?_, hI0.same (Same.up0 f 0)⟩
  · rw [e_X9_meanAge, g_X9_meanAge_0]
    refine (ax_lp (fun i (a : Nat × Nat) => ax_run P_X9_meanAge 7 [some (.inr (0, 0)), some (.inl (.double (FP.i2d (nI a.1)))), none, some (.inl (.int (nI a.2))), some (.inl (.int (nI i))), none] [] f g 0 0) (agst S R) (eNm E) (0, 0) (fun i hi => ?_)).trans ?_
    · obtain ⟨b1, b2'⟩ := bnd i (by omega)
      obtain ⟨q, hq⟩ : ∃ q, q = ax_it i (agst S R) (0, 0) := ⟨_, rfl⟩
      rw [← hq] at b1 b2' ⊢
      obtain ⟨k7, k8, -⟩ := hX.2.2.2.2 i hi
      have ho := hS.1 i hi
      show ax_run P_X9_meanAge 7 [_, _, _, _, some (.inl (.int (nI i))), _] _ _ _ _ _ = _
      rw [g_X9_meanAge_7, hX.2.1.1, if_neg (nI_ge hi (sm31 (by omega))), bd_n (by omega) (by decide), x4_hasGood f g (6 * 0 + i) k7 (by omega) k8, cali_r, ite_b2]
      unfold agst
      by_cases c : gud S i = true
      · have c' : (decide (0 < sOwn S i) && !sWr S i) = true := c
        have hj : sOwn S i ≠ 0 := by
          rw [Bool.and_eq_true, decide_eq_true_eq] at c'
          omega
        have hr := (hR.2.2.1 (sOwn S i) (Nat.pos_of_ne_zero hj) ho).2.2
        rw [if_pos c', if_pos c, k7, x0_releaseTime f g hX.1.2.1 h20 ho, cali_r, if_neg hj, (hC.2.2.2.1 (sOwn S i) (Nat.pos_of_ne_zero hj) ho).2.1, hX.2.2.1, pk_sub hr, i2d_add (by omega) (by omega), if_pos (dnum (FP.Core.i2d_fin _).notNaN), nI_1, nI_1]
      · rw [if_neg (show ¬ (decide (0 < sOwn S i) && !sWr S i) = true from c), if_neg c, nI_1]
    · obtain ⟨b1, b2'⟩ := bnd (eNm E) h6
      obtain ⟨q, hq⟩ : ∃ q, q = ax_it (eNm E) (agst S R) (0, 0) := ⟨_, rfl⟩
      rw [← hq] at b1 b2' ⊢
      show ax_run P_X9_meanAge 7 [_, _, _, _, some (.inl (.int (nI (eNm E)))), _] _ _ _ _ _ = _
      rw [g_X9_meanAge_7, hX.2.1.1, if_pos (nI_le (Nat.le_refl _) (sm31 (by omega)))]
      exact ag_end (by omega) f g
  · obtain ⟨f0, hf0⟩ : ∃ f0, f0 = ax_up f 19 0 0 0 := ⟨_, rfl⟩
    have h0 := h'.same (Same.up0 f 0)
    rw [e_X10_meanAge, g_X10_meanAge_0]
    rw [← hf0] at h0 ⊢
    obtain ⟨-, -, -, -, hM0, -, hN0⟩ := h0
    refine (ax_lp (fun i (a : Nat × Nat) => ax_run P_X10_meanAge 11 [some (.inr (19, 0)), some (.inl (.int (nI a.1))), some (.inl (.int (nI a.2))), some (.inl (.int (nI i))), none] [] f0 g' 0 0) (agst S R) (eNm E) (0, 0) (fun i hi => ?_)).trans ?_
    · obtain ⟨b1, b2'⟩ := bnd i (by omega)
      obtain ⟨q, hq⟩ : ∃ q, q = ax_it i (agst S R) (0, 0) := ⟨_, rfl⟩
      rw [← hq] at b1 b2' ⊢
      obtain ⟨k7, k8, -⟩ := hM0.2.2.2.2 i hi
      have ho := hS.1 i hi
      show ax_run P_X10_meanAge 11 [_, _, _, some (.inl (.int (nI i))), _] _ _ _ _ _ = _
      rw [g_X10_meanAge_11, hM0.2.1.1, if_neg (nI_ge hi (sm31 (by omega))), bd_n (by omega) (by decide), bd_n (by omega) (by decide), bd_n (by omega) (by decide), k7, k8, bd_n (by omega) (by decide), Int32.add_zero, Int32.add_zero, nI_1]
      unfold agst gud
      by_cases hj : sOwn S i = 0
      · rw [hj, if_pos (show nI 0 ≤ 0 by decide +kernel), if_neg (by simp)]
      · rw [if_neg (nI_nle (Nat.pos_of_ne_zero hj) (sm31 (by omega)))]
        cases hw : sWr S i with
        | true => rw [if_neg (show ¬ b2 true = 0 from one_ne), if_neg (by simp)]
        | false =>
          have hr := (hR.2.2.1 (sOwn S i) (Nat.pos_of_ne_zero hj) ho).2.2
          rw [if_pos (show b2 false = 0 from rfl), if_pos (by simp; omega), (hN0.2.2.2.1 (sOwn S i) (Nat.pos_of_ne_zero hj) ho).1, hM0.2.2.1, pk_sub hr, nI_add, nI_1]
    · obtain ⟨b1, b2'⟩ := bnd (eNm E) h6
      obtain ⟨q, hq⟩ : ∃ q, q = ax_it (eNm E) (agst S R) (0, 0) := ⟨_, rfl⟩
      rw [← hq] at b1 b2' ⊢
      show ax_run P_X10_meanAge 11 [_, _, _, some (.inl (.int (nI (eNm E)))), _] _ _ _ _ _ = _
      rw [g_X10_meanAge_11, hM0.2.1.1, if_pos (nI_le (Nat.le_refl _) (sm31 (by omega)))]
      exact ag_end (by omega) f0 g'
end AYV
