/-! the digest: the reference, and both -/
section AYX
theorem ug_s (g : ax_G) (k i j : Nat) (x : Int64) : ax_ug g k i j x k i j = x := if_pos ⟨rfl, rfl, rfl⟩
theorem ug_ug (g : ax_G) (k i j : Nat) (x y : Int64) : ax_ug (ax_ug g k i j x) k i j y = ax_ug g k i j y := by
  funext a b c
  simp only [ax_ug_ap]
  split <;> rfl
theorem x10_mix (f g) (a x : Int64) : s_X10_mix [.inr (19, 0), .inl (.long x)] f (ax_ug g 19 0 40 a) = rV f (ax_ug g 19 0 40 (31 * a + x)) := by
  rw [e_X10_mix, g_X10_mix_0, ug_s, ug_ug]
theorem it6 {α : Type} (m : Nat) (st : Nat → α → α) (a : α) : ax_it (m + 6) st a = st (m + 5) (st (m + 4) (st (m + 3) (st (m + 2) (st (m + 1) (st m (ax_it m st a)))))) := by
  rw [ax_it_s (m + 5), ax_it_s (m + 4), ax_it_s (m + 3), ax_it_s (m + 2), ax_it_s (m + 1), ax_it_s m]
theorem mxL6 (h : Nat → Int32) (a : Int64) : mxL 6 h a = ax_it (0 + 6) (fun i x => 31 * x + Int32.toInt64 (h i)) a := by
  unfold mxL
  rw [Nat.zero_add]
theorem six (F : Nat → Nat → Int32) (a : Int64) (n : Nat) : ax_it (6 * n) (fun i b => 31 * b + Int32.toInt64 (F (i / 6) (i % 6))) a = ax_it n (fun p b => mxL 6 (F p) b) a := by
  induction n with
  | zero => rw [Nat.mul_zero, ax_it_0, ax_it_0]
  | succ n ih =>
    have e0 : 6 * n / 6 = n ∧ 6 * n % 6 = 0 := by omega
    have e1 : (6 * n + 1) / 6 = n ∧ (6 * n + 1) % 6 = 1 := by omega
    have e2 : (6 * n + 2) / 6 = n ∧ (6 * n + 2) % 6 = 2 := by omega
    have e3 : (6 * n + 3) / 6 = n ∧ (6 * n + 3) % 6 = 3 := by omega
    have e4 : (6 * n + 4) / 6 = n ∧ (6 * n + 4) % 6 = 4 := by omega
    have e5 : (6 * n + 5) / 6 = n ∧ (6 * n + 5) % 6 = 5 := by omega
    rw [Nat.mul_add, Nat.mul_one, it6, ih, ax_it_s, mxL6, it6, ax_it_0, e0.1, e0.2, e1.1, e1.2, e2.1, e2.2, e3.1, e3.2, e4.1, e4.2, e5.1, e5.2, Nat.zero_add, Nat.zero_add, Nat.zero_add, Nat.zero_add, Nat.zero_add]
theorem x10_mixIndexes (g) {E S R f} (h : W7 E S R f) (a : Int64) : s_X10_mixIndexes [.inr (19, 0)] f (ax_ug g 19 0 40 a) = rV f (ax_ug g 19 0 40 (dIx E S R (eNi E) (dPk E S R f (eNp E) a))) := by
  have h12 := h.1.1
  have h20 := h.1.2.2.1
  have m2 : f 19 0 2 = nI (eNp E) := h.2.2.2.2.1.1.1
  have m3 : f 19 0 3 = nI (eNi E) := h.2.2.2.2.1.1.2.1
  have n6 : ¬ (6 : Int32) = 0 := by decide +kernel
  rw [e_X10_mixIndexes, g_X10_mixIndexes_0]
  refine (ax_lp (fun i (b : Int64) => ax_run P_X10_mixIndexes 2 [some (.inr (19, 0)), some (.inl (.int (nI i))), none] [] f (ax_ug g 19 0 40 b) 0 0) (fun i b => 31 * b + Int32.toInt64 (pkp E S R f (i / 6) (i % 6))) (6 * eNp E) a (fun i hi => ?_)).trans ?_
  · show ax_run P_X10_mixIndexes 2 [_, some (.inl (.int (nI i))), _] _ _ _ _ _ = _
    rw [g_X10_mixIndexes_2, m2, show (6 : Int32) * nI (eNp E) = nI (6 * eNp E) from pk_mul 6 _, if_neg (nI_ge hi (sm31 (by omega))), if_neg n6, if_neg n6, show nI i - nI i / (6 : Int32) * 6 = nI (i % 6) from pk_rem (d := 6) (sm31 (by omega)) (by decide) (by decide), show nI i / (6 : Int32) = nI (i / 6) from pk_div (d := 6) (sm31 (by omega)) (by decide) (by decide), x10_packageNow _ h (show i / 6 < eNp E by omega) (show i % 6 < 6 by omega), cali_r, x10_mix, calv_r, nI_1]
  · show ax_run P_X10_mixIndexes 2 [_, some (.inl (.int (nI (6 * eNp E)))), _] _ _ _ _ _ = _
    rw [g_X10_mixIndexes_2, m2, show (6 : Int32) * nI (eNp E) = nI (6 * eNp E) from pk_mul 6 _, if_pos (nI_le (Nat.le_refl _) (sm31 (by omega))), six]
    refine (ax_lp (fun i (b : Int64) => ax_run P_X10_mixIndexes 38 [some (.inr (19, 0)), some (.inl (.int (nI (i + 1)))), none] [] f (ax_ug g 19 0 40 b) 0 0) (fun j b => mxL (4 + rPk R (j + 1)) (ixp E S R (j + 1)) b) (eNi E) _ (fun i hi => ?_)).trans ?_
    · have hk12 := (h.2.2.1.2.2.1 (i + 1) (by omega) (by omega)).1
      have e4 : (4 : Int32) + nI (rPk R (i + 1)) = nI (4 + rPk R (i + 1)) := nI_add 4 _
      show ax_run P_X10_mixIndexes 38 [_, some (.inl (.int (nI (i + 1)))), _] _ _ _ _ _ = _
      rw [g_X10_mixIndexes_38, m3, if_neg (nI_nlt (show i + 1 ≤ eNi E by omega) (sm31 (by omega)))]
      refine (ax_lp (fun k (b : Int64) => ax_run P_X10_mixIndexes 48 [some (.inr (19, 0)), some (.inl (.int (nI (i + 1)))), some (.inl (.int (nI k)))] [] f (ax_ug g 19 0 40 b) 0 0) (fun k b => 31 * b + Int32.toInt64 (ixp E S R (i + 1) k)) (4 + rPk R (i + 1)) _ (fun k hk => ?_)).trans ?_
      · show ax_run P_X10_mixIndexes 48 [_, _, some (.inl (.int (nI k)))] _ _ _ _ _ = _
        rw [g_X10_mixIndexes_48, x10_packagesOf _ h (show 0 < i + 1 by omega) (by omega), cali_r, e4, if_neg (nI_ge hk (sm31 (by omega))), x10_indexNow _ h (show 0 < i + 1 by omega) (by omega) (show k < 16 by omega), cali_r, x10_mix, calv_r, nI_1]
      · show ax_run P_X10_mixIndexes 48 [_, _, some (.inl (.int (nI (4 + rPk R (i + 1)))))] _ _ _ _ _ = _
        rw [g_X10_mixIndexes_48, x10_packagesOf _ h (show 0 < i + 1 by omega) (by omega), cali_r, e4, if_pos (nI_le (Nat.le_refl _) (sm31 (by omega))), nI_1]
        rfl
    · show ax_run P_X10_mixIndexes 38 [_, some (.inl (.int (nI (eNi E + 1)))), _] _ _ _ _ _ = _
      rw [g_X10_mixIndexes_38, m3, if_pos (nI_lt (Nat.lt_succ_self _) (sm31 (by omega)))]
      rfl
theorem x10_mixMirrors (g) {E S R f} (h : W7 E S R f) (a : Int64) : s_X10_mixMirrors [.inr (19, 0)] f (ax_ug g 19 0 40 a) = rV f (ax_ug g 19 0 40 (dMr E S (eNm E) a)) := by
  have h12 := h.1.1
  have h6 := h.1.2.1
  have hM := h.2.2.2.2.1
  have m2 : f 19 0 2 = nI (eNp E) := hM.1.1
  have m4 : f 19 0 4 = nI (eNm E) := hM.2.1.1
  rw [e_X10_mixMirrors, g_X10_mixMirrors_0]
  refine (ax_lp (fun i (b : Int64) => ax_run P_X10_mixMirrors 2 [some (.inr (19, 0)), some (.inl (.int (nI i))), none] [] f (ax_ug g 19 0 40 b) 0 0) (fun m b => mxL (eNp E) (sFl S m) (mxL 11 (prp E S m) b)) (eNm E) a (fun i hi => ?_)).trans ?_
  · show ax_run P_X10_mixMirrors 2 [_, some (.inl (.int (nI i))), _] _ _ _ _ _ = _
    rw [g_X10_mixMirrors_2, m4, if_neg (nI_ge hi (sm31 (by omega)))]
    refine (ax_lp (fun k (b : Int64) => ax_run P_X10_mixMirrors 12 [some (.inr (19, 0)), some (.inl (.int (nI i))), some (.inl (.int (nI k)))] [] f (ax_ug g 19 0 40 b) 0 0) (fun k b => 31 * b + Int32.toInt64 (prp E S i k)) 11 _ (fun k hk => ?_)).trans ?_
    · show ax_run P_X10_mixMirrors 12 [_, _, some (.inl (.int (nI k)))] _ _ _ _ _ = _
      rw [g_X10_mixMirrors_12, if_neg (show ¬ (11 : Int32) ≤ nI k from nI_ge (b := 11) hk (by decide)), x10_mirrorNow _ h.1 h.2.1 hM hi hk, cali_r, x10_mix, calv_r, nI_1]
    · show ax_run P_X10_mixMirrors 12 [_, _, some (.inl (.int (nI 11)))] _ _ _ _ _ = _
      rw [g_X10_mixMirrors_12, if_pos (show (11 : Int32) ≤ nI 11 by decide +kernel)]
      refine (ax_lp (fun k (b : Int64) => ax_run P_X10_mixMirrors 37 [some (.inr (19, 0)), some (.inl (.int (nI i))), some (.inl (.int (nI k)))] [] f (ax_ug g 19 0 40 b) 0 0) (fun k b => 31 * b + Int32.toInt64 (sFl S i k)) (eNp E) _ (fun k hk => ?_)).trans ?_
      · show ax_run P_X10_mixMirrors 37 [_, _, some (.inl (.int (nI k)))] _ _ _ _ _ = _
        rw [g_X10_mixMirrors_37, m2, if_neg (nI_ge hk (sm31 (by omega))), ix12, bd_n (by omega) (by decide), x10_mix, calv_r, nI_1, (hM.2.2.2.2 i hi).2.2 k (by omega)]
      · show ax_run P_X10_mixMirrors 37 [_, _, some (.inl (.int (nI (eNp E))))] _ _ _ _ _ = _
        rw [g_X10_mixMirrors_37, m2, if_pos (nI_le (Nat.le_refl _) (sm31 (by omega))), nI_1]
        rfl
  · show ax_run P_X10_mixMirrors 2 [_, some (.inl (.int (nI (eNm E)))), _] _ _ _ _ _ = _
    rw [g_X10_mixMirrors_2, m4, if_pos (nI_le (Nat.le_refl _) (sm31 (by omega)))]
    rfl
theorem x10_mixClients (g) {E S R f} (h : W7 E S R f) (ht : sTm S + 61 < 2 ^ 30) (a : Int64) : ∃ f', s_X10_mixClients [.inr (19, 0)] f (ax_ug g 19 0 40 a) = rV f' (ax_ug g 19 0 40 (dCl E S R f (rNc R) a)) ∧ Same f f' ∧ f' 19 0 0 = f 19 0 0 := by
  have h12 := h.1.1
  have hc4 : rNc R ≤ 4 := h.2.2.1.2.2.2.1.1
  rw [e_X10_mixClients, g_X10_mixClients_0]
  obtain ⟨x', l, l1, l2, l3⟩ := ax_lpE (fun i (x : ax_F × Int64) => ax_run P_X10_mixClients 2 [some (.inr (19, 0)), some (.inl (.int (nI i))), none] [] x.1 (ax_ug g 19 0 40 x.2) 0 0) (fun _ x y => x.2 = y ∧ Same f x.1 ∧ x.1 19 0 0 = f 19 0 0) (dC1 E S R f) (rNc R) (f, a) a ⟨rfl, Same.refl f, rfl⟩ (by
    intro i x y hi hI
    obtain ⟨F, b⟩ := x
    obtain ⟨k1, k2, k3⟩ := hI
    have k1 : b = y := k1
    have k2 : Same f F := k2
    have k3 : F 19 0 0 = f 19 0 0 := k3
    have h1 := h.same k2
    have m5 : F 19 0 5 = nI (rNc R) := h1.2.2.2.2.2.2.2.2.2.2.1.1
    have m2 : F 19 0 2 = nI (eNp E) := h1.2.2.2.2.1.1.1
    have hw0 : wan E R F i 0 = wan E R f i 0 := wan_same h12 k2 i 0
    have hb0 : ∀ k, eNp E ≤ k → k < 32 → bt 0 k = false := fun k _ _ => b_0 k
    have e3 : (3 : Int32) + nI (eNp E) = nI (3 + eNp E) := nI_add 3 _
    obtain ⟨f2, e2, z2, t2⟩ := ref_wait (ax_ug g 19 0 40 (mxL 5 (wou E S R i (wan E R f i 0)) (mxL (3 + eNp E) (clp R i) b))) i 0 h1 hi ht hb0
    rw [hw0] at e2
    refine ⟨(f2, dC1 E S R f i y), ?_, rfl, k2.trans z2, t2.trans k3⟩
    show ax_run P_X10_mixClients 2 [_, some (.inl (.int (nI i))), _] _ F (ax_ug g 19 0 40 b) _ _ = _
    rw [g_X10_mixClients_2, m5, if_neg (nI_ge hi (sm31 (by omega)))]
    refine (ax_lp (fun k (b : Int64) => ax_run P_X10_mixClients 12 [some (.inr (19, 0)), some (.inl (.int (nI i))), some (.inl (.int (nI k)))] [] F (ax_ug g 19 0 40 b) 0 0) (fun k b => 31 * b + Int32.toInt64 (clp R i k)) (3 + eNp E) b (fun k hk => ?_)).trans ?_
    · show ax_run P_X10_mixClients 12 [_, _, some (.inl (.int (nI k)))] _ _ _ _ _ = _
      rw [g_X10_mixClients_12, m2, e3, if_neg (nI_ge hk (sm31 (by omega))), ref_client _ h1 hi hk, cali_r, x10_mix, calv_r, nI_1]
    · show ax_run P_X10_mixClients 12 [_, _, some (.inl (.int (nI (3 + eNp E))))] _ _ _ _ _ = _
      rw [g_X10_mixClients_12, m2, e3, if_pos (nI_le (Nat.le_refl _) (sm31 (by omega)))]
      refine (ax_lp (fun k (b : Int64) => ax_run P_X10_mixClients 41 [some (.inr (19, 0)), some (.inl (.int (nI i))), some (.inl (.int (nI k)))] [] F (ax_ug g 19 0 40 b) 0 0) (fun k b => 31 * b + Int32.toInt64 (wou E S R i (wan E R f i 0) k)) 5 _ (fun k hk => ?_)).trans ?_
      · show ax_run P_X10_mixClients 41 [_, _, some (.inl (.int (nI k)))] _ _ _ _ _ = _
        rw [g_X10_mixClients_41, if_neg (show ¬ (5 : Int32) ≤ nI k from nI_ge (b := 5) hk (by decide)), ref_would _ 0 h1 hi hk hb0, cali_r, x10_mix, calv_r, nI_1, hw0]
      · show ax_run P_X10_mixClients 41 [_, _, some (.inl (.int (nI 5)))] _ _ (ax_ug g 19 0 40 (mxL 5 (wou E S R i (wan E R f i 0)) (mxL (3 + eNp E) (clp R i) b))) _ _ = _
        rw [g_X10_mixClients_41, if_pos (show (5 : Int32) ≤ nI 5 by decide +kernel), e2, cali_r, x10_mix, calv_r, nI_1, k1]
        rfl)
  obtain ⟨F, b⟩ := x'
  have l1 : b = dCl E S R f (rNc R) a := l1
  have l2 : Same f F := l2
  refine ⟨F, l.trans ?_, l2, l3⟩
  show ax_run P_X10_mixClients 2 [_, some (.inl (.int (nI (rNc R)))), _] _ F (ax_ug g 19 0 40 b) _ _ = _
  have m5 : F 19 0 5 = nI (rNc R) := (h.same l2).2.2.2.2.2.2.2.2.2.2.1.1
  rw [g_X10_mixClients_2, m5, if_pos (nI_le (Nat.le_refl _) (sm31 (by omega))), l1]
theorem ref_digest (g) {E S R f} (h : W7 E S R f) (ht : sTm S + 61 < 2 ^ 30) : ∃ f' g', s_X10_digest [.inr (19, 0)] f g = rJ (dig E S R (ax_up f 19 0 0 0)) f' g' ∧ Same f f' ∧ f' 19 0 0 = 0 := by
  have h0 := h.up0 0
  obtain ⟨f0, hf0⟩ : ∃ f0, f0 = ax_up f 19 0 0 0 := ⟨_, rfl⟩
  have hz0 : f0 19 0 0 = 0 := by rw [hf0]; exact ax_up_s _ _ _ _ _
  have hs0 : Same f f0 := by rw [hf0]; exact Same.up0 f 0
  rw [e_X10_digest, g_X10_digest_0]
  rw [← hf0] at h0 ⊢
  obtain ⟨f1, e1, z1, t1⟩ := x10_mixClients g h0 ht (dMr E S (eNm E) (dIx E S R (eNi E) (dPk E S R f0 (eNp E) (mxL 10 (cnt E S R) 1999))))
  have h1 := h0.same z1
  have hb := h1.2.2.2.2.2.2.2.2.2.2.2
  have hl60 : rLen R ≤ 60 := h.2.2.1.2.2.2.2.1
  refine ⟨f1, ax_ug g 19 0 40 (dig E S R f0), ?_, hs0.trans z1, t1.trans hz0⟩
  refine (ax_lp (fun k (b : Int64) => ax_run P_X10_digest 14 [some (.inr (19, 0)), some (.inl (.int (nI k)))] [] f0 (ax_ug g 19 0 40 b) 0 0) (fun k b => 31 * b + Int32.toInt64 (cnt E S R k)) 10 1999 (fun k hk => ?_)).trans ?_
  · show ax_run P_X10_digest 14 [_, some (.inl (.int (nI k)))] _ _ _ _ _ = _
    rw [g_X10_digest_14, if_neg (show ¬ (10 : Int32) ≤ nI k from nI_ge (b := 10) hk (by decide)), x10_counted _ h0 hk, cali_r, x10_mix, calv_r, nI_1]
  · show ax_run P_X10_digest 14 [_, some (.inl (.int (nI 10)))] _ f0 (ax_ug g 19 0 40 (mxL 10 (cnt E S R) 1999)) _ _ = _
    rw [g_X10_digest_14, if_pos (show (10 : Int32) ≤ nI 10 by decide +kernel), x10_mixIndexes g h0, calv_r, x10_mixMirrors g h0, calv_r, e1, calv_r, x10_mix, calv_r, hb.1]
    refine (ax_lp (fun k (b : Int64) => ax_run P_X10_digest 59 [some (.inr (19, 0)), some (.inl (.int (nI k)))] [] f1 (ax_ug g 19 0 40 b) 0 0) (fun k b => 31 * b + Int32.toInt64 (nI (rBuf R k))) (rLen R) _ (fun k hk => ?_)).trans ?_
    · show ax_run P_X10_digest 59 [_, some (.inl (.int (nI k)))] _ _ _ _ _ = _
      rw [g_X10_digest_59, hb.1, if_neg (nI_ge hk (sm31 (by omega))), bd_n (by omega) (by decide), hb.2.1 k hk, x10_mix, calv_r, nI_1]
    · show ax_run P_X10_digest 59 [_, some (.inl (.int (nI (rLen R))))] _ f1 (ax_ug g 19 0 40 (dig E S R f0)) _ _ = _
      rw [g_X10_digest_59, hb.1, if_pos (nI_le (Nat.le_refl _) (sm31 (by omega))), ug_s]
theorem dig_same {E S R f f'} (h12 : eNp E ≤ 12) (z : Same f f') : dig E S R f' = dig E S R f := by
  have e1 : ∀ a, dPk E S R f' (eNp E) a = dPk E S R f (eNp E) a := fun a => ax_it_congr _ _ (fun i x hi => by
    have : pkp E S R f' i = pkp E S R f i := by
      funext w
      unfold pkp
      rw [z 3 i 3 (by unfold Scr; omega)]
    rw [this])
  have e2 : dC1 E S R f' = dC1 E S R f := by
    funext c a
    unfold dC1
    rw [wan_same h12 z c 0]
  unfold dig dCl
  rw [e1, e2]
theorem p_digest {n f} (g) (hn : n ≤ 1000) (hI : Inv n f) : ∃ v f1, s_X9_digest [.inr (0, 0)] f g = rJ v f1 g ∧ ∀ g', ∃ f2 g2, s_X10_digest [.inr (19, 0)] f1 g' = rJ v f2 g2 ∧ Inv (n + 1) f2 := by
  have hI0 := hI
  obtain ⟨E, S, R, h, ht⟩ := hI
  obtain ⟨f1, e1, z1⟩ := cls_digest g h (by omega)
  refine ⟨_, f1, e1, fun g' => ?_⟩
  obtain ⟨f2, g2, e2, z2, -⟩ := ref_digest g' (h.same z1) (by omega)
  refine ⟨f2, g2, ?_, hI0.same (z1.trans z2)⟩
  rw [e2, dig_same h.1.1 (Same.up0 f1 0), dig_same h.1.1 z1]
end AYX
