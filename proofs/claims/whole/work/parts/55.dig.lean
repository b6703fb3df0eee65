/-! the digest: the class -/
section AYW
def mxL (n : Nat) (h : Nat → Int32) (a : Int64) : Int64 := ax_it n (fun i x => 31 * x + Int32.toInt64 (h i)) a
theorem x9_mix (f g) (a x : Int64) : s_X9_mix [.inl (.long a), .inl (.long x)] f g = rJ (31 * a + x) f g := by
  rw [e_X9_mix, g_X9_mix_0]
def dPk (E : Ev) (S : St) (R : Rt) (f : ax_F) (n : Nat) (a : Int64) : Int64 := ax_it n (fun p a => mxL 6 (pkp E S R f p) a) a
def dIx (E : Ev) (S : St) (R : Rt) (n : Nat) (a : Int64) : Int64 := ax_it n (fun j a => mxL (4 + rPk R (j + 1)) (ixp E S R (j + 1)) a) a
def dMr (E : Ev) (S : St) (n : Nat) (a : Int64) : Int64 := ax_it n (fun m a => mxL (eNp E) (sFl S m) (mxL 11 (prp E S m) a)) a
def dC1 (E : Ev) (S : St) (R : Rt) (f : ax_F) (c : Nat) (a : Int64) : Int64 := 31 * (mxL 5 (wou E S R c (wan E R f c 0)) (mxL (3 + eNp E) (clp R c) a)) + Int32.toInt64 (wk E R c (wan E R f c 0) 61 0 S)
def dCl (E : Ev) (S : St) (R : Rt) (f : ax_F) (n : Nat) (a : Int64) : Int64 := ax_it n (dC1 E S R f) a
def dig (E : Ev) (S : St) (R : Rt) (f : ax_F) : Int64 := mxL (rLen R) (fun i => nI (rBuf R i)) (31 * dCl E S R f (rNc R) (dMr E S (eNm E) (dIx E S R (eNi E) (dPk E S R f (eNp E) (mxL 10 (cnt E S R) 1999)))) + Int32.toInt64 (nI (rLen R)))
theorem x9_mixPackages (g) {E S R f} (h : W7 E S R f) (a : Int64) : s_X9_mixPackages [.inr (0, 0), .inl (.long a)] f g = rJ (dPk E S R f (eNp E) a) f g := by
  have h12 := h.1.1
  have c3 : f 1 0 3 = nI (eNp E) := h.2.2.2.1.1.1
  rw [e_X9_mixPackages, g_X9_mixPackages_0]
  refine (ax_lp (fun i (b : Int64) => ax_run P_X9_mixPackages 5 [some (.inr (0, 0)), some (.inl (.long a)), none, some (.inl (.long b)), none, some (.inl (.int (nI i))), none] [] f g 0 0) (fun p b => mxL 6 (pkp E S R f p) b) (eNp E) a (fun i hi => ?_)).trans ?_
  · show ax_run P_X9_mixPackages 5 [_, _, _, _, _, some (.inl (.int (nI i))), _] _ _ _ _ _ = _
    rw [g_X9_mixPackages_5, c3, if_neg (nI_ge hi (sm31 (by omega)))]
    refine (ax_lp (fun k (b : Int64) => ax_run P_X9_mixPackages 20 [some (.inr (0, 0)), some (.inl (.long a)), none, some (.inl (.long b)), none, some (.inl (.int (nI i))), some (.inl (.int (nI k)))] [] f g 0 0) (fun k b => 31 * b + Int32.toInt64 (pkp E S R f i k)) 6 _ (fun k hk => ?_)).trans ?_
    · show ax_run P_X9_mixPackages 20 [_, _, _, _, _, _, some (.inl (.int (nI k)))] _ _ _ _ _ = _
      rw [g_X9_mixPackages_20, if_neg (show ¬ (6 : Int32) ≤ nI k from nI_ge (b := 6) hk (by decide)), x9_packageProperty g h hi hk, cali_r, x9_mix, call_r, nI_1]
    · show ax_run P_X9_mixPackages 20 [_, _, _, _, _, _, some (.inl (.int (nI 6)))] _ _ _ _ _ = _
      rw [g_X9_mixPackages_20, if_pos (show (6 : Int32) ≤ nI 6 by decide +kernel), nI_1]
      rfl
  · show ax_run P_X9_mixPackages 5 [_, _, _, _, _, some (.inl (.int (nI (eNp E)))), _] _ _ _ _ _ = _
    rw [g_X9_mixPackages_5, c3, if_pos (nI_le (Nat.le_refl _) (sm31 (by omega)))]
    rfl
theorem x9_mixIndexes (g) {E S R f} (h : W7 E S R f) (a : Int64) : s_X9_mixIndexes [.inr (0, 0), .inl (.long a)] f g = rJ (dIx E S R (eNi E) a) f g := by
  have h12 := h.1.1
  have h20 := h.1.2.2.1
  have c4 : f 1 0 4 = nI (eNi E) := h.2.2.2.1.1.2.1
  rw [e_X9_mixIndexes, g_X9_mixIndexes_0]
  refine (ax_lp (fun i (b : Int64) => ax_run P_X9_mixIndexes 5 [some (.inr (0, 0)), some (.inl (.long a)), none, some (.inl (.long b)), none, some (.inl (.int (nI (i + 1)))), none, none] [] f g 0 0) (fun j b => mxL (4 + rPk R (j + 1)) (ixp E S R (j + 1)) b) (eNi E) a (fun i hi => ?_)).trans ?_
  · have hk12 := (h.2.2.1.2.2.1 (i + 1) (by omega) (by omega)).1
    show ax_run P_X9_mixIndexes 5 [_, _, _, _, _, some (.inl (.int (nI (i + 1)))), _, _] _ _ _ _ _ = _
    rw [g_X9_mixIndexes_5, c4, if_neg (nI_nlt (show i + 1 ≤ eNi E by omega) (sm31 (by omega))), x0_packsIn f g c4 h20 (show i + 1 ≤ eNi E by omega), cali_r, if_neg (show ¬ i + 1 = 0 by omega), (h.2.2.2.2.2.1.2.2.2.1 (i + 1) (by omega) (by omega)).1, show (4 : Int32) + nI (rPk R (i + 1)) = nI (4 + rPk R (i + 1)) from nI_add 4 _]
    refine (ax_lp (fun k (b : Int64) => ax_run P_X9_mixIndexes 33 [some (.inr (0, 0)), some (.inl (.long a)), none, some (.inl (.long b)), none, some (.inl (.int (nI (i + 1)))), some (.inl (.int (nI (4 + rPk R (i + 1))))), some (.inl (.int (nI k)))] [] f g 0 0) (fun k b => 31 * b + Int32.toInt64 (ixp E S R (i + 1) k)) (4 + rPk R (i + 1)) _ (fun k hk => ?_)).trans ?_
    · show ax_run P_X9_mixIndexes 33 [_, _, _, _, _, _, _, some (.inl (.int (nI k)))] _ _ _ _ _ = _
      rw [g_X9_mixIndexes_33, if_neg (nI_ge hk (sm31 (by omega))), x9_indexProperty g h (show 0 < i + 1 by omega) (by omega) (show k < 16 by omega), cali_r, x9_mix, call_r, nI_1]
    · show ax_run P_X9_mixIndexes 33 [_, _, _, _, _, _, _, some (.inl (.int (nI (4 + rPk R (i + 1)))))] _ _ _ _ _ = _
      rw [g_X9_mixIndexes_33, if_pos (nI_le (Nat.le_refl _) (sm31 (by omega))), nI_1]
      rfl
  · show ax_run P_X9_mixIndexes 5 [_, _, _, _, _, some (.inl (.int (nI (eNi E + 1)))), _, _] _ _ _ _ _ = _
    rw [g_X9_mixIndexes_5, c4, if_pos (nI_lt (Nat.lt_succ_self _) (sm31 (by omega)))]
    rfl
theorem x9_mixMirrors (g) {E S R f} (h : W7 E S R f) (a : Int64) : s_X9_mixMirrors [.inr (0, 0), .inl (.long a)] f g = rJ (dMr E S (eNm E) a) f g := by
  have h12 := h.1.1
  have h6 := h.1.2.1
  have c3 : f 1 0 3 = nI (eNp E) := h.2.2.2.1.1.1
  have c2 : f 7 0 2 = nI (eNm E) := h.2.2.2.1.2.1.1
  rw [e_X9_mixMirrors, g_X9_mixMirrors_0]
  refine (ax_lp (fun i (b : Int64) => ax_run P_X9_mixMirrors 5 [some (.inr (0, 0)), some (.inl (.long a)), none, some (.inl (.long b)), none, some (.inl (.int (nI i))), none] [] f g 0 0) (fun m b => mxL (eNp E) (sFl S m) (mxL 11 (prp E S m) b)) (eNm E) a (fun i hi => ?_)).trans ?_
  · show ax_run P_X9_mixMirrors 5 [_, _, _, _, _, some (.inl (.int (nI i))), _] _ _ _ _ _ = _
    rw [g_X9_mixMirrors_5, c2, if_neg (nI_ge hi (sm31 (by omega)))]
    refine (ax_lp (fun k (b : Int64) => ax_run P_X9_mixMirrors 20 [some (.inr (0, 0)), some (.inl (.long a)), none, some (.inl (.long b)), none, some (.inl (.int (nI i))), some (.inl (.int (nI k)))] [] f g 0 0) (fun k b => 31 * b + Int32.toInt64 (prp E S i k)) 11 _ (fun k hk => ?_)).trans ?_
    · show ax_run P_X9_mixMirrors 20 [_, _, _, _, _, _, some (.inl (.int (nI k)))] _ _ _ _ _ = _
      rw [g_X9_mixMirrors_20, if_neg (show ¬ (11 : Int32) ≤ nI k from nI_ge (b := 11) hk (by decide)), x5_property g h.1 h.2.1 h.2.2.2.1 hi hk, cali_r, x9_mix, call_r, nI_1]
    · show ax_run P_X9_mixMirrors 20 [_, _, _, _, _, _, some (.inl (.int (nI 11)))] _ _ _ _ _ = _
      rw [g_X9_mixMirrors_20, if_pos (show (11 : Int32) ≤ nI 11 by decide +kernel)]
      refine (ax_lp (fun k (b : Int64) => ax_run P_X9_mixMirrors 53 [some (.inr (0, 0)), some (.inl (.long a)), none, some (.inl (.long b)), none, some (.inl (.int (nI i))), some (.inl (.int (nI k)))] [] f g 0 0) (fun k b => 31 * b + Int32.toInt64 (sFl S i k)) (eNp E) _ (fun k hk => ?_)).trans ?_
      · show ax_run P_X9_mixMirrors 53 [_, _, _, _, _, _, some (.inl (.int (nI k)))] _ _ _ _ _ = _
        rw [g_X9_mixMirrors_53, c3, if_neg (nI_ge hk (sm31 (by omega))), bd_n (by omega) (by decide), bd_n (by omega) (by decide), x9_mix, call_r, nI_1, (h.2.2.2.1.2.2.2.2 i hi).2.2 k (by omega)]
      · show ax_run P_X9_mixMirrors 53 [_, _, _, _, _, _, some (.inl (.int (nI (eNp E))))] _ _ _ _ _ = _
        rw [g_X9_mixMirrors_53, c3, if_pos (nI_le (Nat.le_refl _) (sm31 (by omega))), nI_1]
        rfl
  · show ax_run P_X9_mixMirrors 5 [_, _, _, _, _, some (.inl (.int (nI (eNm E)))), _] _ _ _ _ _ = _
    rw [g_X9_mixMirrors_5, c2, if_pos (nI_le (Nat.le_refl _) (sm31 (by omega)))]
    rfl
theorem x9_mixClients (g) {E S R f} (h : W7 E S R f) (ht : sTm S + 60 < 2 ^ 30) (a : Int64) : ∃ f', s_X9_mixClients [.inr (0, 0), .inl (.long a)] f g = rJ (dCl E S R f (rNc R) a) f' g ∧ Same f f' := by
  have h12 := h.1.1
  have hc4 : rNc R ≤ 4 := h.2.2.1.2.2.2.1.1
  have c3 : f 1 0 3 = nI (eNp E) := h.2.2.2.1.1.1
  rw [e_X9_mixClients, g_X9_mixClients_0, c3, show (3 : Int32) + nI (eNp E) = nI (3 + eNp E) from nI_add 3 _]
  obtain ⟨x', l, l1, l2⟩ := ax_lpE (fun i (x : ax_F × Int64) => ax_run P_X9_mixClients 16 [some (.inr (0, 0)), some (.inl (.long a)), none, some (.inl (.long x.2)), none, some (.inl (.int (nI (3 + eNp E)))), some (.inl (.int (nI i))), none, none] [] x.1 g 0 0) (fun _ x y => x.2 = y ∧ Same f x.1) (dC1 E S R f) (rNc R) (f, a) a ⟨rfl, Same.refl f⟩ (by
    intro i x y hi hI
    obtain ⟨F, b⟩ := x
    obtain ⟨k1, k2⟩ := hI
    have k1 : b = y := k1
    have k2 : Same f F := k2
    have h1 := h.same k2
    have c6 : F 0 0 6 = nI (rNc R) := h1.2.2.2.2.2.1.2.2.2.2.1.1
    have hw0 : wan E R F i 0 = wan E R f i 0 := wan_same h12 k2 i 0
    obtain ⟨f1, e1, hP, hF⟩ := cls_draw g i 0 h1 h1.2.1 h1.2.2.2.1 hi
    have h2 := h1.same (Same.fp hF)
    obtain ⟨f2, e2, z2⟩ := cls_wait g i 0 h2 hi ht
    have hw1 : wan E R f1 i 0 = wan E R f i 0 := (wan_same h12 (Same.fp hF) i 0).trans hw0
    rw [hw0] at hP
    rw [hw1] at e2
    refine ⟨(f2, dC1 E S R f i y), ?_, rfl, (k2.trans (Same.fp hF)).trans z2⟩
    show ax_run P_X9_mixClients 16 [_, _, _, some (.inl (.long b)), _, _, some (.inl (.int (nI i))), _, _] _ F _ _ _ = _
    rw [g_X9_mixClients_16, c6, if_neg (nI_ge hi (sm31 (by omega))), bd_n (by omega) (by decide)]
    refine (ax_lp (fun k (b : Int64) => ax_run P_X9_mixClients 37 [some (.inr (0, 0)), some (.inl (.long a)), none, some (.inl (.long b)), none, some (.inl (.int (nI (3 + eNp E)))), some (.inl (.int (nI i))), some (.inr (12, i)), some (.inl (.int (nI k)))] [] F g 0 0) (fun k b => 31 * b + Int32.toInt64 (clp R i k)) (3 + eNp E) b (fun k hk => ?_)).trans ?_
    · show ax_run P_X9_mixClients 37 [_, _, _, _, _, _, _, _, some (.inl (.int (nI k)))] _ _ _ _ _ = _
      rw [g_X9_mixClients_37, if_neg (nI_ge hk (sm31 (by omega))), cls_client g h1 hi (show k < 15 by omega), cali_r, x9_mix, call_r, nI_1]
    · show ax_run P_X9_mixClients 37 [_, _, _, _, _, _, _, _, some (.inl (.int (nI (3 + eNp E))))] _ _ _ _ _ = _
      rw [g_X9_mixClients_37, if_pos (nI_le (Nat.le_refl _) (sm31 (by omega))), e1, calv_r]
      refine (ax_lp (fun k (b : Int64) => ax_run P_X9_mixClients 80 [some (.inr (0, 0)), some (.inl (.long a)), none, some (.inl (.long b)), none, some (.inl (.int (nI (3 + eNp E)))), some (.inl (.int (nI i))), some (.inr (12, i)), some (.inl (.int (nI k)))] [] f1 g 0 0) (fun k b => 31 * b + Int32.toInt64 (wou E S R i (wan E R f i 0) k)) 5 _ (fun k hk => ?_)).trans ?_
      · show ax_run P_X9_mixClients 80 [_, _, _, _, _, _, _, _, some (.inl (.int (nI k)))] _ _ _ _ _ = _
        rw [g_X9_mixClients_80, if_neg (show ¬ (5 : Int32) ≤ nI k from nI_ge (b := 5) hk (by decide)), cls_planned g h1 hF hi hk hP (fun k hk => wan_in h i 0 k hk), cali_r, x9_mix, call_r, nI_1]
      · show ax_run P_X9_mixClients 80 [_, _, _, _, _, _, _, _, some (.inl (.int (nI 5)))] _ _ _ _ _ = _
        rw [g_X9_mixClients_80, if_pos (show (5 : Int32) ≤ nI 5 by decide +kernel), e2, cali_r, x9_mix, call_r, nI_1, k1]
        rfl)
  obtain ⟨F, b⟩ := x'
  have l1 : b = dCl E S R f (rNc R) a := l1
  have l2 : Same f F := l2
  refine ⟨F, l.trans ?_, l2⟩
  show ax_run P_X9_mixClients 16 [_, _, _, some (.inl (.long b)), _, _, some (.inl (.int (nI (rNc R)))), _, _] _ F _ _ _ = _
  have c6 : F 0 0 6 = nI (rNc R) := (h.same l2).2.2.2.2.2.1.2.2.2.2.1.1
  rw [g_X9_mixClients_16, c6, if_pos (nI_le (Nat.le_refl _) (sm31 (by omega))), l1]
theorem cls_digest (g) {E S R f} (h : W7 E S R f) (ht : sTm S + 60 < 2 ^ 30) : ∃ f', s_X9_digest [.inr (0, 0)] f g = rJ (dig E S R f) f' g ∧ Same f f' := by
  obtain ⟨f1, e1, z1⟩ := x9_mixClients g h ht (dMr E S (eNm E) (dIx E S R (eNi E) (dPk E S R f (eNp E) (mxL 10 (cnt E S R) 1999))))
  have h1 := h.same z1
  have hb := h1.2.2.2.2.2.1.2.2.2.2.2
  have hl60 : rLen R ≤ 60 := h.2.2.1.2.2.2.2.1
  refine ⟨f1, ?_, z1⟩
  rw [e_X9_digest, g_X9_digest_0]
  refine (ax_lp (fun k (b : Int64) => ax_run P_X9_digest 6 [some (.inr (0, 0)), some (.inl (.long b)), none, some (.inl (.int (nI k)))] [] f g 0 0) (fun k b => 31 * b + Int32.toInt64 (cnt E S R k)) 10 1999 (fun k hk => ?_)).trans ?_
  · show ax_run P_X9_digest 6 [_, _, _, some (.inl (.int (nI k)))] _ _ _ _ _ = _
    rw [g_X9_digest_6, if_neg (show ¬ (10 : Int32) ≤ nI k from nI_ge (b := 10) hk (by decide)), x9_counted g h hk, cali_r, x9_mix, call_r, nI_1]
  · show ax_run P_X9_digest 6 [_, some (.inl (.long (mxL 10 (cnt E S R) 1999))), _, some (.inl (.int (nI 10)))] _ _ _ _ _ = _
    rw [g_X9_digest_6, if_pos (show (10 : Int32) ≤ nI 10 by decide +kernel), x9_mixPackages g h, call_r, x9_mixIndexes g h, call_r, x9_mixMirrors g h, call_r, e1, call_r, x9_mix, call_r, hb.1]
    refine (ax_lp (fun k (b : Int64) => ax_run P_X9_digest 68 [some (.inr (0, 0)), some (.inl (.long b)), none, some (.inl (.int (nI k)))] [] f1 g 0 0) (fun k b => 31 * b + Int32.toInt64 (nI (rBuf R k))) (rLen R) _ (fun k hk => ?_)).trans ?_
    · show ax_run P_X9_digest 68 [_, _, _, some (.inl (.int (nI k)))] _ _ _ _ _ = _
      rw [g_X9_digest_68, hb.1, if_neg (nI_ge hk (sm31 (by omega))), bd_n (by omega) (by decide), hb.2 k hk, x9_mix, call_r, nI_1]
    · show ax_run P_X9_digest 68 [_, _, _, some (.inl (.int (nI (rLen R))))] _ _ _ _ _ = _
      rw [g_X9_digest_68, hb.1, if_pos (nI_le (Nat.le_refl _) (sm31 (by omega)))]
      rfl
end AYW
