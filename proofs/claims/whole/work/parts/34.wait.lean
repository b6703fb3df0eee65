/-! how long a client must wait -/
section AYB
def wk (E : Ev) (R : Rt) (c : Nat) (w : Int32) (n k : Nat) (T : St) : Int32 := match n with
  | 0 => -1
  | n + 1 => if rea E T R c w = 0 then nI k else wk E R c w n (k + 1) (mnt E T)
theorem mnt_ok {E T} (hE : EW E) (hT : SW E T) (ht : sTm T + 1 < 2 ^ 30) : SW E (mnt E T) ∧ sTm (mnt E T) = sTm T + 1 := by
  have h := ax_it_inv (fun _ (U : St) => SW E U ∧ sTm U = sTm T + 1) (fun m U => if sTm U % eItv E m = eOfs E m then pul E U m else U) (eNm E) (sTick T) ⟨SW_tick hT ht, rfl⟩ (fun i U hi hU => by
    split
    · exact ⟨SW_pul hE hU.1 hi, by rw [pul_tm]; exact hU.2⟩
    · exact hU) (eNm E) (Nat.le_refl _)
  exact h
theorem wan_same {E R f f'} (h12 : eNp E ≤ 12) (z : Same f f') (c pk) : wan E R f' c pk = wan E R f c pk := xcl_congr _ (fun i hi => z 3 i 3 (by unfold Scr; omega))
theorem cls_wait26 (g) {E S R f0} (c : Nat) (pk : Int32) (h0 : W7 E S R f0) (hc : c < rNc R) : ∀ d k, k + d = 60 → ∀ T f, SW E T → sTm T + d < 2 ^ 30 → NX 1 E T f → Same f0 f → PlQ E T R c (wan E R f0 c pk) f → ∃ f', ax_run P_X9_minutesToAcceptance 26 [some (.inr (0, 0)), some (.inr (12, c)), some (.inl (.int pk)), some (.inl (.int (nI k)))] [] f g 0 0 = rI (wk E R c (wan E R f0 c pk) (d + 1) k T) f' g ∧ Same f0 f' := by
  have hE := h0.1
  intro d
  induction d with
  | zero =>
    intro k hk T f hT ht hX hs hP
    refine ⟨f, ?_, hs⟩
    rw [g_X9_minutesToAcceptance_26, if_pos (show (60 : Int32) ≤ nI k from nI_le (a := 60) (by omega) (sm31 (by omega))), hP.2.2.1]
    show _ = rI (if rea E T R c (wan E R f0 c pk) = 0 then nI k else -1) f g
    have := rea_le E T R c (wan E R f0 c pk)
    by_cases q : rea E T R c (wan E R f0 c pk) = 0
    · rw [if_pos q, q, if_pos (show nI 0 = 0 from rfl), show k = 60 from by omega]; rfl
    · rw [if_neg q, if_neg (nI_ne0 (by omega) (sm31 (by omega)))]
  | succ d ih =>
    intro k hk T f hT ht hX hs hP
    rw [g_X9_minutesToAcceptance_26, if_neg (show ¬ (60 : Int32) ≤ nI k from nI_ge (b := 60) (by omega) (by decide)), hP.2.2.1]
    show ∃ f', _ = rI (if rea E T R c (wan E R f0 c pk) = 0 then nI k else wk E R c (wan E R f0 c pk) (d + 1) (k + 1) (mnt E T)) f' g ∧ _
    have := rea_le E T R c (wan E R f0 c pk)
    by_cases q : rea E T R c (wan E R f0 c pk) = 0
    · rw [if_pos q, q, if_pos (show nI 0 = 0 from rfl)]
      exact ⟨f, rfl, hs⟩
    · rw [if_neg q, if_neg (nI_ne0 (by omega) (sm31 (by omega)))]
      obtain ⟨f2, e2, hX2, hT2, htm, hF2⟩ := x5_passMinute g hE hT (by omega) hX
      have hs2 : Same f0 f2 := hs.trans (Same.fg1 hF2.fg)
      obtain ⟨f3, e3, hP3, hF3⟩ := cls_draw g c pk (h0.same hs2) hT2 hX2 hc
      rw [wan_same hE.1 hs2] at hP3
      rw [e2, calv_r, e3, calv_r, nI_1]
      exact ih (k + 1) (by omega) (mnt E T) f3 hT2 (by omega) (hX2.fp hF3) (hs2.trans (Same.fp hF3)) hP3
theorem cls_wait (g) {E S R f} (c : Nat) (pk : Int32) (h : W7 E S R f) (hc : c < rNc R) (ht : sTm S + 60 < 2 ^ 30) : ∃ f', s_X9_minutesToAcceptance [.inr (0, 0), .inr (12, c), .inl (.int pk)] f g = rI (wk E R c (wan E R f c pk) 61 0 S) f' g ∧ Same f f' := by
  have hE := h.1
  rw [e_X9_minutesToAcceptance, g_X9_minutesToAcceptance_0]
  obtain ⟨f1, e1, hX1, hF1⟩ := x5_copyFrom g hE h.2.2.2.1
  have hs1 := Same.fg1 hF1
  obtain ⟨f2, e2, hP2, hF2⟩ := cls_draw g c pk (h.same hs1) h.2.1 hX1 hc
  rw [wan_same hE.1 hs1] at hP2
  rw [e1, calv_r, e2, calv_r]
  exact cls_wait26 g c pk h hc 60 0 (by omega) S f2 h.2.1 (by omega) (hX1.fp hF2) (hs1.trans (Same.fp hF2)) hP2
/-! the reference -/
theorem x10_keep (f g) (hb : ∀ m, m < 6 → f 43 0 m = 0 ∨ f 43 0 m = 1) : ∃ f', s_X10_keep [.inr (19, 0)] f g = rV f' g ∧ (∀ m, m < 6 → f' 57 0 m = f 42 0 m ∧ f' 58 0 m = f 43 0 m) ∧ (∀ k, k < 72 → f' 59 0 k = f 44 0 k) ∧ ∀ k i j, k ≠ 57 ∧ k ≠ 58 ∧ k ≠ 59 → f' k i j = f k i j := by
  rw [e_X10_keep, g_X10_keep_0]
  obtain ⟨x1, h1, i1, i2⟩ := ax_lpE (fun i (x : ax_F) => ax_run P_X10_keep 2 [some (.inr (19, 0)), some (.inl (.int (nI i)))] [] x g 0 0) (fun i x (_ : Unit) => (∀ m, m < i → x 57 0 m = f 42 0 m ∧ x 58 0 m = f 43 0 m) ∧ ∀ k i j, k ≠ 57 ∧ k ≠ 58 → x k i j = f k i j) (fun _ y => y) 6 f () ⟨fun m hm => absurd hm (by omega), fun _ _ _ _ => rfl⟩ (by
    intro i x _ hi hI
    obtain ⟨i1, i2⟩ := hI
    have bi : ∀ kk, ax_bd (nI i) 6 kk = kk i := fun kk => bd_n hi (by decide) kk
    rw [g_X10_keep_2, if_neg (show ¬ (6 : Int32) ≤ nI i from nI_ge hi (by decide)), nI_1]
    simp only [bi]
    have e : ∀ v, (ax_up x 57 0 i v) 43 0 i = f 43 0 i := fun v => by simp [ax_up_ap]; exact i2 _ _ _ (by decide)
    rw [e, bb_of (hb i hi), i2 42 0 i (by decide)]
    refine ⟨_, rfl, fun m hm => ?_, fun k a b q => ?_⟩
    · by_cases hmi : m = i
      · subst hmi; simp [ax_up_ap]
      · simp [ax_up_ap, hmi]; exact i1 m (by omega)
    · simp only [ax_up_ap]
      rw [if_neg (fun w => q.2 w.1), if_neg (fun w => q.1 w.1)]
      exact i2 k a b q)
  obtain ⟨x2, h2, j1, j2⟩ := ax_lpE (fun i (x : ax_F) => ax_run P_X10_keep 40 [some (.inr (19, 0)), some (.inl (.int (nI i)))] [] x g 0 0) (fun i x (_ : Unit) => (∀ m, m < i → x 59 0 m = f 44 0 m) ∧ ∀ k i j, k ≠ 59 → x k i j = x1 k i j) (fun _ y => y) 72 x1 () ⟨fun m hm => absurd hm (by omega), fun _ _ _ _ => rfl⟩ (by
    intro i x _ hi hI
    obtain ⟨j1, j2⟩ := hI
    rw [g_X10_keep_40, if_neg (show ¬ (72 : Int32) ≤ nI i from nI_ge hi (by decide)), nI_1, bd_n hi (by decide), bd_n hi (by decide), j2 44 0 i (by decide), i2 44 0 i (by decide)]
    refine ⟨_, rfl, fun m hm => ?_, fun k a b q => ?_⟩
    · by_cases hmi : m = i
      · subst hmi; simp [ax_up_ap]
      · simp [ax_up_ap, hmi]; exact j1 m (by omega)
    · simp only [ax_up_ap]
      rw [if_neg (fun w => q w.1)]
      exact j2 k a b q)
  refine ⟨x2, h1.trans ?_, fun m hm => ?_, j1, fun k i j q => ?_⟩
  · rw [g_X10_keep_2, if_pos (show (6 : Int32) ≤ nI 6 from nI_le (Nat.le_refl _) (by decide))]
    refine h2.trans ?_
    rw [g_X10_keep_40, if_pos (show (72 : Int32) ≤ nI 72 from nI_le (Nat.le_refl _) (by decide))]
  · rw [j2 57 0 m (by decide), j2 58 0 m (by decide)]; exact i1 m hm
  · rw [j2 k i j q.2.2, i2 k i j ⟨q.1, q.2.1⟩]
theorem x10_takeBack (f g) (hb : ∀ m, m < 6 → f 58 0 m = 0 ∨ f 58 0 m = 1) : ∃ f', s_X10_takeBack [.inr (19, 0)] f g = rV f' g ∧ (∀ m, m < 6 → f' 42 0 m = f 57 0 m ∧ f' 43 0 m = f 58 0 m) ∧ (∀ k, k < 72 → f' 44 0 k = f 59 0 k) ∧ ∀ k i j, k ≠ 42 ∧ k ≠ 43 ∧ k ≠ 44 → f' k i j = f k i j := by
  rw [e_X10_takeBack, g_X10_takeBack_0]
  obtain ⟨x1, h1, i1, i2⟩ := ax_lpE (fun i (x : ax_F) => ax_run P_X10_takeBack 2 [some (.inr (19, 0)), some (.inl (.int (nI i)))] [] x g 0 0) (fun i x (_ : Unit) => (∀ m, m < i → x 42 0 m = f 57 0 m ∧ x 43 0 m = f 58 0 m) ∧ ∀ k i j, k ≠ 42 ∧ k ≠ 43 → x k i j = f k i j) (fun _ y => y) 6 f () ⟨fun m hm => absurd hm (by omega), fun _ _ _ _ => rfl⟩ (by
    intro i x _ hi hI
    obtain ⟨i1, i2⟩ := hI
    have bi : ∀ kk, ax_bd (nI i) 6 kk = kk i := fun kk => bd_n hi (by decide) kk
    rw [g_X10_takeBack_2, if_neg (show ¬ (6 : Int32) ≤ nI i from nI_ge hi (by decide)), nI_1]
    simp only [bi]
    have e : ∀ v, (ax_up x 42 0 i v) 58 0 i = f 58 0 i := fun v => by simp [ax_up_ap]; exact i2 _ _ _ (by decide)
    rw [e, bb_of (hb i hi), i2 57 0 i (by decide)]
    refine ⟨_, rfl, fun m hm => ?_, fun k a b q => ?_⟩
    · by_cases hmi : m = i
      · subst hmi; simp [ax_up_ap]
      · simp [ax_up_ap, hmi]; exact i1 m (by omega)
    · simp only [ax_up_ap]
      rw [if_neg (fun w => q.2 w.1), if_neg (fun w => q.1 w.1)]
      exact i2 k a b q)
  obtain ⟨x2, h2, j1, j2⟩ := ax_lpE (fun i (x : ax_F) => ax_run P_X10_takeBack 40 [some (.inr (19, 0)), some (.inl (.int (nI i)))] [] x g 0 0) (fun i x (_ : Unit) => (∀ m, m < i → x 44 0 m = f 59 0 m) ∧ ∀ k i j, k ≠ 44 → x k i j = x1 k i j) (fun _ y => y) 72 x1 () ⟨fun m hm => absurd hm (by omega), fun _ _ _ _ => rfl⟩ (by
    intro i x _ hi hI
    obtain ⟨j1, j2⟩ := hI
    rw [g_X10_takeBack_40, if_neg (show ¬ (72 : Int32) ≤ nI i from nI_ge hi (by decide)), nI_1, bd_n hi (by decide), bd_n hi (by decide), j2 59 0 i (by decide), i2 59 0 i (by decide)]
    refine ⟨_, rfl, fun m hm => ?_, fun k a b q => ?_⟩
    · by_cases hmi : m = i
      · subst hmi; simp [ax_up_ap]
      · simp [ax_up_ap, hmi]; exact j1 m (by omega)
    · simp only [ax_up_ap]
      rw [if_neg (fun w => q w.1)]
      exact j2 k a b q)
  refine ⟨x2, h1.trans ?_, fun m hm => ?_, j1, fun k i j q => ?_⟩
  · rw [g_X10_takeBack_2, if_pos (show (6 : Int32) ≤ nI 6 from nI_le (Nat.le_refl _) (by decide))]
    refine h2.trans ?_
    rw [g_X10_takeBack_40, if_pos (show (72 : Int32) ≤ nI 72 from nI_le (Nat.le_refl _) (by decide))]
  · rw [j2 42 0 m (by decide), j2 43 0 m (by decide)]; exact i1 m hm
  · rw [j2 k i j q.2.2, i2 k i j ⟨q.1, q.2.1⟩]
theorem NM.of5 {E S f f'} (h : NM E S f) (z : ∀ k i j, k < 54 → f' k i j = f k i j) : NM E S f' := by
  obtain ⟨⟨d1, d2, d3, d4, d5⟩, ⟨e1, e2⟩, g1, g2, g3⟩ := h
  refine ⟨⟨?_, ?_, fun p hp => ?_, fun j p hj hp => ?_, d5⟩, ⟨?_, fun m hm => ?_⟩, ?_, ?_, fun m hm => ?_⟩
  · rw [z _ _ _ (by decide)]; exact d1
  · rw [z _ _ _ (by decide)]; exact d2
  · rw [z _ _ _ (by decide), z _ _ _ (by decide)]; exact d3 p hp
  · rw [z _ _ _ (by decide)]; exact d4 j p hj hp
  · rw [z _ _ _ (by decide)]; exact e1
  · rw [z 36 _ _ (by decide), z 37 _ _ (by decide), z 38 _ _ (by decide), z 39 _ _ (by decide), z 40 _ _ (by decide), z 41 _ _ (by decide)]; exact e2 m hm
  · rw [z _ _ _ (by decide)]; exact g1
  · rw [z _ _ _ (by decide)]; exact g2
  · rw [z 42 _ _ (by decide), z 43 _ _ (by decide)]
    exact ⟨(g3 m hm).1, (g3 m hm).2.1, fun p hp => by rw [z 44 _ _ (by decide)]; exact (g3 m hm).2.2 p hp⟩
theorem ref_wait (g) {E S R f} (c : Nat) (pk : Int32) (h : W7 E S R f) (hc : c < rNc R) (ht : sTm S + 61 < 2 ^ 30) (hpk : ∀ k, eNp E ≤ k → k < 32 → bt pk k = false) : ∃ f', s_X10_waits [.inr (19, 0), .inl (.int (nI c)), .inl (.int pk)] f g = rI (wk E R c (wan E R f c pk) 61 0 S) f' g ∧ Same f f' ∧ f' 19 0 0 = f 19 0 0 := by
  have hE := h.1
  obtain ⟨-, -, -, -, -, -, -, hb⟩ := h.2.2.2.2.2.2
  rw [e_X10_waits, g_X10_waits_0]
  obtain ⟨f1, e1, k1, k2, k3⟩ := x10_keep f g hb
  rw [e1, calv_r]
  have hM1 : NM E S f1 := h.2.2.2.2.1.of5 (fun k i j q => k3 k i j (by omega))
  have fin : ∀ F, Fm f1 F → ∃ f', s_X10_takeBack [.inr (19, 0)] (ax_up (ax_up F 19 0 6 (f 19 0 6)) 19 0 8 (f 19 0 8)) g = rV f' g ∧ Same f f' ∧ f' 19 0 0 = f 19 0 0 := by
    intro F hF
    have u : ∀ k i j, k ≠ 19 → (ax_up (ax_up F 19 0 6 (f 19 0 6)) 19 0 8 (f 19 0 8)) k i j = F k i j := fun k i j q => by
      simp only [ax_up_ap]
      rw [if_neg (fun w => q w.1), if_neg (fun w => q w.1)]
    have w7 : ∀ k j, k = 57 ∨ k = 58 ∨ k = 59 → (ax_up (ax_up F 19 0 6 (f 19 0 6)) 19 0 8 (f 19 0 8)) k 0 j = f1 k 0 j := fun k j q => by
      rw [u k 0 j (by omega)]
      exact hF.1 k 0 j (by omega) (by omega) (by omega) (by omega)
    obtain ⟨f', e', t1, t2, t3⟩ := x10_takeBack (ax_up (ax_up F 19 0 6 (f 19 0 6)) 19 0 8 (f 19 0 8)) g (fun m hm => by
      rw [w7 58 m (by decide), (k1 m hm).2]; exact hb m hm)
    refine ⟨f', e', fun k i j q => ?_, ?_⟩
    rotate_left
    · rw [t3 19 0 0 (by decide)]
      simp only [ax_up_ap]
      rw [if_neg (by decide), if_neg (by decide), hF.1 19 0 0 (by decide) (by decide) (by decide) (by decide)]
      exact k3 19 0 0 (by decide)
    by_cases c2 : k = 42
    · subst c2
      have : i = 0 ∧ j < 6 := by unfold Scr at q; omega
      obtain ⟨rfl, hj⟩ := this
      rw [(t1 j hj).1, w7 57 j (by decide), (k1 j hj).1]
    by_cases c3 : k = 43
    · subst c3
      have : i = 0 ∧ j < 6 := by unfold Scr at q; omega
      obtain ⟨rfl, hj⟩ := this
      rw [(t1 j hj).2, w7 58 j (by decide), (k1 j hj).2]
    by_cases c4 : k = 44
    · subst c4
      have : i = 0 ∧ j < 72 := by unfold Scr at q; omega
      obtain ⟨rfl, hj⟩ := this
      rw [t2 j hj, w7 59 j (by decide), k2 j hj]
    rw [t3 k i j ⟨c2, c3, c4⟩]
    have hk : k < 54 := by unfold Scr at q; omega
    simp only [ax_up_ap]
    by_cases d8 : k = 19 ∧ i = 0 ∧ j = 8
    · rw [if_pos d8]; obtain ⟨rfl, rfl, rfl⟩ := d8; rfl
    rw [if_neg d8]
    by_cases d6 : k = 19 ∧ i = 0 ∧ j = 6
    · rw [if_pos d6]; obtain ⟨rfl, rfl, rfl⟩ := d6; rfl
    rw [if_neg d6, hF.1 k i j c2 c3 c4 (by omega)]
    exact k3 k i j (by omega)
  have loop : ∀ d k, k + d = 61 → ∀ T F, SW E T → sTm T + d < 2 ^ 30 → NM E T F → Fm f1 F → ∃ f', ax_run P_X10_waits 18 [some (.inr (19, 0)), some (.inl (.int (nI c))), some (.inl (.int pk)), some (.inl (.int (f 19 0 6))), some (.inl (.int (f 19 0 8))), some (.inl (.int (nI k)))] [] F g 0 0 = rI (wk E R c (wan E R f c pk) d k T) f' g ∧ Same f f' ∧ f' 19 0 0 = f 19 0 0 := by
    intro d
    induction d with
    | zero =>
      intro k hk T F hT htm hM hF
      obtain ⟨f', e', hs⟩ := fin F hF
      have h60 : (60 : Int32) < nI k := nI_lt (a := 60) (by omega) (sm31 (by omega))
      rw [g_X10_waits_18, if_pos h60, e', calv_r, if_pos h60]
      exact ⟨f', rfl, hs⟩
    | succ d ih =>
      intro k hk T F hT htm hM hF
      have h60 : ¬ (60 : Int32) < nI k := nI_nlt (a := 60) (by omega) (by decide)
      obtain ⟨r1, -, -⟩ := ref_reason g c pk h hT hM (fun k i j q => by
        rw [hF.1 k i j (by omega) (by omega) (by omega) (by omega)]
        exact k3 k i j (by omega)) hc hpk
      have hle := rea_le E T R c (wan E R f c pk)
      rw [g_X10_waits_18, if_neg h60, r1, cali_r]
      show ∃ f', _ = rI (if rea E T R c (wan E R f c pk) = 0 then nI k else wk E R c (wan E R f c pk) d (k + 1) (mnt E T)) f' g ∧ _
      by_cases q : rea E T R c (wan E R f c pk) = 0
      · obtain ⟨f', e', hs⟩ := fin F hF
        rw [if_pos q, q, if_pos (show nI 0 ≤ 0 by decide +kernel), e', calv_r, if_neg h60]
        exact ⟨f', rfl, hs⟩
      · rw [if_neg q, if_neg (nI_nle (by omega) (sm31 (by omega)))]
        obtain ⟨f2, e2, hM2, hF2⟩ := x10_minute g hE hT (by omega) hM
        obtain ⟨hT2, htm2⟩ := mnt_ok hE hT (by omega)
        rw [e2, calv_r, nI_1]
        exact ih (k + 1) (by omega) (mnt E T) f2 hT2 (by omega) hM2 (hF.trans hF2)
  exact loop 61 0 (by omega) S f1 h.2.1 (by omega) hM1 (Fm.refl f1)
end AYB
