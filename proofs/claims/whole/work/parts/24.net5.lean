/-! what the network answers -/
section AXR
theorem hs_bt {i : Nat} (hi : i < 32) (x : Int32) : hs x (nI i) = bt x i := by
  have h : bt (x >>> (nI i &&& 31) &&& 1) 0 = bt x i := by
    rw [b_and, b_sshr i hi x (by decide), if_pos (by omega)]
    show (bt x (i + 0) && true) = _
    rw [Bool.and_true, Nat.add_zero]
  rcases and1 (x >>> (nI i &&& 31)) with q | q
  · rw [hs_f.mpr q, ← h, q]; rfl
  · rw [hs_1.mpr q, ← h, q]; rfl
theorem nng {x : Int32} (h : x &&& (-2147483647) = 0) : ¬ x < 0 := by
  intro q
  have h1 : bt x 31 = false := by
    have h2 : bt (x &&& (-2147483647)) 31 = (bt x 31 && true) := by rw [b_and]; rfl
    rw [h, Bool.and_true] at h2
    exact h2.symm
  have h3 : x.toBitVec.msb = false := by rw [BitVec.msb_eq_getLsbD_last]; exact h1
  rw [i_lt] at q
  have h4 : x.toInt = x.toBitVec.toNat := BitVec.toInt_eq_toNat_of_msb h3
  have h5 : (0 : Int32).toInt = 0 := rfl
  omega
theorem ite_bb {α : Type} (c : Bool) (A B : α) : (if c = true then A else B) = if c = true then A else B := rfl
/-! one mirror -/
theorem x4_fileCount (g) {n E S f} {m : Nat} (hS : SW E S) (hD : ND n E S f) (hm : m < eNm E) : s_X4_fileCount [.inr (9, 6 * n + m)] f g = rI (ax_sum 12 (fun p => bts (sFl S m p))) f g := by
  rw [e_X4_fileCount, g_X4_fileCount_0]
  refine (ax_lp (fun i a => ax_run P_X4_fileCount 4 [some (.inr (9, 6 * n + m)), some (.inl (.int a)), some (.inl (.int (nI i)))] [] f g 0 0) (fun i a => a + bts (sFl S m i)) 12 0 (fun i hi => ?_)).trans ?_
  · show ax_run _ _ [_, _, some (.inl (.int (nI i)))] _ _ _ _ _ = _
    rw [g_X4_fileCount_4, if_neg (nI_ge hi (by decide)), bd_n hi (by decide), (hD.2.2 m hm).2.2 i hi, J6_bitCount (nng (hS.2.1 m hm i)), cali_r, nI_1]
  · show ax_run _ _ [_, _, some (.inl (.int (nI 12)))] _ _ _ _ _ = _
    rw [g_X4_fileCount_4, if_pos (nI_le (Nat.le_refl _) (by decide))]
    rfl
theorem bts_0 : bts 0 = 0 := by decide +kernel
theorem fcn_np {E S} {m : Nat} (hE : EW E) (hS : SW E S) (hm : m < eNm E) : ax_sum 12 (fun p => bts (sFl S m p)) = ax_sum (eNp E) (fun p => bts (sFl S m p)) := by
  have key : ∀ d, ax_sum (eNp E + d) (fun p => bts (sFl S m p)) = ax_sum (eNp E) (fun p => bts (sFl S m p)) := by
    intro d
    induction d with
    | zero => rfl
    | succ d ih =>
      show ax_sum (eNp E + d) _ + bts (sFl S m (eNp E + d)) = _
      rw [ih, hS.2.2.1 m hm (eNp E + d) (by omega), bts_0, Int32.add_zero]
  have := key (12 - eNp E)
  rw [show eNp E + (12 - eNp E) = 12 from by have := hE.1; omega] at this
  exact this
/-- minutes to the next pull -/
def nxp (d o t : Nat) : Nat := if (o + d - t % d) % d = 0 then d else (o + d - t % d) % d
theorem sgn_xor (x y : Int32) : (0 ≤ x ^^^ y) ↔ (x < 0 ↔ y < 0) := by
  have sg : ∀ z : Int32, z < 0 ↔ z.toBitVec.msb = true := by
    intro z
    rw [i_lt]
    show z.toBitVec.toInt < 0 ↔ _
    rw [BitVec.toInt_neg_iff, BitVec.msb_eq_true_iff_two_mul_ge]
  have h0 : (0 ≤ x ^^^ y) ↔ ¬ (x ^^^ y < 0) := by
    rw [i_le, i_lt]
    omega
  rw [h0, sg, sg, sg, Int32.toBitVec_xor, BitVec.msb_xor]
  cases x.toBitVec.msb <;> cases y.toBitVec.msb <;> simp
theorem J9_floorMod (f g) {a b d : Nat} (ha : a < 2 ^ 30) (hb : b < 2 ^ 30) (hd0 : 0 < d) (hd : d ≤ 60) : s_J9_floorMod [.inl (.int (nI a - nI b)), .inl (.int (nI d))] f g = rI (nI (if b ≤ a then (a - b) % d else if (b - a) % d = 0 then 0 else d - (b - a) % d)) f g := by
  rw [e_J9_floorMod, g_J9_floorMod_0, if_neg (nI_ne0 hd0 (sm31 (by omega)))]
  have hnd : ¬ nI d < 0 := nI_pos (sm31 (by omega))
  by_cases h : b ≤ a
  · rw [if_pos h, pk_sub h, if_pos ((sgn_xor _ _).mpr ⟨fun q => absurd q (nI_pos (by omega)), fun q => absurd q hnd⟩), pk_rem (by omega) hd0 (sm31 (by omega))]
  · rw [if_neg h, if_neg (fun q => hnd (((sgn_xor _ _).mp q).mp (pk_sneg (by omega) (by omega))))]
    have e : (nI a - nI b) - (nI a - nI b) / nI d * nI d = 0 - nI ((b - a) % d) := by
      have h1 : nI a - nI b = - nI (b - a) := by
        rw [← pk_sub (show a ≤ b by omega)]
        simp
      rw [← pk_rem (a := b - a) (d := d) (by omega) hd0 (sm31 (by omega)), h1]
      have h2 : (- nI (b - a)) / nI d = - (nI (b - a) / nI d) := by
        apply Int32.toInt_inj.mp
        have q1 : (nI (b - a)).toInt = ((b - a : Nat) : Int) := nI_toInt (by omega)
        have q2 : (nI d).toInt = (d : Int) := nI_toInt (by omega)
        have q3 : (- nI (b - a)).toInt = - ((b - a : Nat) : Int) := by
          rw [Int32.toInt_neg, q1, fb_bmod (by omega) (by omega)]
        have q4 : (nI (b - a) / nI d).toInt = (((b - a) / d : Nat) : Int) := by
          rw [pk_div (by omega) hd0 (by omega)]
          exact nI_toInt (Nat.lt_of_le_of_lt (Nat.div_le_self _ _) (by omega))
        have q5 : (b - a) / d ≤ b - a := Nat.div_le_self _ _
        rw [Int32.toInt_neg, q4, Int32.toInt_div, q3, q2, Int.neg_tdiv]
        rfl
      rw [h2]
      apply Int32.toBitVec_inj.mp
      simp only [Int32.toBitVec_sub, Int32.toBitVec_neg, Int32.toBitVec_mul]
      generalize (nI (b - a)).toBitVec = X
      generalize (nI (b - a) / nI d).toBitVec = Y
      generalize (nI d).toBitVec = Z
      rw [BitVec.neg_mul]
      simp [BitVec.sub_eq_add_neg, BitVec.neg_add]
    rw [e]
    have hm : (b - a) % d < d := Nat.mod_lt _ hd0
    by_cases c : (b - a) % d = 0
    · rw [if_pos c, c, if_pos (by decide +kernel)]
      rfl
    · rw [if_neg c, if_neg]
      · have : (0 : Int32) - nI ((b - a) % d) + nI d = nI (d - (b - a) % d) := by
          rw [← pk_sub (by omega), Int32.zero_sub, Int32.sub_eq_add_neg, Int32.add_comm]
        rw [this]
      · intro q
        have : nI ((b - a) % d) = 0 := by
          have q2 := congrArg (fun z => z + nI ((b - a) % d)) q
          simp at q2
          have q3 := congrArg (fun z => -z) q2
          simp at q3
          exact q3
        exact nI_ne0 (by omega) (sm31 (by omega)) this
theorem nxp_eq {d o t : Nat} (hd0 : 0 < d) (ho : o < d) : (if (if t ≤ o then (o - t) % d else if (t - o) % d = 0 then 0 else d - (t - o) % d) = 0 then d else (if t ≤ o then (o - t) % d else if (t - o) % d = 0 then 0 else d - (t - o) % d)) = nxp d o t := by
  have e : (if t ≤ o then (o - t) % d else if (t - o) % d = 0 then 0 else d - (t - o) % d) = (o + d - t % d) % d := by
    have hr : t % d < d := Nat.mod_lt _ hd0
    have ht : d * (t / d) + t % d = t := Nat.div_add_mod t d
    by_cases h : t ≤ o
    · rw [if_pos h]
      have : t % d = t := Nat.mod_eq_of_lt (by omega)
      rw [this, show o + d - t = (o - t) + d from by omega, Nat.add_mod_right]
    · rw [if_neg h]
      generalize t % d = r at *
      generalize t / d = q at *
      rcases Nat.lt_or_ge o r with c | c
      · have e1 : (t - o) % d = r - o := by
          have : t - o = (r - o) + d * q := by omega
          rw [this, Nat.add_mul_mod_self_left, Nat.mod_eq_of_lt (a := r - o) (by omega)]
        rw [e1, if_neg (by omega), Nat.mod_eq_of_lt (a := o + d - r) (by omega)]
        omega
      · have hq : 0 < q := by
          rcases Nat.eq_zero_or_pos q with z | z
          · subst z; omega
          · exact z
        obtain ⟨k, rfl⟩ : ∃ k, q = k + 1 := ⟨q - 1, by omega⟩
        rw [Nat.mul_succ] at ht
        rcases Nat.eq_or_lt_of_le c with z | z
        · have e1 : (t - o) % d = 0 := by
            have : t - o = d * (k + 1) := by rw [Nat.mul_succ]; omega
            rw [this, Nat.mul_mod_right]
          rw [e1, if_pos rfl, z, show o + d - o = d from by omega, Nat.mod_self]
        · have e1 : (t - o) % d = d + r - o := by
            have : t - o = (d + r - o) + d * k := by omega
            rw [this, Nat.add_mul_mod_self_left, Nat.mod_eq_of_lt (a := d + r - o) (by omega)]
          rw [e1, if_neg (by omega), show o + d - r = (o - r) + d from by omega, Nat.add_mod_right, Nat.mod_eq_of_lt (a := o - r) (by omega)]
          omega
  rw [e]
  rfl
theorem x4_minutesToPull (f g) (a : Nat) {t d o : Nat} (h2 : f 9 a 2 = nI d) (h3 : f 9 a 3 = nI o) (hd : 1 ≤ d ∧ d ≤ 60) (ho : o < d) (ht : t < 2 ^ 30) : s_X4_minutesToPull [.inr (9, a), .inl (.int (nI t))] f g = rI (nI (nxp d o t)) f g := by
  rw [e_X4_minutesToPull, g_X4_minutesToPull_0, h2, h3, if_pos (show (0 : Int32) < nI d from nI_lt (a := 0) (by omega) (sm31 (by omega))), J9_floorMod f g (by omega) ht (by omega) (by omega), cali_r, h2, ← nxp_eq (by omega) ho]
  generalize hz : (if t ≤ o then (o - t) % d else if (t - o) % d = 0 then 0 else d - (t - o) % d) = z
  have hzl : z ≤ 60 := by
    have q1 := Nat.mod_lt (o - t) (show 0 < d by omega)
    subst hz
    by_cases c : t ≤ o
    · rw [if_pos c]; omega
    · rw [if_neg c]
      by_cases c2 : (t - o) % d = 0
      · rw [if_pos c2]; omega
      · rw [if_neg c2]; omega
  by_cases c : z = 0
  · rw [if_pos c, c, if_pos (show nI 0 = 0 from rfl)]
  · rw [if_neg c, if_neg (nI_ne0 (by omega) (sm31 (by omega)))]
end AXR
