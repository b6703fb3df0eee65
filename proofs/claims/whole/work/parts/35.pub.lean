/-! the public calls: what class and reference do, side by side -/
section AYC
theorem t_0 {α : Type} (f : ax_F) (A B : α) : (if (ax_up f 19 0 0 0) 19 0 0 ≤ 0 then A else B) = A := by rw [ax_up_s]; exact if_pos (by decide +kernel)
theorem t_1 {α : Type} (f : ax_F) (A B : α) : (if (ax_up f 19 0 0 1) 19 0 0 ≤ 0 then A else B) = B := by rw [ax_up_s]; exact if_neg (by decide +kernel)
theorem t_2 {α : Type} (f : ax_F) (A B : α) : (if (ax_up f 19 0 0 2) 19 0 0 ≤ 0 then A else B) = B := by rw [ax_up_s]; exact if_neg (by decide +kernel)
theorem t_3 {α : Type} (f : ax_F) (A B : α) : (if (ax_up f 19 0 0 3) 19 0 0 ≤ 0 then A else B) = B := by rw [ax_up_s]; exact if_neg (by decide +kernel)
/-- a call of the class, then of the reference -/
def PQ (n : Nat) (tb : List (Nat × Int32)) (cl md : ax_F → ax_G → Option ax_Fin) (f : ax_F) (g : ax_G) : Prop := (∃ v f1, cl f g = rI v f1 g ∧ ∀ g', ∃ f2, md f1 g' = rI v f2 g' ∧ f2 19 0 0 = 0 ∧ Inv (n + 1) f2) ∨ ∃ e k f1, (e, k) ∈ tb ∧ cl f g = rX e f1 g ∧ ∀ g', ∃ f2 b, md f1 g' = rI b f2 g' ∧ f2 19 0 0 = k ∧ Inv (n + 1) f2
theorem Inv.same {n f f'} (h : Inv n f) (z : Same f f') : Inv (n + 1) f' := by
  obtain ⟨E, S, R, h7, ht⟩ := h
  exact ⟨E, S, R, h7.same z, by omega⟩
theorem PQ.x {n tb cl md f g} (e : Nat) (k : Int32) (hI : Inv n f) (hk : (e, k) ∈ tb) (h1 : cl f g = rX e f g) (h2 : ∀ g', md f g' = rI 0 (ax_up f 19 0 0 k) g') : PQ n tb cl md f g := Or.inr ⟨e, k, f, hk, h1, fun g' => ⟨_, 0, h2 g', ax_up_s _ _ _ _ _, hI.same (Same.up0 f k)⟩⟩
/-- .. and the class's scratch changes -/
theorem PQ.xs {n tb cl md f f1 g} (e : Nat) (k : Int32) (hI : Inv n f) (hk : (e, k) ∈ tb) (h1 : cl f g = rX e f1 g) (z : Same f f1) (h2 : ∀ g', ∃ f2, md f1 g' = rI 0 f2 g' ∧ f2 19 0 0 = k ∧ Same f1 f2) : PQ n tb cl md f g := Or.inr ⟨e, k, f1, hk, h1, fun g' => by
  obtain ⟨f2, e2, t2, z2⟩ := h2 g'
  exact ⟨f2, 0, e2, t2, hI.same (z.trans z2)⟩⟩
/-- a question -/
theorem PQ.q {n tb cl md f g} (v : Int32) {f1 : ax_F} (hI : Inv n f) (h1 : cl f g = rI v f1 g) (z1 : Same f f1) (h2 : ∀ g', ∃ f2, md f1 g' = rI v f2 g' ∧ f2 19 0 0 = 0 ∧ Same f1 f2) : PQ n tb cl md f g := Or.inl ⟨v, f1, h1, fun g' => by
  obtain ⟨f2, e2, t2, z2⟩ := h2 g'
  exact ⟨f2, e2, t2, hI.same (z1.trans z2)⟩⟩
/-- a question whose answer changes the thrown code alone -/
theorem PQ.q0 {n tb cl md f g} (v : Int32) {f1 : ax_F} (hI : Inv n f) (h1 : cl f g = rI v f1 g) (z1 : Same f f1) (h2 : ∀ g', md f1 g' = rI v (ax_up f1 19 0 0 0) g') : PQ n tb cl md f g := Or.inl ⟨v, f1, h1, fun g' => ⟨_, h2 g', ax_up_s _ _ _ _ _, hI.same (z1.trans (Same.up0 f1 0))⟩⟩
/-- a change -/
theorem PQ.c {n tb cl md f g} (v : Int32) {f1 f2 : ax_F} (h1 : cl f g = rI v f1 g) (h2 : ∀ g', md f1 g' = rI v f2 g') (h3 : f2 19 0 0 = 0) (h4 : Inv (n + 1) f2) : PQ n tb cl md f g := Or.inl ⟨v, f1, h1, fun g' => ⟨f2, h2 g', h3, h4⟩⟩
/-! ranges -/
theorem rng (x : Int32) {n : Nat} (b : Int32) (hn : n ≤ 1000) (hb : b = nI n - 1) : (∃ m, m < n ∧ x = nI m) ∨ ((x < 0 ∨ ¬ x < nI n) ∧ ¬ (¬ x < 0 ∧ ¬ b < x)) := by
  rcases pk_ix x (sm31 hn) with h | h | ⟨j, h1, h2⟩
  · exact Or.inr ⟨Or.inl h, fun q => q.1 h⟩
  · refine Or.inr ⟨Or.inr (by rw [i_lt]; rw [i_le] at h; omega), fun q => q.2 ?_⟩
    rw [hb]
    rcases Nat.eq_zero_or_pos n with z | z
    · subst z
      rw [i_lt]
      rw [i_le] at h
      have e1 : (nI 0).toInt = 0 := rfl
      have e2 : (nI 0 - 1).toInt = -1 := by decide +kernel
      omega
    · rw [nI_sub1 (by omega)]
      rw [i_lt]
      rw [i_le, nI_toInt (sm31 (by omega))] at h
      rw [nI_toInt (sm31 (by omega))]
      omega
  · exact Or.inl ⟨j, h1, h2⟩
theorem rng_ok {m n : Nat} (b : Int32) (hm : m < n) (hn : n ≤ 1000) (hb : b = nI n - 1) : ¬ nI m < 0 ∧ ¬ b < nI m := by
  refine ⟨nI_pos (sm31 (by omega)), ?_⟩
  rw [hb, nI_sub1 (by omega)]
  exact nI_nlt (by omega) (sm31 (by omega))
theorem rq (x : Int32) {A : Option ax_Fin} {B : Option ax_Fin} {n : Nat} (hn : n ≤ 1000) (h : x < 0 ∨ ¬ x < nI n) : (if x < 0 then A else if x < nI n then B else A) = A := by
  by_cases c : x < 0
  · rw [if_pos c]
  · rw [if_neg c, if_neg (h.resolve_left c)]
theorem rq_ok {A B : Option ax_Fin} {m n : Nat} (hm : m < n) (hn : n ≤ 1000) : (if nI m < 0 then A else if nI m < nI n then B else A) = B := by
  rw [if_neg (nI_pos (sm31 (by omega))), if_pos (nI_lt hm (sm31 hn))]
theorem x9_kind (f g) (x : Int32) {n : Nat} (hn : n ≤ 1000) : (∀ m, m < n → x = nI m → s_X9_requireKind [.inl (.int x), .inl (.int (nI n))] f g = rV f g) ∧ ((x < 0 ∨ ¬ x < nI n) → s_X9_requireKind [.inl (.int x), .inl (.int (nI n))] f g = rX 1 f g) := by
  rw [e_X9_requireKind, g_X9_requireKind_0]
  exact ⟨fun m hm e => by rw [e]; exact rq_ok hm hn, fun h => rq x hn h⟩
theorem x9_pkg (f g) (x : Int32) {n : Nat} (hf : f 1 0 3 = nI n) (hn : n ≤ 1000) : (∀ m, m < n → x = nI m → s_X9_requirePackage [.inr (0, 0), .inl (.int x)] f g = rV f g) ∧ ((x < 0 ∨ ¬ x < nI n) → s_X9_requirePackage [.inr (0, 0), .inl (.int x)] f g = rX 3 f g) := by
  rw [e_X9_requirePackage, g_X9_requirePackage_0, hf]
  exact ⟨fun m hm e => by rw [e]; exact rq_ok hm hn, fun h => rq x hn h⟩
theorem x9_mir (f g) (x : Int32) {n : Nat} (hf : f 7 0 2 = nI n) (hn : n ≤ 1000) : (∀ m, m < n → x = nI m → s_X9_requireMirror [.inr (0, 0), .inl (.int x)] f g = rV f g) ∧ ((x < 0 ∨ ¬ x < nI n) → s_X9_requireMirror [.inr (0, 0), .inl (.int x)] f g = rX 3 f g) := by
  rw [e_X9_requireMirror, g_X9_requireMirror_0, hf]
  exact ⟨fun m hm e => by rw [e]; exact rq_ok hm hn, fun h => rq x hn h⟩
theorem x9_cli (f g) (x : Int32) {n : Nat} (hf : f 0 0 6 = nI n) (hn : n ≤ 1000) : (∀ m, m < n → x = nI m → s_X9_requireClient [.inr (0, 0), .inl (.int x)] f g = rV f g) ∧ ((x < 0 ∨ ¬ x < nI n) → s_X9_requireClient [.inr (0, 0), .inl (.int x)] f g = rX 3 f g) := by
  rw [e_X9_requireClient, g_X9_requireClient_0, hf]
  exact ⟨fun m hm e => by rw [e]; exact rq_ok hm hn, fun h => rq x hn h⟩
theorem x9_set (f g) (x : Int32) {n : Nat} (hf : f 1 0 3 = nI n) : s_X9_requirePackages [.inr (0, 0), .inl (.int x)] f g = if hbf x n = true then rX 1 f g else rV f g := by
  rw [e_X9_requirePackages, g_X9_requirePackages_0, hf, x9_hasBitFrom, cali_r, ite_b2]
theorem x10_isM (f g) (x : Int32) : s_X10_isMirror [.inr (19, 0), .inl (.int x)] f g = rI (b2 (decide (¬ x < 0 ∧ ¬ f 19 0 4 - 1 < x))) f g := by
  rw [e_X10_isMirror, g_X10_isMirror_0, x10_within, cali_r, bb_of (b2_01 _)]
theorem x10_isP (f g) (x : Int32) : s_X10_isPackage [.inr (19, 0), .inl (.int x)] f g = rI (b2 (decide (¬ x < 0 ∧ ¬ f 19 0 2 - 1 < x))) f g := by
  rw [e_X10_isPackage, g_X10_isPackage_0, x10_within, cali_r, bb_of (b2_01 _)]
theorem x10_isC (f g) (x : Int32) : s_X10_isClient [.inr (19, 0), .inl (.int x)] f g = rI (b2 (decide (¬ x < 0 ∧ ¬ f 19 0 5 - 1 < x))) f g := by
  rw [e_X10_isClient, g_X10_isClient_0, x10_within, cali_r, bb_of (b2_01 _)]
theorem bt31 (x : Int32) : x < 0 ↔ bt x 31 = true := by
  rw [i_lt]
  show x.toBitVec.toInt < 0 ↔ _
  rw [BitVec.toInt_neg_iff]
  exact BitVec.msb_eq_true_iff_two_mul_ge.symm.trans (by rw [BitVec.msb_eq_getLsbD_last]; rfl)
theorem x10_set (f g) (x : Int32) {n : Nat} (hn : n ≤ 12) : s_X10_isSetOf [.inr (19, 0), .inl (.int x), .inl (.int (nI n))] f g = rI (b2 (!hbf x n)) f g := by
  rw [e_X10_isSetOf, g_X10_isSetOf_0]
  have e : hbf x n = false ↔ ¬ x < 0 ∧ x >>> (nI n &&& 31) = 0 := by
    unfold hbf
    rw [decide_eq_false_iff_not, Classical.not_not, us_bt (by omega), bt31]
    constructor
    · intro h
      refine ⟨by rw [h 31 (by omega) (by omega)]; decide, b_ext (fun i hi => ?_)⟩
      rw [b_sshr n (by omega) x hi, b_0]
      split
      · exact h _ (by omega) (by omega)
      · exact h 31 (by omega) (by omega)
    · rintro ⟨h1, h2⟩ i h3 h4
      have := b_sshr n (by omega) x (i := i - n) (by omega)
      rw [h2, b_0, if_pos (by omega), show n + (i - n) = i from by omega] at this
      exact this.symm
  by_cases c : x < 0
  · rw [if_pos c]
    cases q : hbf x n
    · exact absurd c (e.mp q).1
    · rfl
  · rw [if_neg c]
    by_cases d : x >>> (nI n &&& 31) = 0
    · rw [if_pos d, e.mpr ⟨c, d⟩]; rfl
    · rw [if_neg d]
      cases q : hbf x n
      · exact absurd (e.mp q).2 d
      · rfl
theorem hbf_bt {x : Int32} {n : Nat} (hn : n ≤ 12) (h : hbf x n = false) : ∀ k, n ≤ k → k < 32 → bt x k = false := by
  unfold hbf at h
  rw [decide_eq_false_iff_not, Classical.not_not, us_bt (by omega)] at h
  exact h
/-! mirror, files -/
theorem p_mirror {n f} (g) (x1 x2 : Int32) (hI : Inv n f) : PQ n [(3, 1), (1, 2)] (s_X9_mirror [.inr (0, 0), .inl (.int x1), .inl (.int x2)]) (s_X10_mirror [.inr (19, 0), .inl (.int x1), .inl (.int x2)]) f g := by
  have hI0 := hI
  obtain ⟨E, S, R, h, ht⟩ := hI
  obtain ⟨hE, hS, hR, hX, hM, hC, hN⟩ := h
  have h6 := hE.2.1
  have m4 : f 19 0 4 = nI (eNm E) := hM.2.1.1
  obtain ⟨a1, a2⟩ := x9_mir f g x1 hX.2.1.1 (by omega)
  rcases rng x1 (nI (eNm E) - 1) (show eNm E ≤ 1000 by omega) rfl with ⟨m, hm, rfl⟩ | ⟨b1, b2'⟩
  · obtain ⟨c1, c2⟩ := x9_kind f g x2 (n := 11) (by decide)
    rcases rng x2 (10 : Int32) (n := 11) (by decide) (by decide +kernel) with ⟨w, hw, rfl⟩ | ⟨d1, d2⟩
    · refine PQ.q0 (prp E S m w) hI0 (f1 := f) ?_ (Same.refl f) (fun g' => ?_)
      · rw [e_X9_mirror, g_X9_mirror_0, a1 m hm rfl, calv_r]
        show ax_calv (s_X9_requireKind [_, .inl (.int (nI 11))] _ _) _ _ = _
        rw [c1 w hw rfl, calv_r, x5_property g hE hS hX hm hw, cali_r]
      · rw [e_X10_mirror, g_X10_mirror_0, x10_isM, cali_r, m4, decide_eq_true (rng_ok _ hm (by omega) rfl), ite_b2, if_pos rfl, x10_within, cali_r, decide_eq_true (rng_ok (10 : Int32) (n := 11) hw (by decide) (by decide +kernel)), ite_b2, if_pos rfl, t_0, x10_mirrorNow g' hE hS ((W7.same ⟨hE, hS, hR, hX, hM, hC, hN⟩ (Same.up0 f 0)).2.2.2.2.1) hm hw, cali_r]
    · refine PQ.x 1 2 hI0 (by decide) ?_ (fun g' => ?_)
      · rw [e_X9_mirror, g_X9_mirror_0, a1 m hm rfl, calv_r]
        show ax_calv (s_X9_requireKind [_, .inl (.int (nI 11))] _ _) _ _ = _
        rw [c2 d1, calv_x]
      · rw [e_X10_mirror, g_X10_mirror_0, x10_isM, cali_r, m4, decide_eq_true (rng_ok _ hm (by omega) rfl), ite_b2, if_pos rfl, x10_within, cali_r, decide_eq_false d2, ite_b2, if_neg (by decide), t_2]
  · refine PQ.x 3 1 hI0 (by decide) ?_ (fun g' => ?_)
    · rw [e_X9_mirror, g_X9_mirror_0, a2 b1, calv_x]
    · rw [e_X10_mirror, g_X10_mirror_0, x10_isM, cali_r, m4, decide_eq_false b2', ite_b2, if_neg (by decide), t_1]
theorem p_files {n f} (g) (x1 x2 : Int32) (hI : Inv n f) : PQ n [(3, 1)] (s_X9_files [.inr (0, 0), .inl (.int x1), .inl (.int x2)]) (s_X10_files [.inr (19, 0), .inl (.int x1), .inl (.int x2)]) f g := by
  have hI0 := hI
  obtain ⟨E, S, R, h, ht⟩ := hI
  obtain ⟨hE, hS, hR, hX, hM, hC, hN⟩ := h
  have h6 := hE.2.1
  have h12 := hE.1
  have m4 : f 19 0 4 = nI (eNm E) := hM.2.1.1
  have m2 : f 19 0 2 = nI (eNp E) := hM.1.1
  obtain ⟨a1, a2⟩ := x9_mir f g x1 hX.2.1.1 (by omega)
  obtain ⟨c1, c2⟩ := x9_pkg f g x2 hX.1.1 (by omega)
  rcases rng x1 (nI (eNm E) - 1) (show eNm E ≤ 1000 by omega) rfl with ⟨m, hm, rfl⟩ | ⟨b1, b2'⟩
  · rcases rng x2 (nI (eNp E) - 1) (show eNp E ≤ 1000 by omega) rfl with ⟨w, hw, rfl⟩ | ⟨d1, d2⟩
    · refine PQ.q0 (sFl S m w) hI0 (f1 := f) ?_ (Same.refl f) (fun g' => ?_)
      · rw [e_X9_files, g_X9_files_0, a1 m hm rfl, calv_r, c1 w hw rfl, calv_r, bd_n (by omega) (by decide), bd_n (by omega) (by decide), (hX.2.2.2.2 m hm).2.2 w (by omega)]
      · rw [e_X10_files, g_X10_files_0, x10_isM, cali_r, m4, decide_eq_true (rng_ok _ hm (by omega) rfl), ite_b2, if_pos rfl, x10_isP, cali_r, m2, decide_eq_true (rng_ok _ hw (by omega) rfl), ite_b2, if_pos rfl, t_0, ix12, bd_n (by omega) (by decide)]
        have : (ax_up f 19 0 0 0) 44 0 (12 * m + w) = sFl S m w := by rw [ax_up_ap, if_neg (by simp)]; exact (hM.2.2.2.2 m hm).2.2 w (by omega)
        rw [this]
    · refine PQ.x 3 1 hI0 (by decide) ?_ (fun g' => ?_)
      · rw [e_X9_files, g_X9_files_0, a1 m hm rfl, calv_r, c2 d1, calv_x]
      · rw [e_X10_files, g_X10_files_0, x10_isM, cali_r, m4, decide_eq_true (rng_ok _ hm (by omega) rfl), ite_b2, if_pos rfl, x10_isP, cali_r, m2, decide_eq_false d2, ite_b2, if_neg (by decide), t_1]
  · refine PQ.x 3 1 hI0 (by decide) ?_ (fun g' => ?_)
    · rw [e_X9_files, g_X9_files_0, a2 b1, calv_x]
    · rw [e_X10_files, g_X10_files_0, x10_isM, cali_r, m4, decide_eq_false b2', ite_b2, if_neg (by decide), t_1]
end AYC
