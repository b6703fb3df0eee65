/-! the reference: its network -/
section AXV
theorem ix12 (m p : Nat) : 12 * nI m + nI p = nI (12 * m + p) := by
  rw [show (12 : Int32) = nI 12 from rfl, pk_mul, nI_add]
theorem x10_within (f g) (a b c : Int32) : s_X10_within [.inl (.int a), .inl (.int b), .inl (.int c)] f g = rI (b2 (decide (¬ a < b ∧ ¬ c < a))) f g := by
  rw [e_X10_within, g_X10_within_0, b2_d]
  by_cases h : a < b
  · rw [if_pos h, if_neg (fun q => q.1 h)]
  · rw [if_neg h]
    by_cases h2 : c < a
    · rw [if_pos h2, if_neg (fun q => q.2 h2)]
    · rw [if_neg h2, if_pos ⟨h, h2⟩]
theorem x10_has (f g) (a b : Int32) : s_X10_has [.inl (.int a), .inl (.int b)] f g = rI (b2 (hs a b)) f g := by
  rw [e_X10_has, g_X10_has_0]
  cases h : hs a b
  · rw [if_neg (fun q => by rw [hs_1.mpr q] at h; cases h)]; rfl
  · rw [if_pos (hs_1.mp h)]; rfl
theorem x10_bits (f g) (x : Int32) : s_X10_bits [.inl (.int x)] f g = rI (bts x) f g := by
  rw [e_X10_bits, g_X10_bits_0]
  refine (ax_lp (fun i a => ax_run P_X10_bits 4 [some (.inl (.int x)), some (.inl (.int a)), some (.inl (.int (nI i)))] [] f g 0 0) (fun k a => a + ((x >>> (nI k &&& 31)) &&& 1)) 31 0 (fun i hi => ?_)).trans ?_
  · show ax_run _ _ [_, _, some (.inl (.int (nI i)))] _ _ _ _ _ = _
    rw [g_X10_bits_4, if_neg (show ¬ (31 : Int32) ≤ nI i from nI_ge hi (by decide)), nI_1]
  · show ax_run _ _ [_, _, some (.inl (.int (nI 31)))] _ _ _ _ _ = _
    rw [g_X10_bits_4, if_pos (show (31 : Int32) ≤ nI 31 from nI_le (Nat.le_refl _) (by decide))]
    rfl
def MA (E : Ev) (f : ax_F) : Prop := f 19 0 2 = nI (eNp E) ∧ f 19 0 3 = nI (eNi E) ∧ (∀ p, p < eNp E → f 29 0 p = eSec E p ∧ f 30 0 p = eSz E p) ∧ (∀ j p, j ≤ eNi E → p < 12 → f 35 0 (12 * j + p) = eTol E j p) ∧ ∀ p, p < 12 → eTol E 0 p = 0
def MT (E : Ev) (f : ax_F) : Prop := f 19 0 4 = nI (eNm E) ∧ ∀ m, m < eNm E → f 36 0 m = eCar E m ∧ f 37 0 m = nI (eItv E m) ∧ f 38 0 m = nI (eOfs E m) ∧ f 39 0 m = upsI (eUps E m) ∧ f 40 0 m = eCap E m ∧ f 41 0 m = b2 (eCrf E m)
def MD (E : Ev) (S : St) (f : ax_F) : Prop := f 19 0 6 = nI (sTm S) ∧ f 19 0 8 = sCp S ∧ ∀ m, m < eNm E → f 42 0 m = nI (sOwn S m) ∧ f 43 0 m = b2 (sWr S m) ∧ ∀ p, p < 12 → f 44 0 (12 * m + p) = sFl S m p
def NM (E : Ev) (S : St) (f : ax_F) : Prop := MA E f ∧ MT E f ∧ MD E S f
/-- the places of the reference's network that change -/
def Fm0 (f f' : ax_F) : Prop := ∀ k i j, k ≠ 42 → k ≠ 43 → k ≠ 44 → ¬ (k = 19 ∧ i = 0 ∧ (j = 6 ∨ j = 8)) → f' k i j = f k i j
def Fm (f f' : ax_F) : Prop := Fm0 f f' ∧ ∀ j, f' 43 0 j = f 43 0 j ∨ f' 43 0 j = 0
theorem Fm.refl (f) : Fm f f := ⟨fun _ _ _ _ _ _ _ => rfl, fun _ => Or.inl rfl⟩
theorem Fm.trans {f f1 f2} (h : Fm f f1) (h2 : Fm f1 f2) : Fm f f2 := ⟨fun k i j q1 q2 q3 q4 => (h2.1 k i j q1 q2 q3 q4).trans (h.1 k i j q1 q2 q3 q4), fun j => by
  rcases h2.2 j with q | q
  · rw [q]; exact h.2 j
  · exact Or.inr q⟩
theorem MA.of {E f f'} (h : MA E f) (z : ∀ k i j, k ≠ 42 ∧ k ≠ 43 ∧ k ≠ 44 ∧ ¬ (k = 19 ∧ i = 0 ∧ (j = 6 ∨ j = 8)) → f' k i j = f k i j) : MA E f' := by
  obtain ⟨h1, h2, h3, h4, h5⟩ := h
  exact ⟨by rw [z _ _ _ (by decide)]; exact h1, by rw [z _ _ _ (by decide)]; exact h2, fun p hp => by rw [z _ _ _ (by simp), z _ _ _ (by simp)]; exact h3 p hp, fun j p hj hp => by rw [z _ _ _ (by simp)]; exact h4 j p hj hp, h5⟩
theorem MT.of {E f f'} (h : MT E f) (z : ∀ k i j, k ≠ 42 ∧ k ≠ 43 ∧ k ≠ 44 ∧ ¬ (k = 19 ∧ i = 0 ∧ (j = 6 ∨ j = 8)) → f' k i j = f k i j) : MT E f' := by
  obtain ⟨h1, h2⟩ := h
  refine ⟨by rw [z _ _ _ (by decide)]; exact h1, fun m hm => ?_⟩
  rw [z 36 _ _ (by simp), z 37 _ _ (by simp), z 38 _ _ (by simp), z 39 _ _ (by simp), z 40 _ _ (by simp), z 41 _ _ (by simp)]
  exact h2 m hm
theorem Fm.z {f f'} (h : Fm f f') : ∀ k i j, k ≠ 42 ∧ k ≠ 43 ∧ k ≠ 44 ∧ ¬ (k = 19 ∧ i = 0 ∧ (j = 6 ∨ j = 8)) → f' k i j = f k i j := fun k i j q => h.1 k i j q.1 q.2.1 q.2.2.1 q.2.2.2
theorem x10_toldBy (g) {E f} {j p : Nat} (hE : EW E) (hA : MA E f) (hj : j ≤ eNi E) (hp : p < 12) : s_X10_toldBy [.inr (19, 0), .inl (.int (nI j)), .inl (.int (nI p))] f g = rI (eTol E j p) f g := by
  have h20 := hE.2.2.1
  rw [e_X10_toldBy, g_X10_toldBy_0, ix12, bd_n (by omega) (by decide), hA.2.2.2.1 j p hj hp]
def wnt (E : Ev) (m j p : Nat) : Bool := decide (0 < eTol E j p) && hs (eCar E m) (eSec E p)
theorem x10_wants (g) {E f} {m j p : Nat} (hE : EW E) (hA : MA E f) (hT : MT E f) (hm : m < eNm E) (hj : j ≤ eNi E) (hp : p < eNp E) : s_X10_wants [.inr (19, 0), .inl (.int (nI m)), .inl (.int (nI j)), .inl (.int (nI p))] f g = rI (b2 (wnt E m j p)) f g := by
  have h12 := hE.1
  have h6 := hE.2.1
  rw [e_X10_wants, g_X10_wants_0, x10_toldBy g hE hA hj (by omega), cali_r, bd_n (by omega) (by decide), bd_n (by omega) (by decide), x10_has, cali_r, (hT.2 m hm).1, (hA.2.2.1 p hp).1]
  unfold wnt
  by_cases h : eTol E j p ≤ 0
  · rw [if_pos h, decide_eq_false (by rw [i_lt]; rw [i_le] at h; omega)]; rfl
  · rw [if_neg h, decide_eq_true (by rw [i_lt]; rw [i_le] at h; omega), Bool.true_and]
    exact ite_b2r _ (fun z => rI z f g)
theorem lk_wnt (E : Ev) (m j p : Nat) (x : Int32) : lk (eCar E m) (eSec E p) x (eTol E j p) = (wnt E m j p && !hs x (eTol E j p)) := by
  unfold lk wnt
  rw [Bool.and_assoc]
theorem mis_0 {E : Ev} {S m} (hE : EW E) (h0 : ∀ p, p < 12 → eTol E 0 p = 0) : mis E S m 0 = 0 := by
  unfold mis
  have : ax_sum (eNp E) (fun p => if lk (eCar E m) (eSec E p) (sFl S m p) (eTol E 0 p) = true then (1 : Int32) else 0) = ax_sum (eNp E) (fun _ => 0) := ax_sum_congr (fun p hp => by
    have h12 := hE.1
    rw [h0 p (by omega)]
    unfold lk
    rw [decide_eq_false (by decide +kernel)]
    rfl)
  rw [this]
  unfold ax_sum
  generalize eNp E = n
  induction n with
  | zero => rfl
  | succ n ih => rw [ax_it_s, ih]; rfl
theorem x10_lacking (g) {E S f} {m j : Nat} (hE : EW E) (hX : NM E S f) (hm : m < eNm E) (hj : j ≤ eNi E) : s_X10_lacking [.inr (19, 0), .inl (.int (nI m)), .inl (.int (nI j))] f g = rI (mis E S m j) f g := by
  obtain ⟨hA, hT, hD⟩ := hX
  have h12 := hE.1
  have h6 := hE.2.1
  have h20 := hE.2.2.1
  rw [e_X10_lacking, g_X10_lacking_0]
  by_cases hj0 : j = 0
  · subst hj0
    rw [g_X10_lacking_5, if_pos (show nI 0 ≤ 0 by decide +kernel), mis_0 hE hA.2.2.2.2]
    by_cases c : f 19 0 2 ≤ 0
    · rw [if_pos c]
    · rw [if_neg c]
  refine (ax_lp (fun i a => ax_run P_X10_lacking 5 [some (.inr (19, 0)), some (.inl (.int (nI m))), some (.inl (.int (nI j))), some (.inl (.int a)), some (.inl (.int (nI i)))] [] f g 0 0) (fun p a => a + (if lk (eCar E m) (eSec E p) (sFl S m p) (eTol E j p) = true then 1 else 0)) (eNp E) 0 (fun i hi => ?_)).trans ?_
  · show ax_run _ _ [_, _, _, _, some (.inl (.int (nI i)))] _ _ _ _ _ = _
    rw [g_X10_lacking_5, hA.1, if_neg (nI_ge hi (sm31 (by omega))), if_neg (nI_nle (by omega) (sm31 (by omega))), x10_wants g hE hA hT hm hj hi, cali_r, ite_b2, ix12, bd_n (by omega) (by decide), x10_toldBy g hE hA hj (by omega), cali_r, x10_has, cali_r, ite_b2, (hD.2.2 m hm).2.2 i (by omega), nI_1, lk_wnt]
    cases wnt E m j i
    · rfl
    · cases hs (sFl S m i) (eTol E j i)
      · rfl
      · rfl
  · show ax_run _ _ [_, _, _, _, some (.inl (.int (nI (eNp E))))] _ _ _ _ _ = _
    rw [g_X10_lacking_5, hA.1, if_pos (nI_le (Nat.le_refl _) (sm31 (by omega)))]
    rfl
/-- the files alone, without their number -/
def sCpf (E : Ev) (S : St) (m j : Nat) : St := (sOwn S, sWr S, up1 (sFl S) m (cpy E S m j).1, sTm S, sCp S)
def addC (S : St) (n : Int32) : St := (sOwn S, sWr S, sFl S, sTm S, sCp S + n)
theorem x10_copyFiles (g) {E S f} {m j : Nat} (hE : EW E) (hX : NM E S f) (hm : m < eNm E) (hj : j ≤ eNi E) : ∃ f', s_X10_copyFiles [.inr (19, 0), .inl (.int (nI m)), .inl (.int (nI j))] f g = rI (cpy E S m j).2.2 f' g ∧ NM E (sCpf E S m j) f' ∧ Fm f f' := by
  obtain ⟨hA, hT, hD⟩ := hX
  have h12 := hE.1
  have h6 := hE.2.1
  have h20 := hE.2.2.1
  obtain ⟨t1, t2, t3, t4, t5, t6⟩ := hT.2 m hm
  rw [e_X10_copyFiles, g_X10_copyFiles_0, bd_n (by omega) (by decide), t5]
  obtain ⟨x', h1, i1, i5, i2, i4⟩ := ax_lpE (fun i (x : ax_F × Int32 × Int32) => ax_run P_X10_copyFiles 13 [some (.inr (19, 0)), some (.inl (.int (nI m))), some (.inl (.int (nI j))), some (.inl (.int x.2.1)), some (.inl (.int x.2.2)), some (.inl (.int (nI i))), none, none, none] [] x.1 g 0 0) (fun i x y => x.2.1 = y.2.1 ∧ x.2.2 = y.2.2 ∧ (∀ p, p < 12 → x.1 44 0 (12 * m + p) = y.1 p) ∧ ∀ k i j, ¬ (k = 44 ∧ i = 0 ∧ 12 * m ≤ j ∧ j < 12 * m + 12) → x.1 k i j = f k i j) (cp1 E S m j) (eNp E) (f, eCap E m, 0) (sFl S m, eCap E m, 0) ⟨rfl, rfl, (hD.2.2 m hm).2.2, fun _ _ _ _ => rfl⟩ (by
    rintro i ⟨h, l, n⟩ ⟨F, l', n'⟩ hi ⟨i1, i5, i2, i4⟩
    dsimp only at i1 i5 i2 i4
    have i1 : l = l' := i1
    have i5 : n = n' := i5
    subst i1 i5
    have z : ∀ k i j, k ≠ 44 → h k i j = f k i j := fun k i j q => i4 k i j (fun w => q w.1)
    have hfm : ∀ k i j, k ≠ 42 ∧ k ≠ 43 ∧ k ≠ 44 ∧ ¬ (k = 19 ∧ i = 0 ∧ (j = 6 ∨ j = 8)) → h k i j = f k i j := fun k i j q => z k i j q.2.2.1
    have hA' : MA E h := hA.of hfm
    have hT' : MT E h := hT.of hfm
    obtain ⟨u1, u2, u3, u4, u5, u6⟩ := hT'.2 m hm
    have eF : h 44 0 (12 * m + i) = F i := i2 i (by omega)
    have hsz : h 30 0 i = eSz E i := (hA'.2.2.1 i hi).2
    have hyes : ther E S m j i = true → eSz E i ≤ l → lk (eCar E m) (eSec E i) (F i) (eTol E j i) = true →
        (fun (x : ax_F × Int32 × Int32) (y : (Nat → Int32) × Int32 × Int32) => x.2.1 = y.2.1 ∧ x.2.2 = y.2.2 ∧ (∀ p, p < 12 → x.1 44 0 (12 * m + p) = y.1 p) ∧ ∀ k i j, ¬ (k = 44 ∧ i = 0 ∧ 12 * m ≤ j ∧ j < 12 * m + 12) → x.1 k i j = f k i j) (ax_up h 44 0 (12 * m + i) (h 44 0 (12 * m + i) ||| ((1 : Int32) <<< (eTol E j i &&& 31))), l - eSz E i, n + 1) (cp1 E S m j i (F, l, n)) := by
      intro c1 c2 c3
      have hc : cp1 E S m j i (F, l, n) = (upd F i (F i ||| ((1 : Int32) <<< (eTol E j i &&& 31))), l - eSz E i, n + 1) := if_pos ⟨c1, c2, c3⟩
      rw [hc]
      refine ⟨rfl, rfl, fun p hp => ?_, fun k i' j' q => ?_⟩
      · dsimp only
        simp only [ax_up_ap, upd_ap]
        by_cases hpi : p = i
        · subst hpi; simp [eF]
        · simp [hpi, i2 p hp]
      · dsimp only
        simp only [ax_up_ap]
        rw [if_neg (fun w => q ⟨w.1, w.2.1, by omega, by omega⟩)]
        exact i4 k i' j' q
    have hno : ¬ (ther E S m j i = true ∧ eSz E i ≤ l ∧ lk (eCar E m) (eSec E i) (F i) (eTol E j i) = true) → cp1 E S m j i (F, l, n) = (F, l, n) := fun q => if_neg q
    have nope : ¬ (ther E S m j i = true ∧ eSz E i ≤ l ∧ lk (eCar E m) (eSec E i) (F i) (eTol E j i) = true) → (fun (x : ax_F × Int32 × Int32) (y : (Nat → Int32) × Int32 × Int32) => x.2.1 = y.2.1 ∧ x.2.2 = y.2.2 ∧ (∀ p, p < 12 → x.1 44 0 (12 * m + p) = y.1 p) ∧ ∀ k i j, ¬ (k = 44 ∧ i = 0 ∧ 12 * m ≤ j ∧ j < 12 * m + 12) → x.1 k i j = f k i j) (h, l, n) (cp1 E S m j i (F, l, n)) := fun q => by
      rw [hno q]
      exact ⟨rfl, rfl, i2, i4⟩
    have e30 : ∀ x : Int32, (ax_up h 44 0 (12 * m + i) x) 30 0 i = eSz E i := fun x => by simp [ax_up_ap, hsz]
    have ew := x10_wants g hE hA' hT' hm hj hi
    have et := x10_toldBy g hE hA' hj (show i < 12 by omega)
    dsimp only
    rw [g_X10_copyFiles_13, hA'.1, if_neg (nI_ge hi (sm31 (by omega))), et, cali_r, bd_n (by omega) (by decide), u4, ew, cali_r, ite_b2, ix12, bd_n (by omega) (by decide), x10_has, cali_r, ite_b2, bd_n (by omega) (by decide), bd_n (by omega) (by decide), bd_n (by omega) (by decide), bd_n (by omega) (by decide), eF, hsz, nI_1, e30]
    have tail : ther E S m j i = true → ∃ x' : ax_F × Int32 × Int32, (if wnt E m j i = true then (if hs (F i) (eTol E j i) = true then ax_run P_X10_copyFiles 13 [some (.inr (19, 0)), some (.inl (.int (nI m))), some (.inl (.int (nI j))), some (.inl (.int l)), some (.inl (.int n)), some (.inl (.int (nI (i + 1)))), none, none, none] [] h g 0 0 else if l < eSz E i then ax_run P_X10_copyFiles 13 [some (.inr (19, 0)), some (.inl (.int (nI m))), some (.inl (.int (nI j))), some (.inl (.int l)), some (.inl (.int n)), some (.inl (.int (nI (i + 1)))), none, none, none] [] h g 0 0 else ax_run P_X10_copyFiles 13 [some (.inr (19, 0)), some (.inl (.int (nI m))), some (.inl (.int (nI j))), some (.inl (.int (l - eSz E i))), some (.inl (.int (n + 1))), some (.inl (.int (nI (i + 1)))), none, none, none] [] (ax_up h 44 0 (12 * m + i) (F i ||| ((1 : Int32) <<< (eTol E j i &&& 31)))) g 0 0) else ax_run P_X10_copyFiles 13 [some (.inr (19, 0)), some (.inl (.int (nI m))), some (.inl (.int (nI j))), some (.inl (.int l)), some (.inl (.int n)), some (.inl (.int (nI (i + 1)))), none, none, none] [] h g 0 0) = ax_run P_X10_copyFiles 13 [some (.inr (19, 0)), some (.inl (.int (nI m))), some (.inl (.int (nI j))), some (.inl (.int x'.2.1)), some (.inl (.int x'.2.2)), some (.inl (.int (nI (i + 1)))), none, none, none] [] x'.1 g 0 0 ∧ (fun (x : ax_F × Int32 × Int32) (y : (Nat → Int32) × Int32 × Int32) => x.2.1 = y.2.1 ∧ x.2.2 = y.2.2 ∧ (∀ p, p < 12 → x.1 44 0 (12 * m + p) = y.1 p) ∧ ∀ k i j, ¬ (k = 44 ∧ i = 0 ∧ 12 * m ≤ j ∧ j < 12 * m + 12) → x.1 k i j = f k i j) x' (cp1 E S m j i (F, l, n)) := by
      intro ht
      by_cases c1 : wnt E m j i = true
      · rw [if_pos c1]
        by_cases c2 : hs (F i) (eTol E j i) = true
        · rw [if_pos c2]
          exact ⟨(h, l, n), rfl, nope (fun q => by rw [lk_wnt, c1, c2] at q; cases q.2.2)⟩
        · rw [if_neg c2]
          by_cases c3 : l < eSz E i
          · rw [if_pos c3]
            exact ⟨(h, l, n), rfl, nope (fun q => by have := q.2.1; rw [i_le] at this; rw [i_lt] at c3; omega)⟩
          · rw [if_neg c3]
            refine ⟨(_, _, _), rfl, ?_⟩
            have := hyes ht (by rw [i_le]; rw [i_lt] at c3; omega) (by rw [lk_wnt, c1, Bool.true_and]; simpa using c2)
            rw [eF] at this
            exact this
      · rw [if_neg c1]
        exact ⟨(h, l, n), rfl, nope (fun q => by rw [lk_wnt] at q; simp only [Bool.and_eq_true] at q; exact c1 q.2.2.1)⟩
    cases eu : eUps E m with
    | none =>
      rw [if_pos (show upsI none = (-1 : Int32) from rfl)]
      exact tail (by unfold ther; rw [eu])
    | some u =>
      have hu := (hE.2.2.2.1 m hm).2.2.2 u eu
      have hth : ther E S m j i = hs (sFl S u i) (eTol E j i) := by unfold ther; rw [eu]
      have eFu : h 44 0 (12 * u + i) = sFl S u i := by rw [i4 _ _ _ (by omega)]; exact (hD.2.2 u (by omega)).2.2 i (by omega)
      have hnm : ¬ upsI (some u) = (-1 : Int32) := fun q => nI_pos (n := u) (sm31 (by omega)) (by rw [show nI u = (-1 : Int32) from q]; decide +kernel)
      rw [if_neg hnm, bd_n (by omega) (by decide), u4, eu, show upsI (some u) = nI u from rfl, ix12, bd_n (by omega) (by decide), x10_has, cali_r, ite_b2, eFu]
      by_cases c0 : hs (sFl S u i) (eTol E j i) = true
      · rw [if_pos c0, ew, cali_r, ite_b2, bd_n (by omega) (by decide), x10_has, cali_r, ite_b2, bd_n (by omega) (by decide), bd_n (by omega) (by decide), bd_n (by omega) (by decide), bd_n (by omega) (by decide), eF, hsz, e30]
        exact tail (hth.trans c0)
      · rw [if_neg c0, ew, cali_r, ite_b2, bd_n (by omega) (by decide), x10_has, cali_r, ite_b2, eF]
        have : ∀ A : Option ax_Fin, (if wnt E m j i = true then (if hs (F i) (eTol E j i) = true then A else A) else A) = A := fun A => by
          cases wnt E m j i <;> cases hs (F i) (eTol E j i) <;> rfl
        rw [this]
        exact ⟨(h, l, n), rfl, nope (fun q => c0 (by rw [← hth]; exact q.1))⟩)
  have z : ∀ k i j, k ≠ 44 → x'.1 k i j = f k i j := fun k i j q => i4 k i j (fun w => q w.1)
  have hfm : Fm f x'.1 := ⟨fun k i j q1 q2 q3 q4 => z k i j q3, fun j => Or.inl (z 43 0 j (by decide))⟩
  refine ⟨x'.1, h1.trans ?_, ⟨hA.of hfm.z, hT.of hfm.z, ?_, ?_, fun m' hm' => ?_⟩, hfm⟩
  · rw [g_X10_copyFiles_13, z 19 _ _ (by decide), hA.1, if_pos (nI_le (Nat.le_refl _) (sm31 (by omega))), i5]
    rfl
  · rw [z _ _ _ (by decide)]; exact hD.1
  · rw [z _ _ _ (by decide)]; exact hD.2.1
  · obtain ⟨d1, d2, d3⟩ := hD.2.2 m' hm'
    refine ⟨by rw [z _ _ _ (by decide)]; exact d1, by rw [z _ _ _ (by decide)]; exact d2, fun p hp => ?_⟩
    show x'.1 44 0 (12 * m' + p) = up1 (sFl S) m (cpy E S m j).1 m' p
    by_cases hmm : m' = m
    · subst hmm; rw [up1_s]; exact i2 p hp
    · rw [up1_n _ _ hmm, ← d3 p hp]
      exact i4 _ _ _ (by omega)
end AXV
