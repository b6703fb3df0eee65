/-! the class's network -/
section AXK
theorem ite_b {α : Type} (c : Prop) [Decidable c] (A B : α) : (if (if c then (1 : Int32) else 0) = 0 then A else B) = if c then B else A := by
  by_cases h : c
  · rw [if_pos h, if_pos h, if_neg one_ne]
  · rw [if_neg h, if_neg h, if_pos rfl]
theorem ite_b2 {α : Type} (c : Bool) (A B : α) : (if b2 c = 0 then A else B) = if c = true then B else A := ite_b (c = true) A B
/-- a loop whose states are bound to mathematical ones -/
theorem ax_lpE {α β γ : Type} (R : Nat → α → γ) (I : Nat → α → β → Prop) (st : Nat → β → β) (N : Nat) (a : α) (b : β) (h0 : I 0 a b) (hs : ∀ i x y, i < N → I i x y → ∃ x', R i x = R (i + 1) x' ∧ I (i + 1) x' (st i y)) : ∃ x', R 0 a = R N x' ∧ I N x' (ax_it N st b) := by
  have key : ∀ k, k ≤ N → ∃ x', R 0 a = R k x' ∧ I k x' (ax_it k st b) := by
    intro k
    induction k with
    | zero => intro _; exact ⟨a, rfl, h0⟩
    | succ k ih =>
      intro hk
      obtain ⟨x, h1, h2⟩ := ih (by omega)
      obtain ⟨x', h3, h4⟩ := hs k x _ (by omega) h2
      exact ⟨x', h1.trans h3, h4⟩
  exact key N (Nat.le_refl N)
def upsI (u : Option Nat) : Int32 := match u with
  | none => -1
  | some u => nI u
def NA (E : Ev) (f : ax_F) : Prop := f 1 0 3 = nI (eNp E) ∧ f 1 0 4 = nI (eNi E) ∧ (∀ p, p < eNp E → f 3 p 0 = eSec E p ∧ f 3 p 1 = eSz E p) ∧ ∀ j p, j ≤ eNi E → p < 12 → tv f j p = eTol E j p
def NT (n : Nat) (E : Ev) (f : ax_F) : Prop := f 7 n 2 = nI (eNm E) ∧ ∀ m, m < eNm E → f 9 (6 * n + m) 1 = eCar E m ∧ f 9 (6 * n + m) 2 = nI (eItv E m) ∧ f 9 (6 * n + m) 3 = nI (eOfs E m) ∧ f 9 (6 * n + m) 4 = upsI (eUps E m) ∧ f 9 (6 * n + m) 5 = eCap E m ∧ f 9 (6 * n + m) 6 = b2 (eCrf E m)
def ND (n : Nat) (E : Ev) (S : St) (f : ax_F) : Prop := f 7 n 3 = nI (sTm S) ∧ f 7 n 4 = sCp S ∧ ∀ m, m < eNm E → f 9 (6 * n + m) 7 = nI (sOwn S m) ∧ f 9 (6 * n + m) 8 = b2 (sWr S m) ∧ ∀ p, p < 12 → f 10 (6 * n + m) p = sFl S m p
def NX (n : Nat) (E : Ev) (S : St) (f : ax_F) : Prop := NA E f ∧ NT n E f ∧ ND n E S f
/-- the places of a network that change -/
def Dy (n k i j : Nat) : Prop := (k = 9 ∧ 6 * n ≤ i ∧ i < 6 * n + 6 ∧ (j = 7 ∨ j = 8)) ∨ (k = 10 ∧ 6 * n ≤ i ∧ i < 6 * n + 6) ∨ (k = 7 ∧ i = n ∧ (j = 3 ∨ j = 4))
def Fr (n : Nat) (f f' : ax_F) : Prop := ∀ k i j, ¬ Dy n k i j → f' k i j = f k i j
theorem Fr.refl (n f) : Fr n f f := fun _ _ _ _ => rfl
theorem Fr.trans {n f f1 f2} (h : Fr n f f1) (h2 : Fr n f1 f2) : Fr n f f2 := fun k i j hd => (h2 k i j hd).trans (h k i j hd)
theorem NA.fr {n E f f'} (h : NA E f) (hf : Fr n f f') : NA E f' := by
  obtain ⟨h1, h2, h3, h4⟩ := h
  refine ⟨by rw [hf _ _ _ (by simp [Dy])]; exact h1, by rw [hf _ _ _ (by simp [Dy])]; exact h2, fun p hp => ⟨by rw [hf _ _ _ (by simp [Dy])]; exact (h3 p hp).1, by rw [hf _ _ _ (by simp [Dy])]; exact (h3 p hp).2⟩, fun j p hj hp => ?_⟩
  rw [← h4 j p hj hp]
  unfold tv
  rw [hf _ _ _ (by simp [Dy])]
theorem NT.fr {n n' E f f'} (h : NT n E f) (hf : Fr n' f f') : NT n E f' := by
  obtain ⟨h1, h2⟩ := h
  refine ⟨by rw [hf _ _ _ (by simp [Dy])]; exact h1, fun m hm => ?_⟩
  obtain ⟨a1, a2, a3, a4, a5, a6⟩ := h2 m hm
  exact ⟨by rw [hf _ _ _ (by simp [Dy])]; exact a1, by rw [hf _ _ _ (by simp [Dy])]; exact a2, by rw [hf _ _ _ (by simp [Dy])]; exact a3, by rw [hf _ _ _ (by simp [Dy])]; exact a4, by rw [hf _ _ _ (by simp [Dy])]; exact a5, by rw [hf _ _ _ (by simp [Dy])]; exact a6⟩
theorem x5_upstream (g) {n E f} {m : Nat} (hE : EW E) (hT : NT n E f) (hm : m < eNm E) : s_X5_upstreamOf [.inr (7, n), .inr (9, 6 * n + m)] f g = some (.inl (some (match eUps E m with | none => .inl .null | some u => .inr (9, 6 * n + u))), f, g) := by
  rw [e_X5_upstreamOf, g_X5_upstreamOf_0]
  obtain ⟨a1, a2, a3, a4, a5, a6⟩ := hT.2 m hm
  rw [a4, hT.1]
  cases e : eUps E m with
  | none => rw [if_pos (show upsI none < 0 by decide +kernel)]
  | some u =>
    have hu := (hE.2.2.2.1 m hm).2.2.2 u e
    have hm6 := hE.2.1
    show (if nI u < 0 then _ else if nI (eNm E) ≤ nI u then _ else ax_bd (nI u) 6 _) = _
    rw [if_neg (nI_pos (sm31 (by omega))), if_neg (nI_ge (by omega) (sm31 (by omega))), bd_n (by omega) (by decide)]
theorem x5_offered (g) {n E S f} {m : Nat} (hE : EW E) (hS : SW E S) (hX : NX n E S f) (hm : m < eNm E) : s_X5_offeredTo [.inr (7, n), .inr (9, 6 * n + m)] f g = rI (nI (offr E S m)) f g := by
  obtain ⟨hA, hT, hD⟩ := hX
  rw [e_X5_offeredTo, g_X5_offeredTo_0, x5_upstream g hE hT hm]
  unfold offr
  cases e : eUps E m with
  | none =>
    show ax_calr (some (.inl (some (.inl .null)), f, g)) _ _ = _
    rw [calr_n, g_X5_offeredTo_5, hA.2.1]
  | some u =>
    have hu := (hE.2.2.2.1 m hm).2.2.2 u e
    obtain ⟨b1, b2', -⟩ := hD.2.2 u (by omega)
    show ax_calr (some (.inl (some (.inr (9, 6 * n + u))), f, g)) _ _ = _
    have := hE.2.2.1
    have ho := hS.1 u (by omega)
    rw [calr_r, g_X5_offeredTo_5_a, x4_hasGood f g _ b1 (by omega) b2', cali_r, ite_b2]
    show (if gud S u = true then _ else _) = _
    rw [b1]
    by_cases c : gud S u = true
    · simp only [if_pos c]
    · simp only [if_neg c]; rfl
theorem lkc {E : Ev} (hE : EW E) (c s x : Int32) (j p : Nat) : (¬ eTol E j p < 1 ∧ ¬ 30 < eTol E j p ∧ hs c s = true ∧ hs x (eTol E j p) = false) ↔ lk c s x (eTol E j p) = true := by
  obtain ⟨h1, h2⟩ := tol_v hE j p
  unfold lk
  simp only [Bool.and_eq_true, decide_eq_true_eq, Bool.not_eq_true']
  rw [h2]
  exact ⟨fun q => ⟨q.1, q.2.2.1, q.2.2.2⟩, fun q => ⟨q.1, h1, q.2.1, q.2.2⟩⟩
theorem x5_missing (g) {n E S f} {m j : Nat} (hE : EW E) (hX : NX n E S f) (hm : m < eNm E) (hj : j ≤ eNi E) : s_X5_missingOf [.inr (7, n), .inr (9, 6 * n + m), .inl (.int (nI j))] f g = rI (mis E S m j) f g := by
  obtain ⟨hA, hT, hD⟩ := hX
  have hp12 := hE.1
  rw [e_X5_missingOf, g_X5_missingOf_0]
  refine (ax_lp (fun i a => ax_run P_X5_missingOf 5 [some (.inr (7, n)), some (.inr (9, 6 * n + m)), some (.inl (.int (nI j))), some (.inl (.int a)), some (.inl (.int (nI i)))] [] f g 0 0) (fun p a => a + (if lk (eCar E m) (eSec E p) (sFl S m p) (eTol E j p) = true then 1 else 0)) (eNp E) 0 (fun i hi => ?_)).trans ?_
  · show ax_run _ _ [_, _, _, _, some (.inl (.int (nI i)))] _ _ _ _ _ = _
    rw [g_X5_missingOf_5, hA.1, if_neg (nI_ge hi (sm31 (by omega))), bd_n (by omega) (by decide), x0_versionIn f g hA.2.1 hE.2.2.1 hj (by omega), cali_r, x4_lacks f g _ _ _ (by omega), cali_r, ite_b, nI_1, hA.2.2.2 j i hj (by omega), (hA.2.2.1 i hi).1, (hT.2 m hm).1, (hD.2.2 m hm).2.2 i (by omega)]
    by_cases c : lk (eCar E m) (eSec E i) (sFl S m i) (eTol E j i) = true
    · rw [if_pos ((lkc hE _ _ _ _ _).mpr c), if_pos c]
    · rw [if_neg (fun q => c ((lkc hE _ _ _ _ _).mp q)), if_neg c, Int32.add_zero]
  · show ax_run _ _ [_, _, _, _, some (.inl (.int (nI (eNp E))))] _ _ _ _ _ = _
    rw [g_X5_missingOf_5, hA.1, if_pos (nI_le (Nat.le_refl _) (sm31 (by omega)))]
    rfl
/-- files of one mirror, and the number of copied ones -/
def Fc (n m : Nat) (f f' : ax_F) : Prop := ∀ k i j, ¬ (k = 10 ∧ i = 6 * n + m) → ¬ (k = 7 ∧ i = n ∧ j = 4) → f' k i j = f k i j
theorem Fc.fr {n m f f'} (hm : m < 6) (h : Fc n m f f') : Fr n f f' := by
  intro k i j hd
  apply h
  · rintro ⟨rfl, rfl⟩; exact hd (Or.inr (Or.inl ⟨rfl, by omega, by omega⟩))
  · rintro ⟨rfl, rfl, rfl⟩; exact hd (Or.inr (Or.inr ⟨rfl, rfl, Or.inr rfl⟩))
theorem x5_copyMissing (g) {n E S f} {m j : Nat} (hE : EW E) (hX : NX n E S f) (hm : m < eNm E) (hj : j ≤ eNi E) : ∃ f', s_X5_copyMissing [.inr (7, n), .inr (9, 6 * n + m), .inl (.int (nI j))] f g = rV f' g ∧ NX n E (sCpd E S m j) f' ∧ Fc n m f f' := by
  obtain ⟨hA, hT, hD⟩ := hX
  have hp12 := hE.1
  have hm6 := hE.2.1
  obtain ⟨t1, t2, t3, t4, t5, t6⟩ := hT.2 m hm
  rw [e_X5_copyMissing, g_X5_copyMissing_0, x5_upstream g hE hT hm]
  have key : ∀ uv : ax_V, (uv = match eUps E m with | none => .inl .null | some u => .inr (9, 6 * n + u)) → ∃ x' : ax_F × Int32, ax_run P_X5_copyMissing 15 [some (.inr (7, n)), some (.inr (9, 6 * n + m)), some (.inl (.int (nI j))), some uv, some (.inl (.int (eCap E m))), some (.inl (.int (nI 0))), none, none, none] [] f g 0 0 = ax_run P_X5_copyMissing 15 [some (.inr (7, n)), some (.inr (9, 6 * n + m)), some (.inl (.int (nI j))), some uv, some (.inl (.int x'.2)), some (.inl (.int (nI (eNp E)))), none, none, none] [] x'.1 g 0 0 ∧ (x'.2 = (cpy E S m j).2.1 ∧ (∀ p, p < 12 → x'.1 10 (6 * n + m) p = (cpy E S m j).1 p) ∧ x'.1 7 n 4 = sCp S + (cpy E S m j).2.2 ∧ Fc n m f x'.1) := by
    intro uv huv
    refine ax_lpE (fun i (x : ax_F × Int32) => ax_run P_X5_copyMissing 15 [some (.inr (7, n)), some (.inr (9, 6 * n + m)), some (.inl (.int (nI j))), some uv, some (.inl (.int x.2)), some (.inl (.int (nI i))), none, none, none] [] x.1 g 0 0) (fun i x y => x.2 = y.2.1 ∧ (∀ p, p < 12 → x.1 10 (6 * n + m) p = y.1 p) ∧ x.1 7 n 4 = sCp S + y.2.2 ∧ Fc n m f x.1) (cp1 E S m j) (eNp E) (f, eCap E m) (sFl S m, eCap E m, 0) ⟨rfl, (hD.2.2 m hm).2.2, by show f 7 n 4 = sCp S + 0; rw [hD.2.1]; exact (Int32.add_zero _).symm, fun _ _ _ _ _ => rfl⟩ ?_
    rintro i ⟨h, l⟩ ⟨F, l', c⟩ hi ⟨i1, i2, i3, i4⟩
    dsimp only at i1 i2 i3 i4
    have i1 : l = l' := i1
    subst i1
    have hA' : NA E h := hA.fr (Fc.fr (by omega) i4)
    have e9 : h 9 (6 * n + m) 1 = eCar E m := by rw [i4 _ _ _ (by simp) (by simp)]; exact t1
    have eF : h 10 (6 * n + m) i = F i := i2 i (by omega)
    have ev : s_X0_versionIn [.inr (1, 0), .inl (.int (nI j)), .inl (.int (nI i))] h g = rI (eTol E j i) h g := by
      rw [x0_versionIn h g hA'.2.1 hE.2.2.1 hj (by omega), hA'.2.2.2 j i hj (by omega)]
    have el : s_X4_lacks [.inr (9, 6 * n + m), .inl (.int (h 3 i 0)), .inl (.int (nI i)), .inl (.int (eTol E j i))] h g = rI (if lk (eCar E m) (eSec E i) (F i) (eTol E j i) = true then 1 else 0) h g := by
      rw [x4_lacks h g _ _ _ (by omega), e9, (hA'.2.2.1 i hi).1, eF]
      by_cases c1 : lk (eCar E m) (eSec E i) (F i) (eTol E j i) = true
      · rw [if_pos ((lkc hE _ _ _ _ _).mpr c1), if_pos c1]
      · rw [if_neg (fun q => c1 ((lkc hE _ _ _ _ _).mp q)), if_neg c1]
    have ea := x4_addFile h g (6 * n + m) (eTol E j i) (show i < 12 by omega)
    have hsz := (hA'.2.2.1 i hi).2
    -- what a copied file makes of the memory
    have hyes : ther E S m j i = true → eSz E i ≤ l → lk (eCar E m) (eSec E i) (F i) (eTol E j i) = true →
        (fun (x : ax_F × Int32) (y : (Nat → Int32) × Int32 × Int32) => x.2 = y.2.1 ∧ (∀ p, p < 12 → x.1 10 (6 * n + m) p = y.1 p) ∧ x.1 7 n 4 = sCp S + y.2.2 ∧ Fc n m f x.1) (ax_up (ax_up h 10 (6 * n + m) i (h 10 (6 * n + m) i ||| ((1 : Int32) <<< (eTol E j i &&& 31)))) 7 n 4 (h 7 n 4 + 1), l - eSz E i) (cp1 E S m j i (F, l, c)) := by
      intro c1 c2 c3
      have hc : cp1 E S m j i (F, l, c) = (upd F i (F i ||| ((1 : Int32) <<< (eTol E j i &&& 31))), l - eSz E i, c + 1) := if_pos ⟨c1, c2, c3⟩
      rw [hc]
      refine ⟨rfl, fun p hp => ?_, ?_, fun k i' j' q1 q2 => ?_⟩
      · dsimp only
        simp only [ax_up_ap, upd_ap]
        by_cases hpi : p = i
        · subst hpi; simp [eF]
        · simp [hpi, i2 p hp]
      · dsimp only
        simp only [ax_up_ap]
        simp [i3, Int32.add_assoc]
      · dsimp only
        simp only [ax_up_ap]
        rw [if_neg q2, if_neg (fun q => q1 ⟨q.1, q.2.1⟩)]
        exact i4 k i' j' q1 q2
    have hno : ¬ (ther E S m j i = true ∧ eSz E i ≤ l ∧ lk (eCar E m) (eSec E i) (F i) (eTol E j i) = true) → cp1 E S m j i (F, l, c) = (F, l, c) := fun q => if_neg q
    have esz' : ∀ x : Int32, (ax_up h 10 (6 * n + m) i x) 3 i 1 = eSz E i := fun x => by simp [ax_up_ap, hsz]
    have e74 : ∀ x : Int32, (ax_up h 10 (6 * n + m) i x) 7 n 4 = h 7 n 4 := fun x => by simp [ax_up_ap]
    cases eu : eUps E m with
    | none =>
      rw [eu] at huv
      subst huv
      have hth : ther E S m j i = true := by unfold ther; rw [eu]
      dsimp only
      rw [g_X5_copyMissing_15, hA'.1, if_neg (nI_ge hi (sm31 (by omega))), bd_n (by omega) (by decide), ev, cali_r, nI_1, hsz]
      by_cases c2 : eSz E i ≤ l
      · rw [if_neg (by rw [i_lt]; rw [i_le] at c2; omega), el, cali_r, ite_b]
        by_cases c3 : lk (eCar E m) (eSec E i) (F i) (eTol E j i) = true
        · rw [if_pos c3, ea, calv_r, esz', e74]
          exact ⟨(_, _), rfl, hyes hth c2 c3⟩
        · rw [if_neg c3]
          refine ⟨(h, l), rfl, ?_⟩
          rw [hno (fun q => c3 q.2.2)]
          exact ⟨rfl, i2, i3, i4⟩
      · rw [if_pos (by rw [i_lt]; rw [i_le] at c2; omega)]
        refine ⟨(h, l), rfl, ?_⟩
        rw [hno (fun q => c2 q.2.1)]
        exact ⟨rfl, i2, i3, i4⟩
    | some u =>
      rw [eu] at huv
      subst huv
      have hu := (hE.2.2.2.1 m hm).2.2.2 u eu
      have hth : ther E S m j i = hs (sFl S u i) (eTol E j i) := by unfold ther; rw [eu]
      have eFu : h 10 (6 * n + u) i = sFl S u i := by rw [i4 _ _ _ (by simp; omega) (by simp)]; exact (hD.2.2 u (by omega)).2.2 i (by omega)
      dsimp only
      rw [g_X5_copyMissing_15_a, hA'.1, if_neg (nI_ge hi (sm31 (by omega))), bd_n (by omega) (by decide), ev, cali_r, x4_hasFile h g _ _ (by omega), cali_r, nI_1, ite_b, eFu, hsz]
      obtain ⟨w1, w2⟩ := tol_v hE j i
      by_cases c1 : ¬ eTol E j i < 1 ∧ ¬ 30 < eTol E j i ∧ hs (sFl S u i) (eTol E j i) = true
      · rw [if_pos c1]
        by_cases c2 : eSz E i ≤ l
        · rw [if_neg (by rw [i_lt]; rw [i_le] at c2; omega), el, cali_r, ite_b]
          by_cases c3 : lk (eCar E m) (eSec E i) (F i) (eTol E j i) = true
          · rw [if_pos c3, ea, calv_r, esz', e74]
            exact ⟨(_, _), rfl, hyes (hth.trans c1.2.2) c2 c3⟩
          · rw [if_neg c3]
            refine ⟨(h, l), rfl, ?_⟩
            rw [hno (fun q => c3 q.2.2)]
            exact ⟨rfl, i2, i3, i4⟩
        · rw [if_pos (by rw [i_lt]; rw [i_le] at c2; omega)]
          refine ⟨(h, l), rfl, ?_⟩
          rw [hno (fun q => c2 q.2.1)]
          exact ⟨rfl, i2, i3, i4⟩
      · rw [if_neg c1]
        refine ⟨(h, l), rfl, ?_⟩
        rw [hno (fun q => c1 ⟨?_, w1, by rw [← hth]; exact q.1⟩)]
        · exact ⟨rfl, i2, i3, i4⟩
        · have := q.2.2
          unfold lk at this
          simp only [Bool.and_eq_true, decide_eq_true_eq] at this
          exact w2.mpr this.1
  have fin : ∀ x' : ax_F × Int32, (x'.2 = (cpy E S m j).2.1 ∧ (∀ p, p < 12 → x'.1 10 (6 * n + m) p = (cpy E S m j).1 p) ∧ x'.1 7 n 4 = sCp S + (cpy E S m j).2.2 ∧ Fc n m f x'.1) → NX n E (sCpd E S m j) x'.1 := by
    rintro ⟨h, l⟩ ⟨-, i2, i3, i4⟩
    dsimp only at i2 i3 i4 ⊢
    have hfr := Fc.fr (show m < 6 by omega) i4
    refine ⟨hA.fr hfr, hT.fr hfr, ?_, i3, fun m' hm' => ?_⟩
    · rw [i4 _ _ _ (by simp) (by simp)]; exact hD.1
    · obtain ⟨d1, d2, d3⟩ := hD.2.2 m' hm'
      refine ⟨by rw [i4 _ _ _ (by simp) (by simp)]; exact d1, by rw [i4 _ _ _ (by simp) (by simp)]; exact d2, fun p hp => ?_⟩
      show h 10 (6 * n + m') p = up1 (sFl S) m (cpy E S m j).1 m' p
      by_cases hmm : m' = m
      · subst hmm; rw [up1_s]; exact i2 p hp
      · rw [up1_n _ _ hmm, ← d3 p hp]
        exact i4 _ _ _ (by simp; omega) (by simp)
  cases eu : eUps E m with
  | none =>
    show ∃ f', ax_calr (some (.inl (some (.inl .null)), f, g)) _ _ = _ ∧ _
    rw [calr_n, g_X5_copyMissing_5, t5]
    obtain ⟨x', h1, h2⟩ := key (.inl .null) (by rw [eu])
    refine ⟨x'.1, h1.trans ?_, fin x' h2, h2.2.2.2⟩
    rw [g_X5_copyMissing_15, ((hA.fr (Fc.fr (show m < 6 by omega) h2.2.2.2))).1, if_pos (nI_le (Nat.le_refl _) (sm31 (by omega)))]
  | some u =>
    show ∃ f', ax_calr (some (.inl (some (.inr (9, 6 * n + u))), f, g)) _ _ = _ ∧ _
    rw [calr_r, g_X5_copyMissing_5_a, t5]
    obtain ⟨x', h1, h2⟩ := key (.inr (9, 6 * n + u)) (by rw [eu])
    refine ⟨x'.1, h1.trans ?_, fin x' h2, h2.2.2.2⟩
    rw [g_X5_copyMissing_15_a, ((hA.fr (Fc.fr (show m < 6 by omega) h2.2.2.2))).1, if_pos (nI_le (Nat.le_refl _) (sm31 (by omega)))]
end AXK
