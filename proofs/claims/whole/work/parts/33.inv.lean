/-! the rest of the state, and what binds class and reference -/
section AYA
/-- sections, validity, needs, versions, released, signatures, packages of an index; clients: how many, mirrors, latest, installed; length, buffer -/
abbrev Rt : Type := Nat × Int32 × (Nat → Int32) × (Nat → Nat) × (Nat → Nat) × (Nat → Int32) × (Nat → Nat) × Nat × (Nat → Nat) × (Nat → Int32) × (Nat → Nat → Int32) × Nat × (Nat → Nat)
def rSec (R : Rt) : Nat := R.1
def rVal (R : Rt) : Int32 := R.2.1
def rDep (R : Rt) : Nat → Int32 := R.2.2.1
def rVer (R : Rt) : Nat → Nat := R.2.2.2.1
def rRel (R : Rt) : Nat → Nat := R.2.2.2.2.1
def rSig (R : Rt) : Nat → Int32 := R.2.2.2.2.2.1
def rPk (R : Rt) : Nat → Nat := R.2.2.2.2.2.2.1
def rNc (R : Rt) : Nat := R.2.2.2.2.2.2.2.1
def rUse (R : Rt) : Nat → Nat := R.2.2.2.2.2.2.2.2.1
def rLat (R : Rt) : Nat → Int32 := R.2.2.2.2.2.2.2.2.2.1
def rIns (R : Rt) : Nat → Nat → Int32 := R.2.2.2.2.2.2.2.2.2.2.1
def rLen (R : Rt) : Nat := R.2.2.2.2.2.2.2.2.2.2.2.1
def rBuf (R : Rt) : Nat → Nat := R.2.2.2.2.2.2.2.2.2.2.2.2
def CRp (E : Ev) (R : Rt) (f : ax_F) : Prop := ∀ p, p < eNp E → f 3 p 2 = rDep R p ∧ f 3 p 4 = nI (rVer R p) ∧ f 3 p 3 = xcl f p (rDep R p) ||| ((1 : Int32) <<< (nI p &&& 31))
def CRj (E : Ev) (R : Rt) (f : ax_F) : Prop := ∀ j, 0 < j → j ≤ eNi E → f 5 (j - 1) 1 = nI (rPk R j) ∧ f 5 (j - 1) 2 = nI (rRel R j) ∧ f 5 (j - 1) 3 = rSig R j
def CRc (R : Rt) (f : ax_F) : Prop := f 0 0 6 = nI (rNc R) ∧ ∀ c, c < rNc R → f 12 c 1 = nI (rUse R c) ∧ f 12 c 2 = rLat R c ∧ ∀ p, p < 12 → f 13 c p = rIns R c p
def CRb (R : Rt) (f : ax_F) : Prop := f 16 0 2 = nI (rLen R) ∧ ∀ i, i < rLen R → f 17 0 i = nI (rBuf R i)
def CR (E : Ev) (R : Rt) (f : ax_F) : Prop := f 1 0 2 = nI (rSec R) ∧ f 1 0 5 = rVal R ∧ CRp E R f ∧ CRj E R f ∧ CRc R f ∧ CRb R f
def MRp (E : Ev) (R : Rt) (f : ax_F) : Prop := ∀ p, p < eNp E → f 31 0 p = rDep R p ∧ f 32 0 p = nI (rVer R p)
def MRj (E : Ev) (R : Rt) (f : ax_F) : Prop := ∀ j, 0 < j → j ≤ eNi E → f 33 0 j = nI (rRel R j) ∧ f 34 0 j = rSig R j
def MRc (E : Ev) (R : Rt) (f : ax_F) : Prop := f 19 0 5 = nI (rNc R) ∧ ∀ c, c < rNc R → f 45 0 c = nI (rUse R c) ∧ f 46 0 c = rLat R c ∧ ∀ p, p < eNp E → f 47 0 (12 * c + p) = rIns R c p
def MRb (R : Rt) (f : ax_F) : Prop := f 19 0 28 = nI (rLen R) ∧ (∀ i, i < rLen R → f 49 0 i = nI (rBuf R i)) ∧ ∀ m, m < 6 → f 43 0 m = 0 ∨ f 43 0 m = 1
def MR (E : Ev) (R : Rt) (f : ax_F) : Prop := f 19 0 1 = nI (rSec R) ∧ f 19 0 7 = rVal R ∧ MRp E R f ∧ MRj E R f ∧ MRc E R f ∧ MRb R f
def RWp (E : Ev) (R : Rt) : Prop := ∀ p, p < eNp E → 1 ≤ rVer R p ∧ rVer R p ≤ 30 ∧ ∀ i, p ≤ i → i < 32 → bt (rDep R p) i = false
def RWj (E : Ev) (S : St) (R : Rt) : Prop := ∀ j, 0 < j → j ≤ eNi E → rPk R j ≤ eNp E ∧ (∀ p, p < 12 → (0 < eTol E j p ↔ p < rPk R j)) ∧ rRel R j ≤ sTm S
def RWc (E : Ev) (R : Rt) : Prop := rNc R ≤ 4 ∧ ∀ c, c < rNc R → rUse R c < 2 ^ eNm E ∧ ∀ p, eNp E ≤ p → p < 12 → rIns R c p = 0
def RWb (R : Rt) : Prop := rLen R ≤ 60 ∧ ∀ i, i < rLen R → 32 ≤ rBuf R i ∧ rBuf R i ≤ 126
def RW (E : Ev) (S : St) (R : Rt) : Prop := (1 ≤ rSec R ∧ rSec R ≤ 5) ∧ RWp E R ∧ RWj E S R ∧ RWc E R ∧ RWb R
def W7 (E : Ev) (S : St) (R : Rt) (f : ax_F) : Prop := EW E ∧ SW E S ∧ RW E S R ∧ NX 0 E S f ∧ NM E S f ∧ CR E R f ∧ MR E R f
def Inv (n : Nat) (f : ax_F) : Prop := ∃ E S R, W7 E S R f ∧ sTm S ≤ 200 * n
/-- places that bind nothing -/
def Scr (k i j : Nat) : Prop := k = 14 ∨ k = 15 ∨ (k = 7 ∧ i = 1) ∨ (k = 9 ∧ 6 ≤ i) ∨ (k = 10 ∧ 6 ≤ i) ∨ k = 18 ∨ (k = 19 ∧ (j = 0 ∨ 30 ≤ j)) ∨ 54 ≤ k ∨ (k = 42 ∧ (i ≠ 0 ∨ 6 ≤ j)) ∨ (k = 43 ∧ (i ≠ 0 ∨ 6 ≤ j)) ∨ (k = 44 ∧ (i ≠ 0 ∨ 72 ≤ j))
def Same (f f' : ax_F) : Prop := ∀ k i j, ¬ Scr k i j → f' k i j = f k i j
theorem Same.refl (f) : Same f f := fun _ _ _ _ => rfl
theorem Same.trans {f f1 f2} (h : Same f f1) (h2 : Same f1 f2) : Same f f2 := fun k i j q => (h2 k i j q).trans (h k i j q)
theorem Same.fp {f f'} (h : Fp f f') : Same f f' := fun k i j q => h k i j (fun e => q (Or.inl e)) (fun e => q (Or.inr (Or.inl e)))
theorem Same.fg1 {f f'} (h : Fg 1 f f') : Same f f' := fun k i j q => h k i j (fun e => q (Or.inr (Or.inr (Or.inl e)))) (fun e => q (by unfold Scr; omega)) (fun e => q (by unfold Scr; omega))
theorem Same.up0 (f x) : Same f (ax_up f 19 0 0 x) := fun k i j q => by
  rw [ax_up_ap, if_neg]
  rintro ⟨rfl, rfl, rfl⟩
  exact q (by simp [Scr])
theorem W7.same {E S R f f'} (h : W7 E S R f) (z : Same f f') : W7 E S R f' := by
  obtain ⟨hE, hS, hR, ⟨⟨a1, a2, a3, a4⟩, ⟨b1, b2'⟩, c1, c2, c3⟩, ⟨⟨d1, d2, d3, d4, d5⟩, ⟨e1, e2⟩, g1, g2, g3⟩, ⟨p1, p2, p3, p4, ⟨p5, p6⟩, p7, p8⟩, ⟨q1, q2, q3, q4, ⟨q5, q6⟩, q7, q8, q9⟩⟩ := h
  have h12 := hE.1
  have h6 := hE.2.1
  have h20 := hE.2.2.1
  have hc4 := hR.2.2.2.1.1
  have hb60 := hR.2.2.2.2.1
  have u : ∀ k i j, (¬ Scr k i j) → f' k i j = f k i j := z
  have x3 : ∀ p j, p < 12 → f' 3 p j = f 3 p j := fun p j hp => u 3 p j (by unfold Scr; omega)
  refine ⟨hE, hS, hR, ⟨⟨?_, ?_, fun p hp => ?_, fun j p hj hp => ?_⟩, ⟨?_, fun m hm => ?_⟩, ?_, ?_, fun m hm => ?_⟩, ⟨⟨?_, ?_, fun p hp => ?_, fun j p hj hp => ?_, d5⟩, ⟨?_, fun m hm => ?_⟩, ?_, ?_, fun m hm => ?_⟩, ⟨?_, ?_, fun p hp => ?_, fun j h1 h2 => ?_, ⟨?_, fun c hc => ?_⟩, ?_, fun i hi => ?_⟩, ⟨?_, ?_, fun p hp => ?_, fun j h1 h2 => ?_, ⟨?_, fun c hc => ?_⟩, ?_, fun i hi => ?_, fun m hm => ?_⟩⟩
  · rw [u _ _ _ (by unfold Scr; omega)]; exact a1
  · rw [u _ _ _ (by unfold Scr; omega)]; exact a2
  · rw [u _ _ _ (by unfold Scr; omega), u _ _ _ (by unfold Scr; omega)]; exact a3 p hp
  · rw [← a4 j p hj hp]; unfold tv; rw [u _ _ _ (by unfold Scr; omega)]
  · rw [u _ _ _ (by unfold Scr; omega)]; exact b1
  · rw [u 9 _ 1 (by unfold Scr; omega), u 9 _ 2 (by unfold Scr; omega), u 9 _ 3 (by unfold Scr; omega), u 9 _ 4 (by unfold Scr; omega), u 9 _ 5 (by unfold Scr; omega), u 9 _ 6 (by unfold Scr; omega)]; exact b2' m hm
  · rw [u _ _ _ (by unfold Scr; omega)]; exact c1
  · rw [u _ _ _ (by unfold Scr; omega)]; exact c2
  · rw [u 9 _ 7 (by unfold Scr; omega), u 9 _ 8 (by unfold Scr; omega)]
    exact ⟨(c3 m hm).1, (c3 m hm).2.1, fun p hp => by rw [u 10 _ _ (by unfold Scr; omega)]; exact (c3 m hm).2.2 p hp⟩
  · rw [u _ _ _ (by unfold Scr; omega)]; exact d1
  · rw [u _ _ _ (by unfold Scr; omega)]; exact d2
  · rw [u _ _ _ (by unfold Scr; omega), u _ _ _ (by unfold Scr; omega)]; exact d3 p hp
  · rw [u _ _ _ (by unfold Scr; omega)]; exact d4 j p hj hp
  · rw [u _ _ _ (by unfold Scr; omega)]; exact e1
  · rw [u 36 _ _ (by unfold Scr; omega), u 37 _ _ (by unfold Scr; omega), u 38 _ _ (by unfold Scr; omega), u 39 _ _ (by unfold Scr; omega), u 40 _ _ (by unfold Scr; omega), u 41 _ _ (by unfold Scr; omega)]; exact e2 m hm
  · rw [u _ _ _ (by unfold Scr; omega)]; exact g1
  · rw [u _ _ _ (by unfold Scr; omega)]; exact g2
  · rw [u 42 _ _ (by unfold Scr; omega), u 43 _ _ (by unfold Scr; omega)]
    exact ⟨(g3 m hm).1, (g3 m hm).2.1, fun p hp => by rw [u 44 _ _ (by unfold Scr; omega)]; exact (g3 m hm).2.2 p hp⟩
  · rw [u _ _ _ (by unfold Scr; omega)]; exact p1
  · rw [u _ _ _ (by unfold Scr; omega)]; exact p2
  · rw [x3 _ _ (by omega), x3 _ _ (by omega), x3 _ _ (by omega), xcl_congr (f := f) _ (fun i hi => x3 i 3 (by omega))]; exact p3 p hp
  · rw [u _ _ _ (by unfold Scr; omega), u _ _ _ (by unfold Scr; omega), u _ _ _ (by unfold Scr; omega)]; exact p4 j h1 h2
  · rw [u _ _ _ (by unfold Scr; omega)]; exact p5
  · rw [u 12 _ _ (by unfold Scr; omega), u 12 _ _ (by unfold Scr; omega)]
    exact ⟨(p6 c hc).1, (p6 c hc).2.1, fun p hp => by rw [u 13 _ _ (by unfold Scr; omega)]; exact (p6 c hc).2.2 p hp⟩
  · rw [u _ _ _ (by unfold Scr; omega)]; exact p7
  · rw [u _ _ _ (by unfold Scr; omega)]; exact p8 i hi
  · rw [u _ _ _ (by unfold Scr; omega)]; exact q1
  · rw [u _ _ _ (by unfold Scr; omega)]; exact q2
  · rw [u _ _ _ (by unfold Scr; omega), u _ _ _ (by unfold Scr; omega)]; exact q3 p hp
  · rw [u _ _ _ (by unfold Scr; omega), u _ _ _ (by unfold Scr; omega)]; exact q4 j h1 h2
  · rw [u _ _ _ (by unfold Scr; omega)]; exact q5
  · rw [u 45 _ _ (by unfold Scr; omega), u 46 _ _ (by unfold Scr; omega)]
    exact ⟨(q6 c hc).1, (q6 c hc).2.1, fun p hp => by rw [u 47 _ _ (by unfold Scr; omega)]; exact (q6 c hc).2.2 p hp⟩
  · rw [u _ _ _ (by unfold Scr; omega)]; exact q7
  · rw [u _ _ _ (by unfold Scr; omega)]; exact q8 i hi
  · rw [u 43 _ _ (by unfold Scr; omega)]; exact q9 m hm
theorem CLI.of {E S R f} (h : W7 E S R f) : CLI f (eNp E) := by
  obtain ⟨hE, hS, hR, hX, hM, hC, hN⟩ := h
  intro p hp
  obtain ⟨a1, a2, a3⟩ := hC.2.2.1 p hp
  exact ⟨by rw [a1]; exact (hN.2.2.1 p hp).1, by rw [a1]; exact (hR.2.1 p hp).2.2, by rw [a1]; exact a3⟩
/-! installs -/
def frq (R : Rt) (T : St) (j : Nat) : Bool := decide (¬ rVal R < nI (sTm T) - nI (rRel R j))
def idx (E : Ev) (T : St) (R : Rt) (c : Nat) : Nat := lfi E T (frq R T) (nI (rUse R c))
def rea (E : Ev) (T : St) (R : Rt) (c : Nat) (w : Int32) : Nat := rsM E T (nI (rUse R c)) (rLat R c) (idx E T R c) w
theorem rea_le (E T R c w) : rea E T R c w ≤ 4 := by
  unfold rea rsM
  split
  · decide
  · split
    · decide
    · split
      · decide
      · split <;> decide
/-- what is wanted -/
def wan (E : Ev) (R : Rt) (f : ax_F) (c : Nat) (pk : Int32) : Int32 := xcl f (eNp E) (pk ||| ins 12 (rIns R c))
def PlQ (E : Ev) (T : St) (R : Rt) (c : Nat) (w : Int32) (f : ax_F) : Prop := f 14 0 4 = w ∧ f 14 0 3 = nI (idx E T R c) ∧ f 14 0 2 = nI (rea E T R c w) ∧ ∀ i, i < 6 → f 15 0 i = fdn E T (nI (rUse R c)) (idx E T R c) w i
theorem wan_in {E S R f} (h : W7 E S R f) (c : Nat) (pk : Int32) (k : Nat) (hk : bt (wan E R f c pk) k = true) : k < eNp E := xcl_in h.1.1 (CLI.of h) _ k hk
/-- a plan is drawn: in either network -/
theorem cls_draw (g) {n E S R f T} (c : Nat) (pk : Int32) (h : W7 E S R f) (hT : SW E T) (hX : NX n E T f) (hc : c < rNc R) : ∃ f', s_X7_draw [.inr (14, 0), .inr (12, c), .inl (.int pk), .inr (7, n)] f g = rV f' g ∧ PlQ E T R c (wan E R f c pk) f' ∧ Fp f f' := by
  have h' := h
  obtain ⟨hE, hS, hR, -, hM, hC, hN⟩ := h
  obtain ⟨u1, u2, u3⟩ := hC.2.2.2.2.1.2 c hc
  have hj := lfi_le hT (frq R T) (nI (rUse R c))
  obtain ⟨f', e, ⟨p1, p2, p3, p4⟩, hF⟩ := x7_draw (n := n) (k := rPk R (idx E T R c)) (w := wan E R f c pk) g c pk (frq R T) hE hT hX (fun j h1 h2 => by
    unfold frq
    rw [hC.2.1, (hC.2.2.2.1 j h1 h2).2.1, decide_eq_true_eq]) (j := idx E T R c) (by rw [u1]; rfl) (fun h0 => (hC.2.2.2.1 (idx E T R c) (Nat.pos_of_ne_zero h0) hj).1) (by
    unfold wan
    congr 2
    exact ax_it_congr 12 0 (fun i x hi => by rw [u3 i hi]))
  rw [u1] at p3 p4
  refine ⟨f', e, ⟨p1, p2, ?_, p4⟩, hF⟩
  rw [p3, u2]
  congr 1
  refine rsn_eq hE hT (fun k hk => wan_in h' c pk k hk) (fun h0 => ?_)
  have := hR.2.2.1 (idx E T R c) (Nat.pos_of_ne_zero h0) hj
  exact ⟨by have := hE.1; omega, this.2.1⟩
/-- the reference's reason -/
theorem ref_reason (g) {E S R f T} (c : Nat) (pk : Int32) (h : W7 E S R f) {f1 : ax_F} (hT : SW E T) (hX : NM E T f1) (z : ∀ k i j, (19 ≤ k ∧ k ≠ 42 ∧ k ≠ 43 ∧ k ≠ 44 ∧ k < 54 ∧ (k = 19 → j ≠ 0 ∧ j ≠ 6 ∧ j ≠ 8 ∧ j < 30)) → f1 k i j = f k i j) (hc : c < rNc R) (hpk : ∀ k, eNp E ≤ k → k < 32 → bt pk k = false) : s_X10_reason [.inr (19, 0), .inl (.int (nI c)), .inl (.int pk)] f1 g = rI (nI (rea E T R c (wan E R f c pk))) f1 g ∧ s_X10_wantedBy [.inr (19, 0), .inl (.int (nI c)), .inl (.int pk)] f1 g = rI (wan E R f c pk) f1 g ∧ s_X10_indexFor [.inr (19, 0), .inl (.int (nI c))] f1 g = rI (nI (idx E T R c)) f1 g := by
  have h' := h
  obtain ⟨hE, hS, hR, -, hM, hC, hN⟩ := h
  obtain ⟨u1, u2, u3⟩ := hN.2.2.2.2.1.2 c hc
  have hc4 := hR.2.2.2.1.1
  have h12 := hE.1
  have e45 : f1 45 0 c = nI (rUse R c) := by rw [z _ _ _ (by omega)]; exact u1
  have e46 : f1 46 0 c = rLat R c := by rw [z _ _ _ (by omega)]; exact u2
  have e47 : ∀ p, p < eNp E → f1 47 0 (12 * c + p) = rIns R c p := fun p hp => by rw [z _ _ _ (by omega)]; exact u3 p hp
  have hfr : ∀ j, 0 < j → j ≤ eNi E → (frq R T j = true ↔ ¬ f1 19 0 7 < nI (sTm T) - f1 33 0 j) := fun j h1 h2 => by
    unfold frq
    rw [z 19 _ _ (by omega), z 33 _ _ (by omega), hN.2.1, (hN.2.2.2.1 j h1 h2).1, decide_eq_true_eq]
  have hw : wan E R f c pk = mcl f1 (eNp E) (pk ||| ins (eNp E) (fun p => f1 47 0 (12 * c + p))) := by
    have hins : ins 12 (rIns R c) = ins (eNp E) (fun p => f1 47 0 (12 * c + p)) := ins_np h12 (fun p hp => (e47 p hp).symm) (fun p h1 h2 => by rw [(hR.2.2.2.1.2 c hc).2 p h1 h2]; decide +kernel)
    have hm : mcl f1 (eNp E) (pk ||| ins 12 (rIns R c)) = mcl f (eNp E) (pk ||| ins 12 (rIns R c)) := ax_it_congr _ _ (fun i x hi => by rw [z 31 _ _ (by omega)])
    rw [← hins, hm, mcl_xcl h12 (CLI.of h')]
    · rfl
    · intro k h1 h2
      rw [b_or, hpk k h1 h2, Bool.false_or]
      cases q : bt (ins 12 (rIns R c)) k
      · rfl
      · rw [hins] at q
        have := ins_bt h12 _ k q
        omega
  have hc' : c < 4 := by omega
  refine ⟨?_, ?_, ?_⟩
  · rw [x10_reason g pk (frq R T) hE hT hX hc' hfr rfl hw, e45, e46]
    rfl
  · rw [x10_wantedBy f1 g pk hX.1.1 h12 hc', hw]
  · rw [x10_indexFor g (frq R T) hE hT hX hc' hfr, e45]
    rfl
end AYA
