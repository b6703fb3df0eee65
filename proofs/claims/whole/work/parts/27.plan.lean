/-! the class: Plan -/
section AXU
def hbf (w : Int32) (k : Nat) : Bool := decide (¬ us k w = 0)
theorem x9_hasBitFrom (f g) (w : Int32) (k : Nat) : s_X9_hasBitFrom [.inl (.int w), .inl (.int (nI k))] f g = rI (b2 (hbf w k)) f g := by
  rw [e_X9_hasBitFrom, g_X9_hasBitFrom_0]
  unfold hbf
  rw [b2_d]
  show (if us k w = 0 then _ else _) = _
  by_cases h : us k w = 0
  · rw [if_pos h, if_neg (fun q => q h)]
  · rw [if_neg h, if_pos h]
theorem us_bt {k : Nat} (hk : k < 32) (w : Int32) : us k w = 0 ↔ ∀ i, k ≤ i → i < 32 → bt w i = false := by
  have e : ∀ i, bt (us k w) i = bt w (k + i) := fun i => b_ushr k hk w i
  constructor
  · intro h i h1 h2
    have := e (i - k)
    rw [h, show k + (i - k) = i from by omega] at this
    rw [← this]
    exact b_0 _
  · intro h
    refine b_ext (fun i hi => ?_)
    rw [e, b_0]
    by_cases c : k + i < 32
    · exact h _ (by omega) c
    · exact b_big (by omega)
def tog (F : Nat → Int32) (set : Int32) : Int32 := ax_it 6 (fun i a => if hs set (nI i) = true then a ||| F i else a) 0
theorem x7_together (f g) (set : Int32) : s_X7_foundTogether [.inr (14, 0), .inl (.int set)] f g = rI (tog (f 15 0) set) f g := by
  rw [e_X7_foundTogether, g_X7_foundTogether_0]
  refine (ax_lp (fun i a => ax_run P_X7_foundTogether 4 [some (.inr (14, 0)), some (.inl (.int set)), some (.inl (.int a)), some (.inl (.int (nI i)))] [] f g 0 0) (fun i a => if hs set (nI i) = true then a ||| f 15 0 i else a) 6 0 (fun i hi => ?_)).trans ?_
  · show ax_run _ _ [_, _, _, some (.inl (.int (nI i)))] _ _ _ _ _ = _
    rw [g_X7_foundTogether_4, if_neg (nI_ge hi (by decide)), bd_n hi (by decide), nI_1]
    by_cases c : ((set >>> (nI i &&& 31)) &&& 1) = 0
    · rw [if_pos c, if_neg (fun q => by rw [hs_f.mpr c] at q; cases q)]
    · rw [if_neg c, if_pos (hs_t.mpr c)]
  · show ax_run _ _ [_, _, _, some (.inl (.int (nI 6)))] _ _ _ _ _ = _
    rw [g_X7_foundTogether_4, if_pos (nI_le (Nat.le_refl _) (by decide))]
    rfl
theorem tog_congr {F G : Nat → Int32} (set : Int32) (h : ∀ i, i < 6 → F i = G i) : tog F set = tog G set := ax_it_congr 6 0 (fun i x hi => by rw [h i hi])
/-- packages of an index, in the class -/
def pin (f : ax_F) (j : Nat) : Int32 := if j = 0 then 0 else f 5 (j - 1) 1
/-- why an install fails -/
def rsn (j : Nat) (lat : Int32) (k : Nat) (w : Int32) (t : Int32) : Nat := if j = 0 then 1 else if ¬ lat ≤ nI j then 2 else if hbf w k = true then 3 else if t = w then 0 else 4
theorem x7_reason (f g) (c : Nat) {ni j k : Nat} (hi : f 1 0 4 = nI ni) (h20 : ni ≤ 20) (hj : j ≤ ni) (hij : f 14 0 3 = nI j) (hk : j ≠ 0 → f 5 (j - 1) 1 = nI k) : s_X7_reasonFor [.inr (14, 0), .inr (12, c)] f g = rI (nI (rsn j (f 12 c 2) k (f 14 0 4) (tog (f 15 0) (f 12 c 1)))) f g := by
  rw [e_X7_reasonFor, g_X7_reasonFor_0, hij]
  unfold rsn
  by_cases h : j = 0
  · subst h; rfl
  rw [if_neg (nI_ne0 (by omega) (sm31 (by omega)))]
  simp only [if_neg h]
  by_cases c1 : f 12 c 2 ≤ nI j
  · rw [if_pos c1]
    simp only [if_neg (fun q => q c1 : ¬ ¬ f 12 c 2 ≤ nI j)]
    rw [x0_packsIn f g hi h20 hj, cali_r, if_neg h, hk h, x9_hasBitFrom, cali_r, ite_b2]
    by_cases c2 : hbf (f 14 0 4) k = true
    · rw [if_pos c2]; simp only [if_pos c2]; rfl
    · rw [if_neg c2, x7_together, cali_r]
      simp only [if_neg c2]
      by_cases c3 : tog (f 15 0) (f 12 c 1) = f 14 0 4
      · rw [if_pos c3]; simp only [if_pos c3]; rfl
      · rw [if_neg c3]; simp only [if_neg c3]; rfl
  · rw [if_neg c1]
    simp only [if_pos c1]
    rfl
def Fp (f f' : ax_F) : Prop := ∀ k i j, k ≠ 14 → k ≠ 15 → f' k i j = f k i j
theorem Fp.trans {f f1 f2} (h : Fp f f1) (h2 : Fp f1 f2) : Fp f f2 := fun k i j q1 q2 => (h2 k i j q1 q2).trans (h k i j q1 q2)
theorem Fp.up {f : ax_F} (j : Nat) (x : Int32) : Fp f (ax_up f 14 0 j x) := fun k i j' h _ => by rw [ax_up_ap, if_neg (fun q => h q.1)]
theorem Fp.up5 {f : ax_F} (j : Nat) (x : Int32) : Fp f (ax_up f 15 0 j x) := fun k i j' _ h => by rw [ax_up_ap, if_neg (fun q => h q.1)]
theorem NX.fp {n E S f f'} (h : NX n E S f) (hf : Fp f f') : NX n E S f' := by
  obtain ⟨⟨a1, a2, a3, a4⟩, ⟨t1, t2⟩, d1, d2, d3⟩ := h
  have z : ∀ k i j, k ≠ 14 ∧ k ≠ 15 → f' k i j = f k i j := fun k i j q => hf k i j q.1 q.2
  refine ⟨⟨by rw [z _ _ _ (by decide)]; exact a1, by rw [z _ _ _ (by decide)]; exact a2, fun p hp => by rw [z _ _ _ (by decide), z _ _ _ (by decide)]; exact a3 p hp, fun j p hj hp => ?_⟩, ⟨by rw [z _ _ _ (by decide)]; exact t1, fun m hm => ?_⟩, by rw [z _ _ _ (by decide)]; exact d1, by rw [z _ _ _ (by decide)]; exact d2, fun m hm => ?_⟩
  · rw [← a4 j p hj hp]; unfold tv; rw [z _ _ _ (by decide)]
  · rw [z 9 _ 1 (by decide), z 9 _ 2 (by decide), z 9 _ 3 (by decide), z 9 _ 4 (by decide), z 9 _ 5 (by decide), z 9 _ 6 (by decide)]; exact t2 m hm
  · rw [z 9 _ 7 (by decide), z 9 _ 8 (by decide)]
    exact ⟨(d3 m hm).1, (d3 m hm).2.1, fun p hp => by rw [z _ _ _ (by decide)]; exact (d3 m hm).2.2 p hp⟩
/-- what the mirrors of a client have of the wanted -/
def fdn (E : Ev) (S : St) (uses : Int32) (j : Nat) (w : Int32) (i : Nat) : Int32 := if i < eNm E ∧ hs uses (nI i) = true then fnd E S i j w else 0
/-- the plan, as it is drawn -/
def Pl (E : Ev) (S : St) (uses lat : Int32) (j k : Nat) (w : Int32) (f : ax_F) : Prop := f 14 0 4 = w ∧ f 14 0 3 = nI j ∧ f 14 0 2 = nI (rsn j lat k w (tog (fdn E S uses j w) uses)) ∧ ∀ i, i < 6 → f 15 0 i = fdn E S uses j w i
theorem x7_draw (g) {n E S f} (c : Nat) (pk : Int32) {j k : Nat} {w : Int32} (fr : Nat → Bool) (hE : EW E) (hS : SW E S) (hX : NX n E S f) (hfr : ∀ j, 0 < j → j ≤ eNi E → (fr j = true ↔ ¬ f 1 0 5 < nI (sTm S) - f 5 (j - 1) 2)) (hj : j = lfi E S fr (f 12 c 1)) (hk : j ≠ 0 → f 5 (j - 1) 1 = nI k) (hw : w = xcl f (eNp E) (pk ||| ins 12 (f 13 c))) : ∃ f', s_X7_draw [.inr (14, 0), .inr (12, c), .inl (.int pk), .inr (7, n)] f g = rV f' g ∧ Pl E S (f 12 c 1) (f 12 c 2) j k w f' ∧ Fp f f' := by
  have hjle : j ≤ eNi E := by rw [hj]; exact lfi_le hS _ _
  have h20 := hE.2.2.1
  have hm6 := hE.2.1
  rw [e_X7_draw, g_X7_draw_0, x1_installedSet, cali_r, x0_closureOf f g _ hX.1.1 hE.1, cali_r, ← hw]
  have hF1 : Fp f (ax_up f 14 0 4 w) := Fp.up 4 w
  have e1 : (ax_up f 14 0 4 w) 12 c 1 = f 12 c 1 := hF1 _ _ _ (by decide) (by decide)
  rw [e1, x5_latest g (f 12 c 1) fr hE hS (hX.fp hF1) (fun j h1 h2 => by rw [hF1 _ _ _ (by decide) (by decide), hF1 _ _ _ (by decide) (by decide)]; exact hfr j h1 h2), cali_r, ← hj]
  have hF2 : Fp f (ax_up (ax_up f 14 0 4 w) 14 0 3 (nI j)) := hF1.trans (Fp.up 3 (nI j))
  obtain ⟨x', h1, i1, i2, i3, i4⟩ := ax_lpE (fun i (x : ax_F) => ax_run P_X7_draw 32 [some (.inr (14, 0)), some (.inr (12, c)), some (.inl (.int pk)), some (.inr (7, n)), some (.inl (.int (nI i))), none] [] x g 0 0) (fun i x (_ : Unit) => x 14 0 4 = w ∧ x 14 0 3 = nI j ∧ (∀ i', i' < i → x 15 0 i' = fdn E S (f 12 c 1) j w i') ∧ Fp f x) (fun _ y => y) 6 (ax_up (ax_up f 14 0 4 w) 14 0 3 (nI j)) () ⟨by simp [ax_up_ap], by simp [ax_up_ap], fun i' h => absurd h (by omega), hF2⟩ (by
    intro i x _ hi hI
    obtain ⟨i1, i2, i3, i4⟩ := hI
    have hX' := hX.fp i4
    have eu : x 12 c 1 = f 12 c 1 := i4 _ _ _ (by decide) (by decide)
    have done : ∀ v, v = fdn E S (f 12 c 1) j w i → (ax_up x 15 0 i v) 14 0 4 = w ∧ (ax_up x 15 0 i v) 14 0 3 = nI j ∧ (∀ i', i' < i + 1 → (ax_up x 15 0 i v) 15 0 i' = fdn E S (f 12 c 1) j w i') ∧ Fp f (ax_up x 15 0 i v) := by
      intro v hv
      refine ⟨by simp [ax_up_ap]; exact i1, by simp [ax_up_ap]; exact i2, fun i' hi' => ?_, i4.trans (Fp.up5 i v)⟩
      simp only [ax_up_ap]
      by_cases h : i' = i
      · subst h; simp [hv]
      · simp [h]; exact i3 i' (by omega)
    rw [g_X7_draw_32, if_neg (nI_ge hi (by decide)), hX'.2.1.1, eu, bd_n hi (by decide), nI_1, i1, i2]
    by_cases c1 : i < eNm E
    · rw [if_neg (nI_ge c1 (sm31 (by omega)))]
      by_cases c2 : ((f 12 c 1 >>> (nI i &&& 31)) &&& 1) = 0
      · rw [if_pos c2]
        exact ⟨_, rfl, done 0 (by unfold fdn; rw [if_neg (fun q => by rw [hs_f.mpr c2] at q; cases q.2)])⟩
      · rw [if_neg c2, x5_foundAt g w hE hX' c1 hjle, cali_r, bd_n hi (by decide)]
        exact ⟨_, rfl, done _ (by unfold fdn; rw [if_pos ⟨c1, hs_t.mpr c2⟩])⟩
    · rw [if_pos (nI_le (by omega) (sm31 (by omega)))]
      exact ⟨_, rfl, done 0 (by unfold fdn; rw [if_neg (fun q => c1 q.1)])⟩)
  have z : ∀ k i j, k ≠ 14 ∧ k ≠ 15 → x' k i j = f k i j := fun k i j q => i4 k i j q.1 q.2
  refine ⟨ax_up x' 14 0 2 (nI (rsn j (f 12 c 2) k w (tog (fdn E S (f 12 c 1) j w) (f 12 c 1)))), h1.trans ?_, ⟨by simp [ax_up_ap]; exact i1, by simp [ax_up_ap]; exact i2, by simp [ax_up_ap], fun i hi => by simp [ax_up_ap]; exact i3 i hi⟩, i4.trans (Fp.up 2 _)⟩
  rw [g_X7_draw_32, if_pos (nI_le (Nat.le_refl _) (by decide)), x7_reason x' g c (by rw [z _ _ _ (by decide)]; exact hX.1.2.1) h20 hjle i2 (fun h => by rw [z _ _ _ (by decide)]; exact hk h), cali_r, z 12 c 1 (by decide), z 12 c 2 (by decide), i1, tog_congr _ i3]
/-- what an install makes of a client -/
theorem x7_carryOut (f g) (c : Nat) {ni j : Nat} {w : Int32} (hi : f 1 0 4 = nI ni) (h20 : ni ≤ 20) (hj : j ≤ ni) (hij : f 14 0 3 = nI j) (hw : f 14 0 4 = w) : s_X7_carryOut [.inr (14, 0), .inr (12, c)] f g = rV (ax_up (ax_row1 f 13 c (fun p => if p < 12 ∧ hs w (nI p) = true then tv f j p else f 13 c p)) 12 c 2 (nI j)) g := by
  rw [e_X7_carryOut, g_X7_carryOut_0]
  have l := ax_lp (fun i h => ax_run P_X7_carryOut 2 [some (.inr (14, 0)), some (.inr (12, c)), some (.inl (.int (nI i)))] [] (ax_row1 f 13 c h) g 0 0) (fun p h => if hs w (nI p) = true then upd h p (tv f j p) else h) 12 (f 13 c) (fun i hlt => by
    have r4 : ∀ H s, ax_row1 f 13 c H 14 0 s = f 14 0 s := fun H s => by rw [row1_ap, if_neg (by simp)]
    rw [g_X7_carryOut_2, if_neg (show ¬ (12 : Int32) ≤ nI i from nI_ge hlt (by decide)), r4, r4, hw, hij, nI_1, x0_versionIn (ax_row1 f 13 c _) g (by rw [row1_ap, if_neg (by simp)]; exact hi) h20 hj hlt, cali_r, bd_n hlt (by decide)]
    have e : ∀ H, tv (ax_row1 f 13 c H) j i = tv f j i := fun H => by unfold tv; simp [row1_ap]
    by_cases c1 : ((w >>> (nI i &&& 31)) &&& 1) = 0
    · have c2 : ¬ hs w (nI i) = true := fun q => by rw [hs_f.mpr c1] at q; cases q
      rw [if_pos c1]
      simp only [if_neg c2]
    · rw [if_neg c1, e, row1_up]
      simp only [if_pos (hs_t.mpr c1)])
  rw [row1_self] at l
  refine (show _ = _ from l).trans ?_
  have e2 : ∀ n, n ≤ 12 → ax_it n (fun p h => if hs w (nI p) = true then upd h p (tv f j p) else h) (f 13 c) = fun p => if p < n ∧ hs w (nI p) = true then tv f j p else f 13 c p := by
    intro n
    induction n with
    | zero => intro _; funext p; simp [ax_it_0]
    | succ n ih =>
      intro hn
      rw [ax_it_s, ih (by omega)]
      funext p
      by_cases h : hs w (nI n) = true
      · rw [if_pos h, upd_ap]
        by_cases hp : p = n
        · subst hp; rw [if_pos rfl, if_pos ⟨by omega, h⟩]
        · rw [if_neg hp]
          by_cases q : p < n
          · have : p < n + 1 := by omega
            simp [q, this]
          · have : ¬ p < n + 1 := by omega
            simp [q, this]
      · rw [if_neg h]
        by_cases hp : p = n
        · subst hp; simp [h]
        · by_cases q : p < n
          · have : p < n + 1 := by omega
            simp [q, this]
          · have : ¬ p < n + 1 := by omega
            simp [q, this]
  rw [e2 12 (Nat.le_refl _), g_X7_carryOut_2, if_pos (show (12 : Int32) ≤ nI 12 from nI_le (Nat.le_refl _) (by decide)), row1_ap, if_neg (by simp), hij]
def chg (f : ax_F) (c j : Nat) (w : Int32) : Int32 := ax_sum 12 (fun p => if hs w (nI p) = true ∧ ¬ f 13 c p = tv f j p then f 3 p 1 else 0)
theorem x7_changed (f g) (c : Nat) {ni j r : Nat} {w : Int32} (hi : f 1 0 4 = nI ni) (h20 : ni ≤ 20) (hj : j ≤ ni) (hij : f 14 0 3 = nI j) (hw : f 14 0 4 = w) (hr : f 14 0 2 = nI r) (hr4 : r ≤ 4) : s_X7_changedSize [.inr (14, 0), .inr (12, c)] f g = rI (if r = 0 then chg f c j w else -1) f g := by
  rw [e_X7_changedSize, g_X7_changedSize_0, hr]
  by_cases h : r = 0
  · rw [if_pos h, h, if_pos (show nI 0 = 0 from rfl)]
    refine (ax_lp (fun i a => ax_run P_X7_changedSize 13 [some (.inr (14, 0)), some (.inr (12, c)), some (.inl (.int a)), some (.inl (.int (nI i)))] [] f g 0 0) (fun p a => a + (if hs w (nI p) = true ∧ ¬ f 13 c p = tv f j p then f 3 p 1 else 0)) 12 0 (fun i hlt => ?_)).trans ?_
    · show ax_run _ _ [_, _, _, some (.inl (.int (nI i)))] _ _ _ _ _ = _
      rw [g_X7_changedSize_13, if_neg (show ¬ (12 : Int32) ≤ nI i from nI_ge hlt (by decide)), hw, hij, nI_1, bd_n hlt (by decide), x0_versionIn f g hi h20 hj hlt, cali_r, bd_n hlt (by decide)]
      by_cases c1 : ((w >>> (nI i &&& 31)) &&& 1) = 0
      · rw [if_pos c1, if_neg (fun q => by rw [hs_f.mpr c1] at q; cases q.1), Int32.add_zero]
      · rw [if_neg c1]
        by_cases c2 : f 13 c i = tv f j i
        · rw [if_pos c2, if_neg (fun q => q.2 c2), Int32.add_zero]
        · rw [if_neg c2, if_pos ⟨hs_t.mpr c1, c2⟩]
    · show ax_run _ _ [_, _, _, some (.inl (.int (nI 12)))] _ _ _ _ _ = _
      rw [g_X7_changedSize_13, if_pos (show (12 : Int32) ≤ nI 12 from nI_le (Nat.le_refl _) (by decide))]
      rfl
  · rw [if_neg h, if_neg (nI_ne0 (by omega) (sm31 (by omega)))]
def mnI (x y : Int32) : Int32 := if y < x then y else x
theorem J9_min (f g) (x y : Int32) : s_J9_min [.inl (.int x), .inl (.int y)] f g = rI (mnI x y) f g := by
  rw [e_J9_min, g_J9_min_0]
  unfold mnI
  by_cases h : y < x
  · rw [if_pos h, if_pos h]
  · rw [if_neg h, if_neg h]
def few (F : Nat → Int32) (uses w : Int32) (N : Nat) (b : Int32) : Int32 := ax_it N (fun s a => if (nI s &&& (uses ^^^ (-1))) = 0 ∧ tog F (nI s) = w then mnI a (bts (nI s)) else a) b
theorem x7_fewest (f g) (c : Nat) {r : Nat} {w : Int32} (hw : f 14 0 4 = w) (hr : f 14 0 2 = nI r) (hr4 : r ≤ 4) : s_X7_fewestMirrors [.inr (14, 0), .inr (12, c)] f g = rI (if r = 0 then few (f 15 0) (f 12 c 1) w 64 6 else -1) f g := by
  rw [e_X7_fewestMirrors, g_X7_fewestMirrors_0, hr]
  by_cases h : r = 0
  · rw [if_pos h, h, if_pos (show nI 0 = 0 from rfl)]
    refine (ax_lp (fun i a => ax_run P_X7_fewestMirrors 14 [some (.inr (14, 0)), some (.inr (12, c)), some (.inl (.int a)), some (.inl (.int (nI i))), none] [] f g 0 0) (fun s a => if (nI s &&& (f 12 c 1 ^^^ (-1))) = 0 ∧ tog (f 15 0) (nI s) = w then mnI a (bts (nI s)) else a) 64 6 (fun i hlt => ?_)).trans ?_
    · show ax_run _ _ [_, _, _, some (.inl (.int (nI i))), _] _ _ _ _ _ = _
      rw [g_X7_fewestMirrors_14, if_neg (show ¬ (64 : Int32) ≤ nI i from nI_ge hlt (by decide)), x7_together, cali_r, hw, J6_bitCount (nI_pos (sm31 (by omega))), cali_r, J9_min, cali_r, nI_1]
      by_cases c1 : (nI i &&& (f 12 c 1 ^^^ (-1))) = 0
      · rw [if_pos c1]
        by_cases c2 : tog (f 15 0) (nI i) = w
        · rw [if_pos c2, if_pos ⟨c1, c2⟩]
        · rw [if_neg c2, if_neg (fun q => c2 q.2)]
      · rw [if_neg c1, if_neg (fun q => c1 q.1)]
    · show ax_run _ _ [_, _, _, some (.inl (.int (nI 64))), _] _ _ _ _ _ = _
      rw [g_X7_fewestMirrors_14, if_pos (show (64 : Int32) ≤ nI 64 from nI_le (Nat.le_refl _) (by decide))]
      rfl
  · rw [if_neg h, if_neg (nI_ne0 (by omega) (sm31 (by omega)))]
end AXU
