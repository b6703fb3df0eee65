/-! the reference: pull, minute, what it answers of mirrors -/
section AXW
def pulM (E : Ev) (S : St) (m : Nat) : St :=
  if offr E S m = 0 then S
  else if eCrf E m = false ∨ mis E (sCpf E S m (offr E S m)) m (offr E S m) = 0 then
    (if sOwn S m = offr E S m then sTak (sCpf E S m (offr E S m)) m (offr E S m) else sDrp E (sTak (sCpf E S m (offr E S m)) m (offr E S m)) m (offr E S m))
  else sCpf E S m (offr E S m)
def pulN (E : Ev) (S : St) (m : Nat) : Int32 := if offr E S m = 0 then 0 else (cpy E S m (offr E S m)).2.2
theorem pul_MN (E S m) : pul E S m = addC (pulM E S m) (pulN E S m) := by
  unfold pul pulM pulN
  have hm : ∀ j, mis E (sCpd E S m j) m j = mis E (sCpf E S m j) m j := fun _ => rfl
  by_cases h : offr E S m = 0
  · rw [if_pos h, if_pos h, if_pos h]
    show S = (S.1, S.2.1, S.2.2.1, S.2.2.2.1, S.2.2.2.2 + 0)
    rw [Int32.add_zero]
  · rw [if_neg h, if_neg h, if_neg h, hm]
    by_cases h2 : eCrf E m = false ∨ mis E (sCpf E S m (offr E S m)) m (offr E S m) = 0
    · rw [if_pos h2, if_pos h2]
      by_cases h3 : sOwn S m = offr E S m
      · rw [if_pos h3, if_pos h3]; rfl
      · rw [if_neg h3, if_neg h3]; rfl
    · rw [if_neg h2, if_neg h2]; rfl
theorem NM_tak {E S f} {m j : Nat} (hX : NM E S f) (hm : m < eNm E) : NM E (sTak S m j) (ax_up (ax_up f 42 0 m (nI j)) 43 0 m 0) ∧ Fm f (ax_up (ax_up f 42 0 m (nI j)) 43 0 m 0) := by
  obtain ⟨hA, hT, hD⟩ := hX
  have hfm : Fm f (ax_up (ax_up f 42 0 m (nI j)) 43 0 m 0) := ⟨fun k i j' q1 q2 q3 q4 => by
    simp only [ax_up_ap]
    rw [if_neg (fun w => q2 w.1), if_neg (fun w => q1 w.1)], fun j' => by
    by_cases h : j' = m
    · right; simp [ax_up_ap, h]
    · left; simp [ax_up_ap, h]⟩
  refine ⟨⟨hA.of hfm.z, hT.of hfm.z, by simp [ax_up_ap]; exact hD.1, by simp [ax_up_ap]; exact hD.2.1, fun m' hm' => ?_⟩, hfm⟩
  obtain ⟨c1, c2, c3⟩ := hD.2.2 m' hm'
  refine ⟨?_, ?_, fun p hp => by simp [ax_up_ap]; exact c3 p hp⟩
  · show _ = nI (up1 (sOwn S) m j m')
    by_cases h : m' = m
    · subst h; rw [up1_s]; simp [ax_up_ap]
    · rw [up1_n _ _ h, ← c1]; simp [ax_up_ap, h]
  · show _ = b2 (up1 (sWr S) m false m')
    by_cases h : m' = m
    · subst h; rw [up1_s]; simp [ax_up_ap, b2]
    · rw [up1_n _ _ h, ← c2]; simp [ax_up_ap, h]
theorem x10_drop (g) {E S f} {m j o : Nat} (x2 r : Int32) (hE : EW E) (hX : NM E S f) (hm : m < eNm E) (hj : j ≤ eNi E) (ho : o ≤ eNi E) : ∃ f', ax_run P_X10_pull 96 [some (.inr (19, 0)), some (.inl (.int (nI m))), some (.inl (.int x2)), some (.inl (.int (nI j))), some (.inl (.int (nI o))), some (.inl (.int r)), some (.inl (.int 0)), none] [] f g 0 0 = rI r f' g ∧ NM E (if o = j then S else sDrp E S m j) f' ∧ Fm f f' := by
  have h12 := hE.1
  have h6 := hE.2.1
  have h20 := hE.2.2.1
  by_cases c : o = j
  · rw [if_pos c, g_X10_pull_96, c, if_pos rfl]
    refine ⟨f, ?_, hX, Fm.refl f⟩
    by_cases d : f 19 0 2 ≤ 0
    · rw [if_pos d]
    · rw [if_neg d]
  rw [if_neg c]
  obtain ⟨hA, hT, hD⟩ := hX
  have hne : ¬ nI o = nI j := nI_ne c (by omega) (by omega)
  obtain ⟨x', h1, i2, i3⟩ := ax_lpE (fun i (x : ax_F) => ax_run P_X10_pull 96 [some (.inr (19, 0)), some (.inl (.int (nI m))), some (.inl (.int x2)), some (.inl (.int (nI j))), some (.inl (.int (nI o))), some (.inl (.int r)), some (.inl (.int (nI i))), none] [] x g 0 0) (fun i x (y : Nat → Int32) => (∀ p, p < 12 → x 44 0 (12 * m + p) = y p) ∧ ∀ k i' j', ¬ (k = 44 ∧ i' = 0 ∧ 12 * m ≤ j' ∧ j' < 12 * m + 12) → x k i' j' = f k i' j') (fun i F => upd F i (drp (F i) (eTol E j i))) (eNp E) f (sFl S m) ⟨(hD.2.2 m hm).2.2, fun _ _ _ _ => rfl⟩ (by
    intro i h F hi hI
    obtain ⟨i2, i3⟩ := hI
    have z : ∀ k i j, k ≠ 44 → h k i j = f k i j := fun k i j q => i3 k i j (fun w => q w.1)
    have hA' : MA E h := hA.of (fun k i j q => z k i j q.2.2.1)
    rw [g_X10_pull_96, hA'.1, if_neg (nI_ge hi (sm31 (by omega))), if_neg hne, x10_toldBy g hE hA' hj (by omega), cali_r, ix12, bd_n (by omega) (by decide), bd_n (by omega) (by decide), bd_n (by omega) (by decide), nI_1, i2 i (by omega)]
    have done : ∀ v, v = drp (F i) (eTol E j i) → (∀ p, p < 12 → (ax_up h 44 0 (12 * m + i) v) 44 0 (12 * m + p) = upd F i (drp (F i) (eTol E j i)) p) ∧ ∀ k i' j', ¬ (k = 44 ∧ i' = 0 ∧ 12 * m ≤ j' ∧ j' < 12 * m + 12) → (ax_up h 44 0 (12 * m + i) v) k i' j' = f k i' j' := by
      intro v hv
      refine ⟨fun p hp => ?_, fun k i' j' q => ?_⟩
      · simp only [ax_up_ap, upd_ap]
        by_cases hpi : p = i
        · subst hpi; simp [hv]
        · simp [hpi, i2 p hp]
      · simp only [ax_up_ap]
        rw [if_neg (fun w => q ⟨w.1, w.2.1, by omega, by omega⟩)]
        exact i3 k i' j' q
    by_cases cv : eTol E j i ≤ 0
    · rw [if_pos cv]
      refine ⟨_, rfl, done _ ?_⟩
      unfold drp
      rw [if_neg (by rw [i_lt]; rw [i_le] at cv; omega)]
      exact Int32.and_zero
    · rw [if_neg cv]
      refine ⟨_, rfl, done _ ?_⟩
      unfold drp
      rw [if_pos (by rw [i_lt]; rw [i_le] at cv; omega)])
  have z : ∀ k i j, k ≠ 44 → x' k i j = f k i j := fun k i j q => i3 k i j (fun w => q w.1)
  have hfm : Fm f x' := ⟨fun k i j q1 q2 q3 q4 => z k i j q3, fun j => Or.inl (z 43 0 j (by decide))⟩
  refine ⟨x', h1.trans ?_, ⟨hA.of hfm.z, hT.of hfm.z, by rw [z _ _ _ (by decide)]; exact hD.1, by rw [z _ _ _ (by decide)]; exact hD.2.1, fun m' hm' => ?_⟩, hfm⟩
  · rw [g_X10_pull_96, z _ _ _ (by decide), hA.1, if_pos (nI_le (Nat.le_refl _) (sm31 (by omega)))]
  · obtain ⟨c1, c2, c3⟩ := hD.2.2 m' hm'
    refine ⟨by rw [z _ _ _ (by decide)]; exact c1, by rw [z _ _ _ (by decide)]; exact c2, fun p hp => ?_⟩
    show x' 44 0 (12 * m' + p) = up1 (sFl S) m _ m' p
    by_cases hmm : m' = m
    · subst hmm
      rw [up1_s, i2 p hp]
      exact congrFun (ax_it_pt (eNp E) (fun p x => drp x (eTol E j p)) (sFl S m')) p
    · rw [up1_n _ _ hmm, ← c3 p hp]
      exact i3 _ _ _ (by omega)
theorem x10_pull (g) {E S f} {m : Nat} (hE : EW E) (hS : SW E S) (hX : NM E S f) (hm : m < eNm E) : ∃ f', s_X10_pull [.inr (19, 0), .inl (.int (nI m))] f g = rI (pulN E S m) f' g ∧ NM E (pulM E S m) f' ∧ Fm f f' := by
  have h12 := hE.1
  have h6 := hE.2.1
  have h20 := hE.2.2.1
  obtain ⟨t1, t2, t3, t4, t5, t6⟩ := hX.2.1.2 m hm
  have hown : f 42 0 m = nI (sOwn S m) := (hX.2.2.2.2 m hm).1
  have hole := hS.1 m hm
  obtain ⟨j, hj⟩ : ∃ j, j = offr E S m := ⟨_, rfl⟩
  have hjle := offr_le hE hS hm
  rw [← hj] at hjle
  rw [e_X10_pull, g_X10_pull_0, bd_n (by omega) (by decide), t4]
  unfold pulM pulN
  rw [← hj]
  have core : ∀ x2 : Int32, ∃ f', (if nI j = 0 then rI 0 f g else ax_cali (s_X10_copyFiles [.inr (19, 0), .inl (.int (nI m)), .inl (.int (nI j))] f g) (fun e16 f16 g16 => some (.inr e16, f16, g16)) (fun z16 f16 g16 => if (f16 41 0 m) = 0 then (ax_run P_X10_pull 96 [some (.inr (19, 0)), some (.inl (.int (nI m))), some (.inl (.int x2)), some (.inl (.int (nI j))), some (.inl (.int (nI (sOwn S m)))), some (.inl (.int z16)), some (.inl (.int 0)), none] [] (ax_up (ax_up f16 42 0 m (nI j)) 43 0 m 0) g16 0 0) else (ax_cali (s_X10_lacking [.inr (19, 0), .inl (.int (nI m)), .inl (.int (nI j))] f16 g16) (fun e21 f21 g21 => some (.inr e21, f21, g21)) (fun z21 f21 g21 => if z21 = 0 then (ax_run P_X10_pull 96 [some (.inr (19, 0)), some (.inl (.int (nI m))), some (.inl (.int x2)), some (.inl (.int (nI j))), some (.inl (.int (nI (sOwn S m)))), some (.inl (.int z16)), some (.inl (.int 0)), none] [] (ax_up (ax_up f21 42 0 m (nI j)) 43 0 m 0) g21 0 0) else rI z16 f21 g21)))) = rI (if j = 0 then 0 else (cpy E S m j).2.2) f' g ∧ NM E (if j = 0 then S else if eCrf E m = false ∨ mis E (sCpf E S m j) m j = 0 then (if sOwn S m = j then sTak (sCpf E S m j) m j else sDrp E (sTak (sCpf E S m j) m j) m j) else sCpf E S m j) f' ∧ Fm f f' := by
    intro x2
    by_cases h0 : j = 0
    · rw [if_pos h0, if_pos h0, h0, if_pos (show nI 0 = 0 from rfl)]
      exact ⟨f, rfl, hX, Fm.refl f⟩
    rw [if_neg h0, if_neg h0, if_neg (nI_ne0 (by omega) (sm31 (by omega)))]
    obtain ⟨f1, e1, hX1, hF1⟩ := x10_copyFiles g hE hX hm hjle
    have e41 : f1 41 0 m = b2 (eCrf E m) := (hX1.2.1.2 m hm).2.2.2.2.2
    rw [e1, cali_r, e41, ite_b2, x10_lacking g hE hX1 hm hjle, cali_r]
    obtain ⟨hX2, hF2⟩ := NM_tak (j := j) hX1 hm
    obtain ⟨f3, e3, hX3, hF3⟩ := x10_drop g x2 (cpy E S m j).2.2 hE hX2 hm hjle hole
    have hF := (hF1.trans hF2).trans hF3
    rw [e3]
    cases eCrf E m with
    | false =>
      rw [if_neg (by decide), if_pos (Or.inl rfl)]
      exact ⟨f3, rfl, hX3, hF⟩
    | true =>
      rw [if_pos rfl]
      by_cases hmis : mis E (sCpf E S m j) m j = 0
      · rw [if_pos hmis, if_pos (Or.inr hmis)]
        exact ⟨f3, rfl, hX3, hF⟩
      · rw [if_neg hmis, if_neg (fun q => q.elim (fun w => by cases w) hmis)]
        exact ⟨f1, rfl, hX1, hF1⟩
  have bm : ∀ kk, ax_bd (nI m) 6 kk = kk m := fun kk => bd_n (by omega) (by decide) kk
  cases eu : eUps E m with
  | none =>
    have hjn : j = eNi E := by rw [hj]; unfold offr; rw [eu]
    rw [if_pos (show upsI none = (-1 : Int32) from rfl), hX.1.2.1, ← hjn]
    simp only [bm, hown]
    exact core _
  | some u =>
    have hu := (hE.2.2.2.1 m hm).2.2.2 u eu
    obtain ⟨b1, b2', -⟩ := hX.2.2.2.2 u (by omega)
    have hnm : ¬ upsI (some u) = (-1 : Int32) := fun q => nI_pos (n := u) (sm31 (by omega)) (by rw [show nI u = (-1 : Int32) from q]; decide +kernel)
    have hjn : j = if sWr S u = true then 0 else sOwn S u := by
      rw [hj]; unfold offr; rw [eu]
      show (if gud S u = true then sOwn S u else 0) = _
      unfold gud
      cases sWr S u
      · rcases Nat.eq_zero_or_pos (sOwn S u) with q | q
        · rw [q]; simp
        · rw [decide_eq_true q]; rfl
      · simp
    rw [if_neg hnm, show upsI (some u) = nI u from rfl, bd_n (by omega) (by decide), bd_n (by omega) (by decide), b2', ite_b2, b1]
    cases hw : sWr S u with
    | true =>
      rw [hw] at hjn
      simp only [if_true] at hjn
      rw [if_pos rfl, if_pos hjn, if_pos hjn]
      exact ⟨f, rfl, hX, Fm.refl f⟩
    | false =>
      rw [hw] at hjn
      have hjn : j = sOwn S u := hjn
      rw [if_neg (by decide), ← hjn]
      simp only [bm, hown]
      exact core _
end AXW
