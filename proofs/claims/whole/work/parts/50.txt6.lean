/-! the reference takes a character -/
section AYR
theorem TQ.of {ns np it Q f f'} (P : Nat) (A : Int32) (B : Nat) (C : Int32) (H : Nat) (h : TQ ns np it Q f) (h0 : f' 19 0 33 = f 19 0 33) (h2 : f' 19 0 2 = f 19 0 2) (h1 : f' 19 0 1 = f 19 0 1) (h30 : f' 19 0 30 = nI (mph P)) (h31 : f' 19 0 31 = nI B) (h32 : f' 19 0 32 = hiI H) (h54 : f' 54 0 it = A) (h56 : f' 56 0 it = C) : TQ ns np it (P, qN Q, A, B, C, H) f' := ⟨h0.trans h.1, h.2.1, h2.trans h.2.2.1, h1.trans h.2.2.2.1, h30, fun _ => ⟨h31, h32, h54, h56⟩⟩
theorem x10_takes (f g) {ns np it Q} {v : Nat} (hv : v ≤ 1000) (hns : 1 ≤ ns ∧ ns ≤ 5) (h : TQ ns np it Q f) (hw : QW ns Q) : RdM ns np it Q v f g (s_X10_takes [.inr (19, 0), .inl (.int (nI v))] f g) := by
  have hw' := hw
  have h' := h
  obtain ⟨w1, w2, w3, w4, w5, w6, w7, w8, w9, w10, w11, w12, w13⟩ := hw
  obtain ⟨h1, h2, h3, h4, h5, h6⟩ := h
  rw [e_X10_takes, g_X10_takes_0, x10_mayEnd f g h' hw', cali_r, ite_b2]
  have sw : ¬ (v = 59 ∧ qEnd Q = true) → RdM ns np it Q v f g (if (f 19 0 30) = 0 then (ax_cali (s_X10_takesSection [.inr (19, 0), .inl (.int (nI v))] f g) (fun e f g => some (.inr e, f, g)) (fun z f g => ax_bb z (rI z f g))) else if (f 19 0 30) = 1 then (if nI v = 58 then (if nI v = 58 then rI 1 (ax_up f 19 0 30 2) g else rI 0 (ax_up f 19 0 30 2) g) else (if nI v = 58 then rI 1 (ax_up f 19 0 30 1) g else rI 0 (ax_up f 19 0 30 1) g)) else if (f 19 0 30) = 2 then (ax_cali (s_X10_takesSize [.inr (19, 0), .inl (.int (nI v))] f g) (fun e f g => some (.inr e, f, g)) (fun z f g => ax_bb z (rI z f g))) else (ax_cali (s_X10_takesLetter [.inr (19, 0), .inl (.int (nI v))] f g) (fun e f g => some (.inr e, f, g)) (fun z f g => ax_bb z (rI z f g)))) := by
    intro c0
    have hp : pst ns Q v = if qP Q = 0 then (if 48 ≤ v ∧ v < 48 + ns ∧ qN Q < 12 then some (1, qN Q, nI (v - 48), 0, 0, 0) else none) else if qP Q = 1 then (if v = 58 then some (2, qN Q, qA Q, qB Q, qC Q, qH Q) else none) else if qP Q = 2 then (if 49 ≤ v ∧ v ≤ 57 then some (3, qN Q, qA Q, v - 48, qC Q, qH Q) else none) else if qP Q = 3 then (if 48 ≤ v ∧ v ≤ 57 then some (4, qN Q, qA Q, 10 * qB Q + (v - 48), qC Q, qH Q) else if v = 43 then some (5, qN Q, qA Q, qB Q, qC Q, qH Q) else none) else if qP Q = 4 then (if v = 43 then some (5, qN Q, qA Q, qB Q, qC Q, qH Q) else none) else (if 97 ≤ v ∧ v - 97 < qN Q ∧ qH Q ≤ v - 97 then some (6, qN Q, qA Q, qB Q, qC Q ||| ((1 : Int32) <<< (nI (v - 97) &&& 31)), v - 97 + 1) else none) := by
      unfold pst
      rw [if_neg c0]
    rw [h5]
    by_cases p0 : qP Q = 0
    · rw [if_pos p0] at hp
      rw [p0, if_pos (show nI (mph 0) = 0 from rfl), x10_section f g hv hns h' hw']
      by_cases q : 48 ≤ v ∧ v < 48 + ns ∧ qN Q < 12
      · rw [if_pos q, cali_r, bb_1]
        rw [if_pos q] at hp
        exact RdM.yes hp c0 (((((FT.up5 (by decide) (by decide) _).trans (FT.up5 (by decide) (by decide) _)).trans (FT.up (by decide) (by decide) _)).trans (FT.up (by decide) (by decide) _)).trans (FT.up (by decide) (by decide) _)) (TQ.of 1 (nI (v - 48)) 0 0 0 h' (by rw [upn (by omega), upn (by omega), upn (by omega), upn (by omega), upn (by omega)]) (by rw [upn (by omega), upn (by omega), upn (by omega), upn (by omega), upn (by omega)]) (by rw [upn (by omega), upn (by omega), upn (by omega), upn (by omega), upn (by omega)]) (ax_up_s _ _ _ _ _) (by rw [upn (by omega), upn (by omega)]; exact ax_up_s _ _ _ _ _) (by rw [upn (by omega)]; exact ax_up_s _ _ _ _ _) (by rw [upn (by omega), upn (by omega), upn (by omega), upn (by omega)]; exact ax_up_s _ _ _ _ _) (by rw [upn (by omega), upn (by omega), upn (by omega)]; exact ax_up_s _ _ _ _ _))
      · rw [if_neg q, cali_r, bb_0]
        rw [if_neg q] at hp
        exact RdM.no hp (FT.refl it f)
    rw [if_neg p0] at hp
    obtain ⟨g1, g2, g3, g4⟩ := h6 p0
    by_cases p1 : qP Q = 1
    · rw [if_pos p1] at hp
      rw [p1, if_neg (show ¬ nI (mph 1) = 0 by decide +kernel), if_pos (show nI (mph 1) = 1 from rfl)]
      by_cases q : v = 58
      · have e58 : nI v = (58 : Int32) := by rw [q]; rfl
        rw [if_pos e58, if_pos e58]
        rw [if_pos q] at hp
        exact RdM.yes hp c0 (FT.up (by decide) (by decide) _) (TQ.of 2 (qA Q) (qB Q) (qC Q) (qH Q) h' (by rw [upn (by omega)]) (by rw [upn (by omega)]) (by rw [upn (by omega)]) (ax_up_s _ _ _ _ _) (by rw [upn (by omega)]; exact g1) (by rw [upn (by omega)]; exact g2) (by rw [upn (by omega)]; exact g3) (by rw [upn (by omega)]; exact g4))
      · have e58 : ¬ nI v = (58 : Int32) := nI_neL 58 q hv (by decide)
        rw [if_neg e58, if_neg e58]
        rw [if_neg q] at hp
        exact RdM.no hp (FT.up (by decide) (by decide) _)
    rw [if_neg p1] at hp
    by_cases p4 : qP Q ≤ 4
    · have em : mph (qP Q) = 2 := by unfold mph; rw [if_neg p0, if_neg p1, if_pos p4]
      have hb : qB Q ≤ 99 := by
        by_cases p2 : qP Q = 2
        · have := w4 (by omega); omega
        by_cases p3 : qP Q = 3
        · have := w5 p3; omega
        · have := w6 (by omega); omega
      rw [em, if_neg (show ¬ nI 2 = 0 by decide +kernel), if_neg (show ¬ nI 2 = 1 by decide +kernel), if_pos (show nI 2 = 2 from rfl), x10_size f g hv hb g1]
      have no : pst ns Q v = none → ¬ (v = 43 ∧ 0 < qB Q) → ¬ ((qB Q = 0 ∧ 49 ≤ v ∧ v ≤ 57) ∨ (0 < qB Q ∧ qB Q < 10 ∧ 48 ≤ v ∧ v ≤ 57)) → RdM ns np it Q v f g (ax_cali (if v = 43 ∧ 0 < qB Q then rI 1 (ax_up f 19 0 30 3) g else if (qB Q = 0 ∧ 49 ≤ v ∧ v ≤ 57) ∨ (0 < qB Q ∧ qB Q < 10 ∧ 48 ≤ v ∧ v ≤ 57) then rI 1 (ax_up f 19 0 31 (nI (10 * qB Q + (v - 48)))) g else rI 0 (ax_up f 19 0 31 (nI (qB Q))) g) (fun e f g => some (.inr e, f, g)) (fun z f g => ax_bb z (rI z f g))) := fun z1 z2 z3 => by
        rw [if_neg z2, if_neg z3, cali_r, bb_0]
        exact RdM.no z1 (FT.up (by decide) (by decide) _)
      have plus : 0 < qB Q → v = 43 → pst ns Q v = some (5, qN Q, qA Q, qB Q, qC Q, qH Q) → RdM ns np it Q v f g (ax_cali (if v = 43 ∧ 0 < qB Q then rI 1 (ax_up f 19 0 30 3) g else if (qB Q = 0 ∧ 49 ≤ v ∧ v ≤ 57) ∨ (0 < qB Q ∧ qB Q < 10 ∧ 48 ≤ v ∧ v ≤ 57) then rI 1 (ax_up f 19 0 31 (nI (10 * qB Q + (v - 48)))) g else rI 0 (ax_up f 19 0 31 (nI (qB Q))) g) (fun e f g => some (.inr e, f, g)) (fun z f g => ax_bb z (rI z f g))) := fun z1 z2 z3 => by
        rw [if_pos ⟨z2, z1⟩, cali_r, bb_1]
        exact RdM.yes z3 c0 (FT.up (by decide) (by decide) _) (TQ.of 5 (qA Q) (qB Q) (qC Q) (qH Q) h' (by rw [upn (by omega)]) (by rw [upn (by omega)]) (by rw [upn (by omega)]) (ax_up_s _ _ _ _ _) (by rw [upn (by omega)]; exact g1) (by rw [upn (by omega)]; exact g2) (by rw [upn (by omega)]; exact g3) (by rw [upn (by omega)]; exact g4))
      have digit : ∀ P, mph P = 2 → (qB Q = 0 ∧ 49 ≤ v ∧ v ≤ 57) ∨ (0 < qB Q ∧ qB Q < 10 ∧ 48 ≤ v ∧ v ≤ 57) → pst ns Q v = some (P, qN Q, qA Q, 10 * qB Q + (v - 48), qC Q, qH Q) → RdM ns np it Q v f g (ax_cali (if v = 43 ∧ 0 < qB Q then rI 1 (ax_up f 19 0 30 3) g else if (qB Q = 0 ∧ 49 ≤ v ∧ v ≤ 57) ∨ (0 < qB Q ∧ qB Q < 10 ∧ 48 ≤ v ∧ v ≤ 57) then rI 1 (ax_up f 19 0 31 (nI (10 * qB Q + (v - 48)))) g else rI 0 (ax_up f 19 0 31 (nI (qB Q))) g) (fun e f g => some (.inr e, f, g)) (fun z f g => ax_bb z (rI z f g))) := fun P z0 z1 z2 => by
        rw [if_neg (show ¬ (v = 43 ∧ 0 < qB Q) by omega), if_pos z1, cali_r, bb_1]
        exact RdM.yes z2 c0 (FT.up (by decide) (by decide) _) (TQ.of P (qA Q) (10 * qB Q + (v - 48)) (qC Q) (qH Q) h' (by rw [upn (by omega)]) (by rw [upn (by omega)]) (by rw [upn (by omega)]) (by rw [upn (by omega), h5, em, z0]) (ax_up_s _ _ _ _ _) (by rw [upn (by omega)]; exact g2) (by rw [upn (by omega)]; exact g3) (by rw [upn (by omega)]; exact g4))
      by_cases p2 : qP Q = 2
      · rw [if_pos p2] at hp
        have b0 := w4 (by omega)
        by_cases q : 49 ≤ v ∧ v ≤ 57
        · rw [if_pos q] at hp
          exact digit 3 rfl (Or.inl ⟨b0, q⟩) (by rw [hp, b0, Nat.mul_zero, Nat.zero_add])
        · rw [if_neg q] at hp
          exact no hp (by omega) (by omega)
      rw [if_neg p2] at hp
      by_cases p3 : qP Q = 3
      · rw [if_pos p3] at hp
        have b9 := w5 p3
        by_cases q : 48 ≤ v ∧ v ≤ 57
        · rw [if_pos q] at hp
          exact digit 4 rfl (Or.inr ⟨by omega, by omega, q⟩) hp
        · rw [if_neg q] at hp
          by_cases q2 : v = 43
          · rw [if_pos q2] at hp
            exact plus (by omega) q2 hp
          · rw [if_neg q2] at hp
            exact no hp (by omega) (by omega)
      rw [if_neg p3] at hp
      have p4' : qP Q = 4 := by omega
      rw [if_pos p4'] at hp
      have b99 := w6 p4'
      by_cases q2 : v = 43
      · rw [if_pos q2] at hp
        exact plus (by omega) q2 hp
      · rw [if_neg q2] at hp
        exact no hp (by omega) (by omega)
    · have em : mph (qP Q) = 3 := by unfold mph; rw [if_neg p0, if_neg p1, if_neg p4]
      rw [if_neg (by omega), if_neg (by omega), if_neg (by omega)] at hp
      rw [em, if_neg (show ¬ nI 3 = 0 by decide +kernel), if_neg (show ¬ nI 3 = 1 by decide +kernel), if_neg (show ¬ nI 3 = 2 by decide +kernel), x10_letter f g hv h' hw' p0]
      by_cases q : 97 ≤ v ∧ v - 97 < qN Q ∧ qH Q ≤ v - 97
      · rw [if_pos q, cali_r, bb_1]
        rw [if_pos q] at hp
        exact RdM.yes hp c0 ((FT.up (by decide) (by decide) _).trans (FT.up5 (by decide) (by decide) _)) (TQ.of 6 (qA Q) (qB Q) (qC Q ||| ((1 : Int32) <<< (nI (v - 97) &&& 31))) (v - 97 + 1) h' (by rw [upn (by omega), upn (by omega)]) (by rw [upn (by omega), upn (by omega)]) (by rw [upn (by omega), upn (by omega)]) (by rw [upn (by omega), upn (by omega), h5, em]; rfl) (by rw [upn (by omega), upn (by omega)]; exact g1) (by rw [upn (by omega), ax_up_s]; unfold hiI; rw [if_neg (by omega)]; rfl) (by rw [upn (by omega), upn (by omega)]; exact g3) (ax_up_s _ _ _ _ _))
      · rw [if_neg q, cali_r, bb_0]
        rw [if_neg q] at hp
        exact RdM.no hp (FT.refl it f)
  by_cases c59 : v = 59
  · have e59 : nI v = (59 : Int32) := by rw [c59]; rfl
    rw [if_pos e59]
    by_cases ce : qEnd Q = true
    · have p0 : qP Q ≠ 0 := by
        unfold qEnd at ce
        rw [decide_eq_true_eq] at ce
        omega
      obtain ⟨g1, g2, g3, g4⟩ := h6 p0
      have hn := w3 p0
      rw [if_pos ce, e_X10_endItem, g_X10_endItem_0, h1, bd_n (by omega) (by decide), g1, show (ax_up f 55 0 it (nI (qB Q))) 19 0 33 = nI it from by rw [upn (by omega)]; exact h1, calv_r, nI_1]
      have hp : pst ns Q v = some (0, qN Q + 1, 0, 0, 0, 0) := by unfold pst; rw [if_pos ⟨c59, ce⟩]
      refine ⟨ax_up (ax_up (ax_up f 55 0 it (nI (qB Q))) 19 0 33 (nI (it + 1))) 19 0 30 0, by rw [hp]; rfl, ((FT.up5 (by decide) (by decide) _).trans (FT.up (by decide) (by decide) _)).trans (FT.up (by decide) (by decide) _), fun Q' e => ?_⟩
      rw [hp] at e
      cases e
      rw [if_pos ⟨c59, ce⟩]
      refine ⟨⟨by rw [upn (by omega)]; exact ax_up_s _ _ _ _ _, ?_, by rw [upn (by omega), upn (by omega), upn (by omega)]; exact h3, by rw [upn (by omega), upn (by omega), upn (by omega)]; exact h4, ax_up_s _ _ _ _ _, fun z => absurd rfl z⟩, by rw [upn (by omega), upn (by omega), upn (by omega)]; exact g3, by rw [upn (by omega), upn (by omega)]; exact ax_up_s _ _ _ _ _, by rw [upn (by omega), upn (by omega), upn (by omega)]; exact g4⟩
      show qN Q + 1 = np + (it + 1)
      omega
    · rw [if_neg ce]
      exact sw (fun q => ce q.2)
  · rw [if_neg (nI_neL 59 c59 hv (by decide))]
    exact sw (fun q => c59 q.1)
end AYR
