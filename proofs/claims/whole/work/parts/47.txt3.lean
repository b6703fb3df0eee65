/-! the class reads a character, by place -/
section AYO
theorem CQ.of {ns Q f f'} (P N : Nat) (A : Int32) (B : Nat) (C : Int32) (H : Nat) (h : CQ ns Q f) (h3 : f' 18 0 3 = nI P) (h5 : f' 18 0 5 = nI N) (h0 : f' 18 0 0 = A) (h1 : f' 18 0 1 = nI B) (h2 : f' 18 0 2 = C) (h4 : f' 18 0 4 = f 18 0 4) : CQ ns (P, N, A, B, C, H) f' := ⟨h3, h5, h0, h1, h2, h4.trans h.2.2.2.2.2⟩
theorem x8_start (f g) (x : Int32) : s_X8_startPack [.inr (18, 0), .inl (.int x)] f g = rV (ax_up (ax_up (ax_up (ax_up (ax_up f 18 0 5 x) 18 0 3 0) 18 0 0 0) 18 0 1 0) 18 0 2 0) g := by
  rw [e_X8_startPack, g_X8_startPack_0]
/-- what a reading answers -/
def RdC (ns : Nat) (Q : Qs) (v : Nat) (f : ax_F) (g : ax_G) (r : Option ax_Fin) : Prop := ∃ f', r = rI (b2 (pst ns Q v).isSome) f' g ∧ F18 f f' ∧ ∀ Q', pst ns Q v = some Q' → CQ ns Q' f'
theorem RdC.no {ns Q v f g} (h : pst ns Q v = none) : RdC ns Q v f g (rI 0 f g) := ⟨f, by rw [h]; rfl, fun _ _ _ _ => rfl, fun Q' e => by rw [h] at e; cases e⟩
theorem RdC.yes {ns Q v f f' g Q'} (h : pst ns Q v = some Q') (hF : F18 f f') (hQ : CQ ns Q' f') : RdC ns Q v f g (rI 1 f' g) := ⟨f', by rw [h]; rfl, hF, fun Q2 e => by rw [h] at e; cases e; exact hQ⟩
theorem x8_reads (f g) {ns Q} {v : Nat} (hv : v ≤ 1000) (hns : ns ≤ 5) (h : CQ ns Q f) (hw : QW ns Q) : RdC ns Q v f g (s_X8_reads [.inr (18, 0), .inl (.int (nI v))] f g) := by
  have hw' := hw
  obtain ⟨w1, w2, w3, w4, w5, w6, w7, w8, w9, w10, w11, w12, w13⟩ := hw
  rw [e_X8_reads, g_X8_reads_0, x8_mayEnd f g h hw', cali_r, ite_b2]
  have sw : ¬ (v = 59 ∧ qEnd Q = true) → RdC ns Q v f g (if (f 18 0 3) = 0 then (ax_cali (s_X8_readsSection [.inr (18, 0), .inl (.int (nI v))] f g) (fun e f g => some (.inr e, f, g)) (fun z f g => ax_bb z (rI z f g))) else if (f 18 0 3) = 1 then (ax_cali (s_X8_readsSign [.inr (18, 0), .inl (.int (nI v)), .inl (.int 58), .inl (.int 2)] f g) (fun e f g => some (.inr e, f, g)) (fun z f g => ax_bb z (rI z f g))) else if (f 18 0 3) = 2 then (if nI v = 48 then rI 0 f g else (ax_cali (s_X8_readsDigit [.inr (18, 0), .inl (.int (nI v)), .inl (.int 3)] f g) (fun e f g => some (.inr e, f, g)) (fun z f g => if z = 0 then rI 0 f g else rI 1 f g))) else if (f 18 0 3) = 3 then (ax_cali (s_X8_readsDigit [.inr (18, 0), .inl (.int (nI v)), .inl (.int 4)] f g) (fun e f g => some (.inr e, f, g)) (fun z f g => if z = 0 then (ax_cali (s_X8_readsSign [.inr (18, 0), .inl (.int (nI v)), .inl (.int 43), .inl (.int 5)] f g) (fun e f g => some (.inr e, f, g)) (fun z f g => if z = 0 then rI 0 f g else rI 1 f g)) else rI 1 f g)) else if (f 18 0 3) = 4 then (ax_cali (s_X8_readsSign [.inr (18, 0), .inl (.int (nI v)), .inl (.int 43), .inl (.int 5)] f g) (fun e f g => some (.inr e, f, g)) (fun z f g => ax_bb z (rI z f g))) else (ax_cali (s_X8_readsLetter [.inr (18, 0), .inl (.int (nI v))] f g) (fun e f g => some (.inr e, f, g)) (fun z f g => ax_bb z (rI z f g)))) := by
    intro c0
    have e58 := x8_sign f g (s := 58) (k := 2) hv (by decide)
    have e43 := x8_sign f g (s := 43) (k := 5) hv (by decide)
    have d3 := x8_digit f g (k := 3) hv h.2.2.2.1
    have d4 := x8_digit f g (k := 4) hv h.2.2.2.1
    have es := x8_section f g hv hns w2 h.2.2.2.2.2 h.2.1
    have el := x8_letter f g hv h hw'
    have hp : pst ns Q v = if qP Q = 0 then (if 48 ≤ v ∧ v < 48 + ns ∧ qN Q < 12 then some (1, qN Q, nI (v - 48), 0, 0, 0) else none) else if qP Q = 1 then (if v = 58 then some (2, qN Q, qA Q, qB Q, qC Q, qH Q) else none) else if qP Q = 2 then (if 49 ≤ v ∧ v ≤ 57 then some (3, qN Q, qA Q, v - 48, qC Q, qH Q) else none) else if qP Q = 3 then (if 48 ≤ v ∧ v ≤ 57 then some (4, qN Q, qA Q, 10 * qB Q + (v - 48), qC Q, qH Q) else if v = 43 then some (5, qN Q, qA Q, qB Q, qC Q, qH Q) else none) else if qP Q = 4 then (if v = 43 then some (5, qN Q, qA Q, qB Q, qC Q, qH Q) else none) else (if 97 ≤ v ∧ v - 97 < qN Q ∧ qH Q ≤ v - 97 then some (6, qN Q, qA Q, qB Q, qC Q ||| ((1 : Int32) <<< (nI (v - 97) &&& 31)), v - 97 + 1) else none) := by
      unfold pst
      rw [if_neg c0]
    obtain ⟨h3, h5, h0, h1, h2, h4⟩ := h
    have hh : CQ ns Q f := ⟨h3, h5, h0, h1, h2, h4⟩
    rw [h3]
    by_cases p0 : qP Q = 0
    · rw [if_pos p0] at hp
      rw [p0, if_pos (show nI 0 = 0 from rfl), es]
      by_cases q : 48 ≤ v ∧ v < 48 + ns ∧ qN Q < 12
      · rw [if_pos q, cali_r, bb_1]
        rw [if_pos q] at hp
        refine RdC.yes hp ((F18.up 0 _).trans (F18.up 3 1)) (CQ.of 1 (qN Q) (nI (v - 48)) 0 0 0 hh (ax_up_s _ _ _ _ _) (by rw [upn (by omega), upn (by omega)]; exact h5) (by rw [upn (by omega)]; exact ax_up_s _ _ _ _ _) (by rw [upn (by omega), upn (by omega), h1, w4 (by omega)]) ?_ (by rw [upn (by omega), upn (by omega)]))
        rw [upn (by omega), upn (by omega), h2]
        refine b_ext (fun k hk => ?_)
        rw [b_0]
        exact w11 k hk (by rw [w8 (by omega)]; exact Nat.zero_le _)
      · rw [if_neg q, cali_r, bb_0]
        rw [if_neg q] at hp
        exact RdC.no hp
    rw [if_neg p0] at hp
    rw [if_neg (nI_neL 0 p0 (by omega) (by decide))]
    by_cases p1 : qP Q = 1
    · rw [if_pos p1] at hp
      rw [p1, if_pos (show nI 1 = 1 from rfl)]
      show RdC ns Q v f g (ax_cali (s_X8_readsSign [.inr (18, 0), .inl (.int (nI v)), .inl (.int (nI 58)), .inl (.int (nI 2))] f g) _ _)
      rw [e58]
      by_cases q : v = 58
      · rw [if_pos q, cali_r, bb_1]
        rw [if_pos q] at hp
        exact RdC.yes hp (F18.up 3 _) (CQ.of 2 (qN Q) (qA Q) (qB Q) (qC Q) (qH Q) hh (ax_up_s _ _ _ _ _) (by rw [upn (by omega)]; exact h5) (by rw [upn (by omega)]; exact h0) (by rw [upn (by omega)]; exact h1) (by rw [upn (by omega)]; exact h2) (by rw [upn (by omega)]))
      · rw [if_neg q, cali_r, bb_0]
        rw [if_neg q] at hp
        exact RdC.no hp
    rw [if_neg p1] at hp
    rw [if_neg (nI_neL 1 p1 (by omega) (by decide))]
    by_cases p2 : qP Q = 2
    · rw [if_pos p2] at hp
      rw [p2, if_pos (show nI 2 = 2 from rfl)]
      show RdC ns Q v f g (if _ then _ else ax_cali (s_X8_readsDigit [.inr (18, 0), .inl (.int (nI v)), .inl (.int (nI 3))] f g) _ _)
      rw [d3]
      by_cases q0 : v = 48
      · rw [q0, if_pos (show nI 48 = 48 from rfl)]
        rw [← q0]
        rw [if_neg (by omega)] at hp
        exact RdC.no hp
      rw [if_neg (nI_neL 48 q0 (by omega) (by decide))]
      by_cases q : 49 ≤ v ∧ v ≤ 57
      · rw [if_pos (show 48 ≤ v ∧ v ≤ 57 by omega), cali_r, if_neg one_ne]
        rw [if_pos q] at hp
        exact RdC.yes hp ((F18.up 1 _).trans (F18.up 3 _)) (CQ.of 3 (qN Q) (qA Q) (v - 48) (qC Q) (qH Q) hh (ax_up_s _ _ _ _ _) (by rw [upn (by omega), upn (by omega)]; exact h5) (by rw [upn (by omega), upn (by omega)]; exact h0) (by rw [upn (by omega), ax_up_s, w4 (by omega)]; congr 1; omega) (by rw [upn (by omega), upn (by omega)]; exact h2) (by rw [upn (by omega), upn (by omega)]))
      · rw [if_neg (show ¬ (48 ≤ v ∧ v ≤ 57) by omega), cali_r, if_pos rfl]
        rw [if_neg q] at hp
        exact RdC.no hp
    rw [if_neg p2] at hp
    rw [if_neg (nI_neL 2 p2 (by omega) (by decide))]
    by_cases p3 : qP Q = 3
    · rw [if_pos p3] at hp
      rw [p3, if_pos (show nI 3 = 3 from rfl)]
      show RdC ns Q v f g (ax_cali (s_X8_readsDigit [.inr (18, 0), .inl (.int (nI v)), .inl (.int (nI 4))] f g) _ (fun z f g => if z = 0 then (ax_cali (s_X8_readsSign [.inr (18, 0), .inl (.int (nI v)), .inl (.int (nI 43)), .inl (.int (nI 5))] f g) _ _) else _))
      rw [d4]
      by_cases q : 48 ≤ v ∧ v ≤ 57
      · rw [if_pos q, cali_r, if_neg one_ne]
        rw [if_pos q] at hp
        exact RdC.yes hp ((F18.up 1 _).trans (F18.up 3 _)) (CQ.of 4 (qN Q) (qA Q) (10 * qB Q + (v - 48)) (qC Q) (qH Q) hh (ax_up_s _ _ _ _ _) (by rw [upn (by omega), upn (by omega)]; exact h5) (by rw [upn (by omega), upn (by omega)]; exact h0) (by rw [upn (by omega), ax_up_s]) (by rw [upn (by omega), upn (by omega)]; exact h2) (by rw [upn (by omega), upn (by omega)]))
      · rw [if_neg q, cali_r, if_pos rfl, e43]
        rw [if_neg q] at hp
        by_cases q2 : v = 43
        · rw [if_pos q2, cali_r, if_neg one_ne]
          rw [if_pos q2] at hp
          exact RdC.yes hp (F18.up 3 _) (CQ.of 5 (qN Q) (qA Q) (qB Q) (qC Q) (qH Q) hh (ax_up_s _ _ _ _ _) (by rw [upn (by omega)]; exact h5) (by rw [upn (by omega)]; exact h0) (by rw [upn (by omega)]; exact h1) (by rw [upn (by omega)]; exact h2) (by rw [upn (by omega)]))
        · rw [if_neg q2, cali_r, if_pos rfl]
          rw [if_neg q2] at hp
          exact RdC.no hp
    rw [if_neg p3] at hp
    rw [if_neg (nI_neL 3 p3 (by omega) (by decide))]
    by_cases p4 : qP Q = 4
    · rw [if_pos p4] at hp
      rw [p4, if_pos (show nI 4 = 4 from rfl)]
      show RdC ns Q v f g (ax_cali (s_X8_readsSign [.inr (18, 0), .inl (.int (nI v)), .inl (.int (nI 43)), .inl (.int (nI 5))] f g) _ _)
      rw [e43]
      by_cases q2 : v = 43
      · rw [if_pos q2, cali_r, bb_1]
        rw [if_pos q2] at hp
        exact RdC.yes hp (F18.up 3 _) (CQ.of 5 (qN Q) (qA Q) (qB Q) (qC Q) (qH Q) hh (ax_up_s _ _ _ _ _) (by rw [upn (by omega)]; exact h5) (by rw [upn (by omega)]; exact h0) (by rw [upn (by omega)]; exact h1) (by rw [upn (by omega)]; exact h2) (by rw [upn (by omega)]))
      · rw [if_neg q2, cali_r, bb_0]
        rw [if_neg q2] at hp
        exact RdC.no hp
    rw [if_neg p4] at hp
    rw [if_neg (nI_neL 4 p4 (by omega) (by decide)), el]
    by_cases q : 97 ≤ v ∧ v - 97 < qN Q ∧ qH Q ≤ v - 97
    · rw [if_pos q, cali_r, bb_1]
      rw [if_pos q] at hp
      exact RdC.yes hp ((F18.up 2 _).trans (F18.up 3 _)) (CQ.of 6 (qN Q) (qA Q) (qB Q) (qC Q ||| ((1 : Int32) <<< (nI (v - 97) &&& 31))) (v - 97 + 1) hh (ax_up_s _ _ _ _ _) (by rw [upn (by omega), upn (by omega)]; exact h5) (by rw [upn (by omega), upn (by omega)]; exact h0) (by rw [upn (by omega), upn (by omega)]; exact h1) (by rw [upn (by omega)]; exact ax_up_s _ _ _ _ _) (by rw [upn (by omega), upn (by omega)]))
    · rw [if_neg q, cali_r, bb_0]
      rw [if_neg q] at hp
      exact RdC.no hp
  by_cases c59 : v = 59
  · have e59 : nI v = (59 : Int32) := by rw [c59]; rfl
    rw [if_pos e59]
    by_cases ce : qEnd Q = true
    · rw [if_pos ce, x8_start, calv_r, h.2.1, nI_1]
      have hp : pst ns Q v = some (0, qN Q + 1, 0, 0, 0, 0) := by unfold pst; rw [if_pos ⟨c59, ce⟩]
      exact RdC.yes hp (((((F18.up 5 _).trans (F18.up 3 _)).trans (F18.up 0 _)).trans (F18.up 1 _)).trans (F18.up 2 _)) (CQ.of 0 (qN Q + 1) 0 0 0 0 h (by rw [upn (by omega), upn (by omega), upn (by omega)]; exact ax_up_s _ _ _ _ _) (by rw [upn (by omega), upn (by omega), upn (by omega), upn (by omega)]; exact ax_up_s _ _ _ _ _) (by rw [upn (by omega), upn (by omega)]; exact ax_up_s _ _ _ _ _) (by rw [upn (by omega)]; exact ax_up_s _ _ _ _ _) (ax_up_s _ _ _ _ _) (by rw [upn (by omega), upn (by omega), upn (by omega), upn (by omega), upn (by omega)]))
    · rw [if_neg ce]
      exact sw (fun q => ce q.2)
  · rw [if_neg (nI_neL 59 c59 hv (by decide))]
    exact sw (fun q => c59 q.1)
end AYO
