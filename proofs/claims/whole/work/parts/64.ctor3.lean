/-! the constructors: a step of the machine that makes things is a step of the machine -/
section BXC
variable {l : Launch} {p : Program} {e : Env} {R : Room} {s : State} {m : MethodId} {args : Array Value} {below : List Frame} {meth : Method} {c : Code} {base : Nat} {D : va_G} {cA : Nat → ClassId} {nL : Nat} {Q : State → Prop} {own : String} {cc : ByteArray} {P : bx_P}
theorem bx_def_get {ci j : Nat} (hj : j < ax_nf ci) : (bx_def ci)[j]? = some (match ax_ft ci j with
  | 0 => .inl (.int 0)
  | 1 => .inl (.int 0)
  | 2 => .inl (.long 0)
  | _ => .inl .null) := by
  unfold bx_def
  rw [List.getElem?_map, List.getElem?_range hj]
  rfl
theorem bx_row_q (base : Nat) {t : Nat} (h : 3 ≤ t) (ls : List (Option (Nat × Nat))) : bx_row base t ls = .inr (.inr (.inr (.inr (fun j => (ls.getD j none).map (ax_ad base))))) := by
  match t, h with
  | t + 3, _ => rfl
theorem bx_row_rep (base n : Nat) : (fun j => ((List.replicate n (none : Option (Nat × Nat))).getD j none).map (ax_ad base)) = fun _ => none := by
  funext j
  rw [List.getD_eq_getElem?_getD, List.getElem?_replicate]
  split <;> rfl
theorem bx_row_set (base : Nat) {ls : List (Option (Nat × Nat))} {k : Nat} (hk : k < ls.length) (q : Nat × Nat) : (fun j => ((ls.set k (some q)).getD j none).map (ax_ad base)) = va_up (fun j => (ls.getD j none).map (ax_ad base)) k (some (ax_ad base q)) := by
  funext j
  rw [List.getD_eq_getElem?_getD, List.getElem?_set]
  unfold va_up
  by_cases h : k = j
  · subst h
    rw [if_pos rfl, if_pos hk, if_pos rfl]
    rfl
  · rw [if_neg h, if_neg (fun z => h z.symm)]
    show _ = Option.map (ax_ad base) (ls.getD j none)
    rw [List.getD_eq_getElem?_getD]
theorem bx_ec_ty (cA : Nat → ClassId) {t : Nat} (h3 : 3 ≤ t) (h6 : t ≤ 6) : (ax_tys cA)[t]? = some (cA t, .object (bx_ec t)) := by
  match t, h3, h6 with
  | 3, _, _ => rfl
  | 4, _, _ => rfl
  | 5, _, _ => rfl
  | 6, _, _ => rfl
theorem bx_el_i {t ci : Nat} (h : bx_el t ci = true) : 3 ≤ t ∧ t ≤ 6 ∧ ∃ T N, vwCl[ci]? = some (bx_ec t, T, N) := by
  match t, h with
  | 3, h => have e : ci = 6 := Nat.eq_of_beq_eq_true h; subst e; exact ⟨by decide, by decide, _, _, rfl⟩
  | 4, h => have e : ci = 2 := Nat.eq_of_beq_eq_true h; subst e; exact ⟨by decide, by decide, _, _, rfl⟩
  | 5, h => have e : ci = 4 := Nat.eq_of_beq_eq_true h; subst e; exact ⟨by decide, by decide, _, _, rfl⟩
  | 6, h => have e : ci = 1 := Nat.eq_of_beq_eq_true h; subst e; exact ⟨by decide, by decide, _, _, rfl⟩
  | t + 7, h => cases h
/-- a call of a constructor -/
theorem bx_callW {H : Heap} {locs : List Loc} {cells slots mc ms pc : Nat} {ls : Array Slot} {st0 rest : List Value} {a : Array Value} {w' : List bx_C}
    (hr : va_Run p l e R s m args below meth c H locs cells slots mc ms (F0 m pc ls st0) rest (bx_Qr base D cA w' a) (ax_A base)) (hS : va_S (ax_A base) s.heap H locs)
    (kk : ∀ (H1 : Heap) (locs1 : List Loc), va_P D vwCl (bx_w base cA w') H1 → va_S (ax_A base) s.heap H1 locs1 → W p l e R s m args below meth c H1 locs1 (cells + mc) (slots + ms) Q (F0 m (pc + 3) ls rest)) :
    W p l e R s m args below meth c H locs cells slots Q (F0 m pc ls st0) := by
  intro T hT X
  obtain ⟨v, st₀, t, T', L, h0, X', hL, e1, e2, ⟨⟨hv, hP⟩, hF⟩, st⟩ := hr T hT X
  cases hv
  obtain ⟨k1, k2, k3⟩ := vx_keep h0 e1 hS (fun _ _ h => h) (fun _ h => h) hL hF
  obtain ⟨t2, a1, b1⟩ := kk T'.heap (locs ++ L) (by rw [e1]; exact hP) k3 T' rfl X'
  exact ⟨t2, st t2 a1, b1⟩
theorem bx_fit_i {t : Nat} {v : ax_V} (h : bx_fit t v = true) : (t = 0 ∧ ∃ z, v = .inl (.int z)) ∨ (t = 3 ∧ ∃ q, v = .inr q) := by
  unfold bx_fit at h
  split at h
  · exact Or.inl ⟨rfl, _, rfl⟩
  · exact Or.inr ⟨rfl, _, rfl⟩
  · cases h
theorem bx_lk_ne {α : Type} {l : List (Nat × α)} {k : Nat} {a : α} (h : ax_lk l k = some a) : l ≠ [] := fun z => by rw [z] at h; cases h
set_option maxHeartbeats 4000000 in
theorem bx_sound_ins {fr lo : Nat} (C : bx_Cx p R s m args meth c base D cA nL fr lo own cc P) (O : bx_Ok l own cc fr lo P) {x' : bx_S} (hk : bx_At l p e R s m args below meth c base D cA nL Q x')
    {pc n t : Nat} {v : Int32} {i : Instr} {L : ax_L} {st : List ax_V} {w : List bx_C} {cs ss : Nat} (hdec : decode cc pc = .ok (i, n)) (hpar : bx_par own pc i n t v = true) (h : bx_ins P pc n t v i L st w cs ss = some x') : bx_At l p e R s m args below meth c base D cA nL Q (pc, L, st, w, cs, ss) := by
  obtain ⟨hx, hb, hml, hown, hts, hK, hY, hb0, hinit, hmc, hms, hfr, hlo, hfr1, hlo20⟩ := C
  obtain ⟨Oc, Of, On, Orw, Ol⟩ := O
  have hA : ∀ q, s.heap.size ≤ q → ax_A base q := fun q h => Nat.le_trans hb0 h
  have hcat : ∀ v : ax_V, ax_one v = true → (ax_c base v).category = 1 := fun v hv => by
    rcases v with v | q
    · cases v <;> first | rfl | cases hv
    · rfl
  cases i
  case iconst x =>
    simp only [bx_par, ax_par, Bool.and_eq_true, decide_eq_true_eq] at hpar
    obtain ⟨rfl, hv⟩ := hpar
    cases h
    intro H locs ls hP hS hL hcs
    exact lv_iconst hx hb hdec hv (hk H locs ls hP hS hL hcs)
  case bipush x =>
    simp only [bx_par, ax_par, Bool.and_eq_true, decide_eq_true_eq] at hpar
    obtain ⟨rfl, hv⟩ := hpar
    cases h
    intro H locs ls hP hS hL hcs
    exact lv_bipush hx hb hdec hv (hk H locs ls hP hS hL hcs)
  case sipush x =>
    simp only [bx_par, ax_par, Bool.and_eq_true, decide_eq_true_eq] at hpar
    obtain ⟨rfl, hv⟩ := hpar
    cases h
    intro H locs ls hP hS hL hcs
    exact lv_sipush hx hb hdec hv (hk H locs ls hP hS hL hcs)
  case iload_n x =>
    simp only [bx_par, ax_par, Bool.and_eq_true, decide_eq_true_eq] at hpar
    obtain ⟨rfl, ht⟩ := hpar
    obtain ⟨y, hy, h⟩ := bx_b_i h
    cases h
    intro H locs ls hP hS hL hcs
    exact lv_iload_n hx hb hdec ht (hL.2.2.2 _ _ (bx_oi_i hy)) (hk H locs ls hP hS hL hcs)
  case aload_n x =>
    simp only [bx_par, ax_par, Bool.and_eq_true, decide_eq_true_eq] at hpar
    obtain ⟨rfl, ht⟩ := hpar
    obtain ⟨y, hy, h⟩ := bx_b_i h
    obtain ⟨hi, h⟩ := bx_if_i h
    cases h
    intro H locs ls hP hS hL hcs
    have hkk := hk H locs ls hP hS hL hcs
    have hl1 := hL.2.2.2 _ _ hy
    rcases ax_isr_i hi with rfl | ⟨b, rfl⟩ | ⟨q, rfl⟩
    · exact lv_aload_nN hx hb hdec ht hl1 hkk
    · exact lv_aload_n hx hb hdec ht hl1 hkk
    · exact lv_aload_n hx hb hdec ht hl1 hkk
  case istore x =>
    simp only [bx_par, ax_par, Bool.and_eq_true, decide_eq_true_eq] at hpar
    obtain ⟨rfl, rfl⟩ := hpar
    obtain ⟨y, hy, h⟩ := bx_b_i h
    obtain ⟨hlt, h⟩ := bx_if_i h
    cases h
    have hy' := bx_pI_i hy
    subst hy'
    intro H locs ls hP hS hL hcs
    exact lv_istore hx hb hdec hL.has (by rw [← hL.1]; exact Nat.le_of_ble_eq_true hlt) rfl (fun ls' hls' => hk H locs ls' hP hS (ax_Ls_s1 (v := .inl (.int y.1)) hL.1 hls') hcs)
  case istore_n x =>
    simp only [bx_par, ax_par, Bool.and_eq_true, decide_eq_true_eq] at hpar
    obtain ⟨rfl, ht⟩ := hpar
    obtain ⟨y, hy, h⟩ := bx_b_i h
    obtain ⟨hlt, h⟩ := bx_if_i h
    cases h
    have hy' := bx_pI_i hy
    subst hy'
    intro H locs ls hP hS hL hcs
    exact lv_istore_n hx hb hdec ht hL.has (by rw [← hL.1]; exact Nat.le_of_ble_eq_true hlt) rfl (fun ls' hls' => hk H locs ls' hP hS (ax_Ls_s1 (v := .inl (.int y.1)) hL.1 hls') hcs)
  case astore_n x =>
    simp only [bx_par, ax_par, Bool.and_eq_true, decide_eq_true_eq] at hpar
    obtain ⟨rfl, ht⟩ := hpar
    obtain ⟨y, hy, h⟩ := bx_b_i h
    obtain ⟨hlt, h⟩ := bx_if_i h
    cases h
    have hy' := bx_pR_i hy
    subst hy'
    intro H locs ls hP hS hL hcs
    have hlt' : t < nL := by rw [← hL.1]; exact Nat.le_of_ble_eq_true hlt
    exact lv_astore_n hx hb hdec ht hL.has hlt' rfl (fun ls' hls' => hk H locs ls' hP hS (ax_Ls_s1 (v := .inr y.1) hL.1 hls') hcs)
  case iinc x y =>
    simp only [bx_par, ax_par, Bool.and_eq_true, decide_eq_true_eq] at hpar
    obtain ⟨rfl, rfl, hv⟩ := hpar
    obtain ⟨z, hz, h⟩ := bx_b_i h
    obtain ⟨hlt, h⟩ := bx_if_i h
    cases h
    intro H locs ls hP hS hL hcs
    obtain ⟨q, hq⟩ := List.getElem?_of_mem (ax_lv_in (base := base) (bx_oi_i hz))
    exact lv_iinc (x := z) hx hb hdec hL.has hq (by rw [hv]) (by rw [← hL.1]; exact Nat.le_of_ble_eq_true hlt) rfl (fun ls' hls' => hk H locs ls' hP hS (ax_Ls_s1 (v := .inl (.int (z + v))) hL.1 hls') hcs)
  case dup =>
    have hn : n = 1 := of_decide_eq_true hpar
    subst hn
    obtain ⟨y, hy, h⟩ := bx_b_i h
    obtain ⟨h1, h⟩ := bx_if_i h
    cases h
    have hy' := bx_pV_i hy
    subst hy'
    intro H locs ls hP hS hL hcs
    exact lv_dup hx hb hdec (hcat y.1 h1) (hk H locs ls hP hS hL hcs)
  case goto o =>
    simp only [bx_par, ax_par, Bool.and_eq_true, decide_eq_true_eq] at hpar
    obtain ⟨rfl, ht⟩ := hpar
    cases h
    intro H locs ls hP hS hL hcs
    exact lv_goto hx hb hdec ht (hk H locs ls hP hS hL hcs)
  case if_icmp o1 o =>
    simp only [bx_par, ax_par, Bool.and_eq_true, decide_eq_true_eq] at hpar
    obtain ⟨rfl, ht⟩ := hpar
    cases o1
    case ge =>
      obtain ⟨y, hy, h⟩ := bx_b_i h
      obtain ⟨x, hx1, h⟩ := bx_b_i h
      have e1 := bx_pI_i hy
      have e2 := bx_pI_i hx1
      obtain ⟨y1, y2⟩ := y
      obtain ⟨x1, x2⟩ := x
      have e2' : y2 = .inl (.int x1) :: x2 := e2
      subst e2'
      subst e1
      intro H locs ls hP hS hL hcs
      refine lv_icmp_ge hx hb hdec ht (fun q => ?_) (fun q => ?_)
      · have h := (if_pos q).symm.trans h
        cases h
        exact hk H locs ls hP hS hL hcs
      · have h := (if_neg q).symm.trans h
        cases h
        exact hk H locs ls hP hS hL hcs
    all_goals cases h
  case arraylength =>
    have hn : n = 1 := of_decide_eq_true hpar
    subst hn
    obtain ⟨a, ha, h⟩ := bx_b_i h
    obtain ⟨r, hr, h⟩ := bx_b_i h
    obtain ⟨h6, h⟩ := bx_if_i h
    cases h
    have e1 := bx_pR_i ha
    subst e1
    obtain ⟨t1, n1, l1⟩ := r
    intro H locs ls hP hS hL hcs
    obtain ⟨ty, hty⟩ := ax_tys_at cA (t := t1) (Nat.le_of_ble_eq_true h6)
    exact va_alen (x := (n1, bx_row base t1 l1)) hx hb hK hP (ax_all.idxOf a.1) t1 (bx_w_get (bx_oa_i hr)) hty rfl hdec (hk H locs ls hP hS hL hcs)
  case getfield x =>
    have hn : n = 3 := of_decide_eq_true hpar
    subst hn
    obtain ⟨a, ha, h⟩ := bx_b_i h
    obtain ⟨⟨ci, j⟩, hq, h⟩ := bx_b_i h
    obtain ⟨⟨co, fs⟩, ho, h⟩ := bx_b_i h
    obtain ⟨hcc, h⟩ := bx_if_i h
    obtain ⟨z, hz, h⟩ := bx_b_i h
    cases h
    have e1 := bx_pR_i ha
    subst e1
    have e2 : co = ci := Nat.eq_of_beq_eq_true hcc
    subst e2
    obtain ⟨⟨C1, T1, N1, hv1, hj1, hl1⟩, -⟩ := Of _ (ax_lk_mem _ hq)
    obtain ⟨hN, hin1, -⟩ := ax_cf hv1
    intro H locs ls hP hS hL hcs
    exact va_get (D := D) (C := C1) (T := T1) (N := N1) hx hb hts hin1 hown hK hP (ax_all.idxOf a.1) (bx_w_get (bx_oo_i ho)) hv1 j hj1 (hts _ hl1) (fun _ h9 => h9) (show (fs.map (ax_c base))[j]? = some (ax_c base z) by rw [List.getElem?_map]; rw [show fs[j]? = some z from hz]; rfl) hdec (hk H locs ls hP hS hL hcs)
  case putfield x =>
    have hn : n = 3 := of_decide_eq_true hpar
    subst hn
    obtain ⟨y, hy, h⟩ := bx_b_i h
    obtain ⟨a, ha, h⟩ := bx_b_i h
    obtain ⟨⟨ci, j⟩, hq, h⟩ := bx_b_i h
    obtain ⟨⟨co, fs⟩, ho, h⟩ := bx_b_i h
    obtain ⟨hcc, h⟩ := bx_if_i h
    obtain ⟨hjl, h⟩ := bx_if_i h
    obtain ⟨hft, h⟩ := bx_if_i h
    cases h
    have e1 := bx_pV_i hy
    have e2 := bx_pR_i ha
    obtain ⟨yv, yr⟩ := y
    obtain ⟨aq, ar⟩ := a
    have e2 : yr = .inr aq :: ar := e2
    subst e2
    subst e1
    have e3 : co = ci := Nat.eq_of_beq_eq_true hcc
    subst e3
    have hjl' : j < fs.length := Nat.le_of_ble_eq_true hjl
    obtain ⟨⟨C1, T1, N1, hv1, hj1, hl1⟩, hdc⟩ := Of _ (ax_lk_mem _ hq)
    obtain ⟨hN, hin1, ty, t1, t2, t3, t4, t5⟩ := ax_cf hv1
    have hcell := bx_w_get (base := base) (cA := cA) (bx_oo_i ho)
    have hset : (bx_w base cA w).set (ax_all.idxOf aq) (ax_ad base aq, .inr (co, (fs.map (ax_c base)).set j (ax_c base yv))) = bx_w base cA (w.set (ax_all.idxOf aq) (.inr (co, fs.set j yv))) := by
      rw [bx_w_set]
      show _ = (bx_w base cA w).set _ (_, .inr (co, (fs.set j yv).map (ax_c base)))
      rw [List.map_set]
      rfl
    intro H locs ls hP hS hL hcs
    have hcs' : s.heap.size + cs = base + (w.set (ax_all.idxOf aq) (.inr (co, fs.set j yv))).length := by rw [List.length_set]; exact hcs
    have hft' := bx_fit_i (t := ax_ft co j) (v := yv) hft
    rcases hft' with ⟨h0, z, rfl⟩ | ⟨h0, z, rfl⟩
    · obtain ⟨u1, u2⟩ := t3 j hj1 h0
      refine va_put (D := D) (C := C1) (T := T1) (N := N1) (ty := .int) hx hb hts hin1 ty t1 t2 hown hK hP (bx_w_D base cA w) hS (ax_all.idxOf aq) hcell hv1 j hj1 (hts _ hl1) (fun _ h9 => h9) u2 (by rw [t1 j hj1, u1]) rfl rfl (by rw [List.length_map]; exact hjl') hdec (fun H1 locs1 hP1 _ hS1 => ?_)
      have hP1 : va_P D vwCl ((bx_w base cA w).set (ax_all.idxOf aq) (ax_ad base aq, .inr (co, (fs.map (ax_c base)).set j (ax_c base (.inl (.int z)))))) H1 := hP1
      rw [hset] at hP1
      exact hk H1 locs1 ls hP1 hS1 hL hcs'
    · obtain ⟨u1, u2⟩ := bx_f3 hv1 j hj1 h0
      have hrt : bx_rt (ty j) = true := by
        rw [t1 j hj1] at u2
        exact Option.some.inj u2
      obtain ⟨r1, r2, -⟩ := bx_rt_ref hrt (ax_ad base z)
      have hm : meth.name = "<init>" := hinit.resolve_left (bx_lk_ne hq)
      refine va_putF (D := D) (C := C1) (T := T1) (N := N1) (ty := ty j) hx hb hts hin1 ty t1 t2 hown hK hP (bx_w_D base cA w) hS (ax_all.idxOf aq) hcell hv1 j hj1 (hts _ hl1) (fun _ h9 => h9) u1 hm (hdc C1 T1 N1 hv1) (t1 j hj1) r1 r2 (by rw [List.length_map]; exact hjl') hdec (fun H1 locs1 hP1 _ hS1 => ?_)
      have hP1 : va_P D vwCl ((bx_w base cA w).set (ax_all.idxOf aq) (ax_ad base aq, .inr (co, (fs.map (ax_c base)).set j (ax_c base (.inr z))))) H1 := hP1
      rw [hset] at hP1
      exact hk H1 locs1 ls hP1 hS1 hL hcs'
  case new x =>
    have hn : n = 3 := of_decide_eq_true hpar
    subst hn
    obtain ⟨ci, hci, h⟩ := bx_b_i h
    obtain ⟨q0, hq0, h⟩ := bx_b_i h
    obtain ⟨h1, h⟩ := bx_if_i h
    obtain ⟨h2, h⟩ := bx_if_i h
    cases h
    obtain ⟨C1, T1, N1, hv1, k1, k2, k3⟩ := On _ (ax_lk_mem _ hci)
    obtain ⟨hN, hin1, ty, t1, t2, t3, t4, t5⟩ := ax_cf hv1
    have hN' : N1 = ax_nf ci := hN
    subst hN'
    have hfs : ∀ j, j < ax_nf ci → defaultValue (ty j) = vp_V ((bx_def ci).map (ax_c base)) j := by
      intro j hj
      unfold vp_V
      rw [List.getD_eq_getElem?_getD, List.getElem?_map, bx_def_get hj]
      by_cases h3 : ax_ft ci j = 3
      · obtain ⟨u1, u2⟩ := bx_f3 hv1 j hj h3
        have hrt : bx_rt (ty j) = true := by
          rw [t1 j hj] at u2
          exact Option.some.inj u2
        rw [(bx_rt_ref hrt 0).2.2, h3]
        rfl
      · rcases ax_ft3 ci j h3 with h4 | h4 | h4
        · rw [(t3 j hj h4).1, h4]; rfl
        · rw [(t4 j hj h4).1, h4]; rfl
        · rw [(t5 j hj h4).1, h4]; rfl
    intro H locs ls hP hS hL hcs
    refine va_new (D := D) (A := ax_A base) (C := C1) (T := T1) (fs := (bx_def ci).map (ax_c base)) hx hb hts hin1 ty t1 hown (hts _ k1) (hts _ k2) (hts _ k3) hK hP (bx_w_D base cA w) hS hA hv1 hfs (Nat.le_trans (Nat.le_of_ble_eq_true h1) hmc) (Nat.le_trans (Nat.le_of_ble_eq_true h2) hms) hdec (fun q H1 hP1 hD1 hS1 => ?_)
    exact bx_made (c0 := .inr (ci, bx_def ci)) hk hq0 hP1 hD1 hS1 hL hcs
  case newarray a =>
    have hp2 : n = 2 ∧ ((a = .int ∧ t = 0) ∨ (a = .boolean ∧ t = 1) ∨ (a = .long ∧ t = 2)) := by
      simp only [bx_par, Bool.and_eq_true, decide_eq_true_eq] at hpar
      refine ⟨hpar.1, ?_⟩
      have h2 := hpar.2
      split at h2
      · exact Or.inl ⟨rfl, rfl⟩
      · exact Or.inr (Or.inl ⟨rfl, rfl⟩)
      · exact Or.inr (Or.inr ⟨rfl, rfl⟩)
      · cases h2
    obtain ⟨rfl, hat⟩ := hp2
    obtain ⟨k, hk1, h⟩ := bx_b_i h
    obtain ⟨q0, hq0, h⟩ := bx_b_i h
    obtain ⟨h1, h⟩ := bx_if_i h
    obtain ⟨h2, h⟩ := bx_if_i h
    obtain ⟨h3, h⟩ := bx_if_i h
    have hneg : ¬ k.1 < 0 := fun z => by rw [if_pos z] at h; cases h
    rw [if_neg hneg] at h
    cases h
    have e1 := bx_pI_i hk1
    subst e1
    have h3' := Nat.le_of_ble_eq_true h3
    intro H locs ls hP hS hL hcs
    rcases hat with ⟨rfl, rfl⟩ | ⟨rfl, rfl⟩ | ⟨rfl, rfl⟩
    · refine va_newa (D := D) (A := ax_A base) (atype := .int) (ty := .int) (a0 := (k.1.toNatClampNeg, bx_row base 0 [])) hx hb (hts _ wa_0) rfl hK hP (bx_w_D base cA w) hS hA (fun _ => rfl) hneg rfl (by show k.1.toNatClampNeg * 4 ≤ _; omega) (Nat.le_trans (Nat.le_of_ble_eq_true h1) hmc) (Nat.le_trans (Nat.le_of_ble_eq_true h2) hms) hdec (fun q cA' H1 hK1 hP1 hD1 hS1 => ?_)
      have e2 : cA' = cA 0 := Option.some.inj (((hK1.2 7 (cA', .int) rfl).2 : s.vm.findClass _ = some cA').symm.trans ((hK.2 0 (cA 0, .int) rfl).2 : s.vm.findClass _ = some (cA 0)))
      subst e2
      exact bx_made (c0 := .inl (0, k.1.toNatClampNeg, [])) hk hq0 hP1 hD1 hS1 hL hcs
    · refine va_newa (D := D) (A := ax_A base) (atype := .boolean) (ty := .boolean) (a0 := (k.1.toNatClampNeg, bx_row base 1 [])) hx hb (hts _ wa_1) rfl hK hP (bx_w_D base cA w) hS hA (fun _ => rfl) hneg rfl (by show k.1.toNatClampNeg * 1 ≤ _; omega) (Nat.le_trans (Nat.le_of_ble_eq_true h1) hmc) (Nat.le_trans (Nat.le_of_ble_eq_true h2) hms) hdec (fun q cA' H1 hK1 hP1 hD1 hS1 => ?_)
      have e2 : cA' = cA 1 := Option.some.inj (((hK1.2 7 (cA', .boolean) rfl).2 : s.vm.findClass _ = some cA').symm.trans ((hK.2 1 (cA 1, .boolean) rfl).2 : s.vm.findClass _ = some (cA 1)))
      subst e2
      exact bx_made (c0 := .inl (1, k.1.toNatClampNeg, [])) hk hq0 hP1 hD1 hS1 hL hcs
    · refine va_newa (D := D) (A := ax_A base) (atype := .long) (ty := .long) (a0 := (k.1.toNatClampNeg, bx_row base 2 [])) hx hb (hts _ wa_2) rfl hK hP (bx_w_D base cA w) hS hA (fun _ => rfl) hneg rfl (by show k.1.toNatClampNeg * 8 ≤ _; omega) (Nat.le_trans (Nat.le_of_ble_eq_true h1) hmc) (Nat.le_trans (Nat.le_of_ble_eq_true h2) hms) hdec (fun q cA' H1 hK1 hP1 hD1 hS1 => ?_)
      have e2 : cA' = cA 2 := Option.some.inj (((hK1.2 7 (cA', .long) rfl).2 : s.vm.findClass _ = some cA').symm.trans ((hK.2 2 (cA 2, .long) rfl).2 : s.vm.findClass _ = some (cA 2)))
      subst e2
      exact bx_made (c0 := .inl (2, k.1.toNatClampNeg, [])) hk hq0 hP1 hD1 hS1 hL hcs
  case anewarray x =>
    have hn : n = 3 := of_decide_eq_true hpar
    subst hn
    obtain ⟨k, hk1, h⟩ := bx_b_i h
    obtain ⟨ty, hty, h⟩ := bx_b_i h
    obtain ⟨q0, hq0, h⟩ := bx_b_i h
    obtain ⟨h1, h⟩ := bx_if_i h
    obtain ⟨h2, h⟩ := bx_if_i h
    obtain ⟨h3, h⟩ := bx_if_i h
    have hneg : ¬ k.1 < 0 := fun z => by rw [if_pos z] at h; cases h
    rw [if_neg hneg] at h
    cases h
    have e1 := bx_pI_i hk1
    subst e1
    have h3' := Nat.le_of_ble_eq_true h3
    obtain ⟨g3, g6, gl⟩ := Orw _ (ax_lk_mem _ hty)
    intro H locs ls hP hS hL hcs
    refine va_newq (D := D) (A := ax_A base) (C := bx_ec ty) hx hb hown (hts _ gl) (hY.2 ty) hK hP (bx_w_D base cA w) hS hA hneg rfl (by omega) (Nat.le_trans (Nat.le_of_ble_eq_true h1) hmc) (Nat.le_trans (Nat.le_of_ble_eq_true h2) hms) hdec (fun q cA' H1 hK1 hP1 hD1 hS1 => ?_)
    obtain ⟨-, -, -, -, -, f1⟩ := (hK1.2 7 (cA', .object (bx_ec ty)) rfl).2
    obtain ⟨-, -, -, -, -, f2⟩ := (hK.2 ty (cA ty, .object (bx_ec ty)) (bx_ec_ty cA g3 g6)).2
    have e2 : cA' = cA ty := Option.some.inj (f1.symm.trans f2)
    subst e2
    have e3 : (.inl (cA ty, k.1.toNatClampNeg, .inr (.inr (.inr (.inr (fun _ => none))))) : va_E) = bx_c base cA (.inl (ty, k.1.toNatClampNeg, List.replicate k.1.toNatClampNeg none)) := by
      show _ = (.inl (cA ty, k.1.toNatClampNeg, bx_row base ty (List.replicate k.1.toNatClampNeg none)) : va_E)
      rw [bx_row_q base g3, bx_row_rep]
    rw [e3] at hP1 hD1
    exact bx_made (c0 := .inl (ty, k.1.toNatClampNeg, List.replicate k.1.toNatClampNeg none)) hk hq0 hP1 hD1 hS1 hL hcs
  case aastore =>
    have hn : n = 1 := of_decide_eq_true hpar
    subst hn
    obtain ⟨x, hx1, h⟩ := bx_b_i h
    obtain ⟨j, hj1, h⟩ := bx_b_i h
    obtain ⟨a, ha1, h⟩ := bx_b_i h
    obtain ⟨⟨t1, n1, l1⟩, hr, h⟩ := bx_b_i h
    obtain ⟨⟨ci, fs⟩, ho, h⟩ := bx_b_i h
    obtain ⟨hel, h⟩ := bx_if_i h
    obtain ⟨hlt, h⟩ := bx_if_i h
    obtain ⟨hle, h⟩ := bx_if_i h
    obtain ⟨xq, xr⟩ := x
    obtain ⟨ji, jr⟩ := j
    obtain ⟨aq, ar⟩ := a
    have hneg : ¬ ji < 0 := fun z => by rw [if_pos z] at h; cases h
    rw [if_neg hneg] at h
    cases h
    have e1 := bx_pR_i hx1
    have e2 := bx_pI_i hj1
    have e3 := bx_pR_i ha1
    have e2 : xr = .inl (.int ji) :: jr := e2
    have e3 : jr = .inr aq :: ar := e3
    subst e3
    subst e2
    subst e1
    have hlt' : ji.toNatClampNeg < n1 := Nat.le_of_ble_eq_true hlt
    have hle' : l1.length = n1 := Nat.eq_of_beq_eq_true hle
    obtain ⟨g3, g6, T1, N1, hv1⟩ := bx_el_i hel
    have hcell := bx_w_get (base := base) (cA := cA) (bx_oa_i hr)
    have hcell : (bx_w base cA w)[ax_all.idxOf aq]? = some (ax_ad base aq, .inl (cA t1, n1, .inr (.inr (.inr (.inr (fun j => (l1.getD j none).map (ax_ad base))))))) := by
      rw [hcell, ← bx_row_q base g3]
      rfl
    have hset : (bx_w base cA w).set (ax_all.idxOf aq) (ax_ad base aq, .inl (cA t1, n1, .inr (.inr (.inr (.inr (va_up (fun j => (l1.getD j none).map (ax_ad base)) ji.toNatClampNeg (some (ax_ad base xq)))))))) = bx_w base cA (w.set (ax_all.idxOf aq) (.inl (t1, n1, l1.set ji.toNatClampNeg (some xq)))) := by
      rw [bx_w_set, ← bx_row_set base (by rw [hle']; exact hlt') xq, ← bx_row_q base g3]
      rfl
    intro H locs ls hP hS hL hcs
    refine va_astq (D := D) (r := (bx_ec t1, T1, N1)) hx hb hK hP (bx_w_D base cA w) hS (ax_all.idxOf aq) t1 (ax_all.idxOf xq) ci hcell (bx_ec_ty cA g3 g6) (bx_w_get (bx_oo_i ho)) hv1 (fun z => z.elim hneg (fun z => Nat.not_le.mpr hlt' z)) hdec (fun H1 locs1 hP1 _ hS1 => ?_)
    have hP1 : va_P D vwCl ((bx_w base cA w).set (ax_all.idxOf aq) (ax_ad base aq, .inl (cA t1, n1, .inr (.inr (.inr (.inr (va_up (fun j => (l1.getD j none).map (ax_ad base)) ji.toNatClampNeg (some (ax_ad base xq))))))))) H1 := hP1
    rw [hset] at hP1
    exact hk H1 locs1 ls hP1 hS1 hL (by show _ = base + (w.set _ _).length; rw [List.length_set]; exact hcs)
  case invokespecial x =>
    have hn : n = 3 := of_decide_eq_true hpar
    subst hn
    obtain ⟨⟨md, na, sem, mc, ms⟩, hq, h⟩ := bx_b_i h
    obtain ⟨⟨as, zr⟩, hz, h⟩ := bx_b_i h
    obtain ⟨⟨aq, ar⟩, ha, h⟩ := bx_b_i h
    obtain ⟨h8, h⟩ := bx_if_i h
    obtain ⟨h1, h⟩ := bx_if_i h
    obtain ⟨h2, h⟩ := bx_if_i h
    obtain ⟨w', hsem, h⟩ := bx_b_i h
    obtain ⟨hwl, h⟩ := bx_if_i h
    cases h
    obtain ⟨e1, e2⟩ := bx_pn_i hz
    have e1 : st = as.reverse ++ zr := e1
    have e2 : as.length = na := e2
    have e3 : zr = .inr aq :: ar := bx_pR_i ha
    subst e3
    subst e1
    have hwl' : w'.length = w.length + mc := Nat.eq_of_beq_eq_true hwl
    intro H locs ls hP hS hL hcs
    have hw8 : ((ar.map (ax_c base)).map fun v => v.category).sum ≤ 8 := by rw [ax_wd_c]; exact Nat.le_of_ble_eq_true h8
    rcases Ol _ (ax_lk_mem _ hq) with ⟨g1, g2, g3⟩ | ⟨y, bytes, maxL, fr', lo', c1, c2, c3, c4, c5, c6, c7, c8, c9, c10⟩
    · have g1 : na = 0 := g1
      have g2 : (sem, mc, ms) = ((fun _ w => some w), 0, 0) := g2
      cases g2
      have hsem : some w = some w' := hsem
      cases hsem
      have has : as = [] := List.eq_nil_of_length_eq_zero (e2.trans g1)
      subst has
      exact W.objInit hx hb hown (hts _ g3) (hts _ wo_i) (hts _ wo_c) rfl (hL.2.1.trans hml.symm) rfl hdec (by omega) (by have := hw8; show 2 * 0 + _ + 12 ≤ _; omega) (hk H locs ls hP hS hL hcs)
    · refine bx_sz (fun hz9 => ?_)
      have hsz := bx_size hP hS hb0 hcs hz9
      have hM := c7 base D cA (.inr aq :: as) w w' hsem
      have hwd : ∀ U : State, U.heap = H → s.WarmedH U.vm → bx_Wd base D cA w U := fun U hU hW => ⟨by rw [hU]; exact hsz, by rw [hU]; exact hP, va_K.moved hW.alike hK, hY.warm hW⟩
      have hrR : cs + mc ≤ R.cells ∧ ss + ms ≤ R.slots := ⟨Nat.le_trans (Nat.le_of_ble_eq_true h1) hmc, Nat.le_trans (Nat.le_of_ble_eq_true h2) hms⟩
      have kk : ∀ (H1 : Heap) (locs1 : List Loc), va_P D vwCl (bx_w base cA w') H1 → va_S (ax_A base) s.heap H1 locs1 → W p l e R s m args below meth c H1 locs1 (cs + mc) (ss + ms) Q (F0 m (pc + 3) ls (ar.map (ax_c base))) := fun H1 locs1 hP1 hS1 => hk H1 locs1 ls hP1 hS1 hL (by show _ + (cs + mc) = base + w'.length; rw [hwl']; show s.heap.size + (cs + mc) = _; have hcs : s.heap.size + cs = base + w.length := hcs; omega)
      have hsig : ∀ sig, parseMethodDescriptor y.desc = some sig → as.length = sig.parameters.length := fun sig hsig => by rw [hsig] at c3; rw [e2]; exact (Option.some.inj c3).symm
      rcases c10 with c10 | ⟨host, c10⟩
      · refine bx_callW (va_runI (p := p) (l := l) (e := e) (below := below) (meth := meth) (locs := locs) (cells := cs) (slots := ss) (rest := ar.map (ax_c base)) (b := ax_ad base aq) (As := as.map (ax_c base)) (g := F0 m pc ls ((as.reverse ++ .inr aq :: ar).map (ax_c base))) (n := as.length) (Ts := ax_T) (own := own) (nL := nL) (index := x) ⟨hx, hb, hml, hown, hts⟩ hM
          ⟨⟨rfl, rfl, Nat.le_trans c1 hfr, Nat.le_trans c2 hlo, pay_in hts (ax_goodIn c8), List.mem_cons_self, hts _ c8, hts _ c5, c4, hsig, hts _ c10⟩, c6, hts _ c9⟩
          ⟨bx_blind _ base D cA w, fun U hU hW => ⟨rfl, hwd U hU hW⟩⟩ rfl (by rw [List.length_map]) (by exact hL.2.1) (by rw [List.map_append, List.map_reverse, List.map_cons]; rfl) (lv_room hw8) hdec hrR) hS kk
      · refine bx_callW (va_runIN (p := p) (l := l) (e := e) (below := below) (meth := meth) (locs := locs) (cells := cs) (slots := ss) (rest := ar.map (ax_c base)) (b := ax_ad base aq) (As := as.map (ax_c base)) (g := F0 m pc ls ((as.reverse ++ .inr aq :: ar).map (ax_c base))) (n := as.length) (Ts := ax_T) (own := own) (nL := nL) (index := x) ⟨hx, hb, hml, hown, hts⟩ hM
          ⟨⟨⟨rfl, rfl, Nat.le_trans c1 hfr, Nat.le_trans c2 hlo, pay_in hts (ax_goodIn c8), List.mem_cons_self⟩, hts _ c8, hts _ c5, c4, hsig, (hY.1 _ c10).use rfl⟩, c6, hts _ c9⟩
          ⟨bx_blind _ base D cA w, fun U hU hW => ⟨rfl, hwd U hU hW⟩⟩ rfl (by rw [List.length_map]) (by exact hL.2.1) (by rw [List.map_append, List.map_reverse, List.map_cons]; rfl) (lv_room hw8) hdec hrR) hS kk
  all_goals cases h
end BXC
