/-! the law from its entry -/
section BXG
def L_0 (b : Nat) : ax_L := [some (.inl (.ref b)), none, none, none, none, none, none, none, none]
def L_1 (b : Nat) : ax_L := [some (.inl (.ref b)), some (.inr (0, 0)), none, none, none, none, none, none, none]
def L_2 (b : Nat) : ax_L := [some (.inl (.ref b)), some (.inr (0, 0)), some (.inr (19, 0)), none, none, none, none, none, none]
def L_3 (b : Nat) : ax_L := [some (.inl (.ref b)), some (.inr (0, 0)), some (.inr (19, 0)), some (.inr (60, 0)), none, none, none, none, none]
def L_4 (b : Nat) : ax_L := [some (.inl (.ref b)), some (.inr (0, 0)), some (.inr (19, 0)), some (.inr (60, 0)), some (.inl (.int 0)), none, none, none, none]
theorem stp_call {P : bx_P} {pc : Nat} {L : ax_L} {st : List ax_V} {w : List bx_C} {cs ss x t : Nat} {v : Int32} {md na mc ms : Nat} {sem : bx_M} {zs zr : List ax_V} {aq : Nat × Nat} {ar : List ax_V} {w' : List bx_C} (hat : ax_at (bx_code P) pc = some (.invokespecial x, 3, t, v)) (hq : ax_lk (bx_cl P) x = some (md, na, sem, mc, ms)) (hz : bx_pn na st = some (zs, zr)) (ha : bx_pR zr = some (aq, ar)) (h8 : Nat.ble (ax_wd ar) 8 = true) (h1 : Nat.ble (cs + mc) (bx_mc P) = true) (h2 : Nat.ble (ss + ms) (bx_ms P) = true) (hs : sem (.inr aq :: zs) w = some w') (hl : Nat.beq w'.length (w.length + mc) = true) : bx_step P (pc, L, st, w, cs, ss) = some (pc + 3, L, ar, w', cs + mc, ss + ms) := by
  show (ax_at (bx_code P) pc).bind _ = _
  rw [hat]
  show (ax_lk (bx_cl P) x).bind _ = _
  rw [hq]
  show (bx_pn na st).bind _ = _
  rw [hz]
  show (bx_pR zr).bind _ = _
  rw [ha]
  show bx_if (Nat.ble (ax_wd ar) 8) _ = _
  rw [h8]
  show bx_if (Nat.ble (cs + mc) (bx_mc P)) _ = _
  rw [h1]
  show bx_if (Nat.ble (ss + ms) (bx_ms P)) _ = _
  rw [h2]
  show (sem (.inr aq :: zs) w).bind _ = _
  rw [hs]
  show bx_if (Nat.beq w'.length (w.length + mc)) _ = _
  rw [hl]
  rfl
theorem stp_new {P : bx_P} {pc : Nat} {L : ax_L} {st : List ax_V} {w : List bx_C} {cs ss x t ci : Nat} {v : Int32} {q : Nat × Nat} (hat : ax_at (bx_code P) pc = some (.new x, 3, t, v)) (hc : ax_lk (bx_nw P) x = some ci) (hq : ax_all[w.length]? = some q) (h1 : Nat.ble (cs + 1) (bx_mc P) = true) (h2 : Nat.ble (ss + ax_nf ci) (bx_ms P) = true) : bx_step P (pc, L, st, w, cs, ss) = some (pc + 3, L, .inr q :: st, w ++ [.inr (ci, bx_def ci)], cs + 1, ss + ax_nf ci) := by
  show (ax_at (bx_code P) pc).bind _ = _
  rw [hat]
  show (ax_lk (bx_nw P) x).bind _ = _
  rw [hc]
  show (ax_all[w.length]?).bind _ = _
  rw [hq]
  show bx_if (Nat.ble (cs + 1) (bx_mc P)) _ = _
  rw [h1]
  show bx_if (Nat.ble (ss + ax_nf ci) (bx_ms P)) _ = _
  rw [h2]
  rfl
theorem stp_row {P : bx_P} {pc : Nat} {L : ax_L} {st : List ax_V} {w : List bx_C} {cs ss t : Nat} {y : ArrayType} {v : Int32} {k : Int32 × List ax_V} {q : Nat × Nat} (hat : ax_at (bx_code P) pc = some (.newarray y, 2, t, v)) (hk : bx_pI st = some k) (hq : ax_all[w.length]? = some q) (h1 : Nat.ble (cs + 1) (bx_mc P) = true) (h2 : Nat.ble (ss + k.1.toNatClampNeg) (bx_ms P) = true) (h3 : Nat.ble k.1.toNatClampNeg 1000 = true) (hn : ¬ k.1 < 0) : bx_step P (pc, L, st, w, cs, ss) = some (pc + 2, L, .inr q :: k.2, w ++ [.inl (t, k.1.toNatClampNeg, [])], cs + 1, ss + k.1.toNatClampNeg) := by
  show (ax_at (bx_code P) pc).bind _ = _
  rw [hat]
  show (bx_pI st).bind _ = _
  rw [hk]
  show (ax_all[w.length]?).bind _ = _
  rw [hq]
  show bx_if (Nat.ble (cs + 1) (bx_mc P)) _ = _
  rw [h1]
  show bx_if (Nat.ble (ss + k.1.toNatClampNeg) (bx_ms P)) _ = _
  rw [h2]
  show bx_if (Nat.ble k.1.toNatClampNeg 1000) _ = _
  rw [h3]
  show (if k.1 < 0 then none else _) = _
  rw [if_neg hn]
theorem st_0 (b : Nat) : bx_step B_law0 (0, L_0 b, [], [], 0, 0) = some (3, L_0 b, [.inr (0, 0)], [.inr (9, bx_def 9)], 1, 7) := rfl
theorem st_3 (b : Nat) : bx_step B_law0 (3, L_0 b, [.inr (0, 0)], [.inr (9, bx_def 9)], 1, 7) = some (4, L_0 b, [.inr (0, 0), .inr (0, 0)], [.inr (9, bx_def 9)], 1, 7) := rfl
theorem st_4 (b : Nat) : bx_step B_law0 (4, L_0 b, [.inr (0, 0), .inr (0, 0)], [.inr (9, bx_def 9)], 1, 7) = some (7, L_0 b, [.inr (0, 0)], W98, 98, 843) := stp_call (P := B_law0) (x := 83) (t := 0) (v := 0) (md := 1) (na := 0) (sem := m_X9) (mc := 97) (ms := 836) (zs := []) (zr := [.inr (0, 0), .inr (0, 0)]) (aq := (0, 0)) (ar := [.inr (0, 0)]) (w' := W98) rfl rfl rfl rfl rfl rfl rfl wf_9 (by rw [wl_98]; rfl)
theorem st_7 (b : Nat) (w : List bx_C) (cs ss : Nat) : bx_step B_law0 (7, L_0 b, [.inr (0, 0)], w, cs, ss) = some (8, L_1 b, [], w, cs, ss) := rfl
theorem st_8 (b : Nat) : bx_step B_law0 (8, L_1 b, [], W98, 98, 843) = some (11, L_1 b, [.inr (19, 0)], W98 ++ [.inr (10, bx_def 10)], 99, 884) := stp_new (P := B_law0) (x := 84) (t := 0) (v := 0) (ci := 10) (q := (19, 0)) rfl rfl (by rw [wl_98]; decide +kernel) rfl rfl
theorem st_11 (b : Nat) (w : List bx_C) (cs ss : Nat) : bx_step B_law0 (11, L_1 b, [.inr (19, 0)], w, cs, ss) = some (12, L_1 b, [.inr (19, 0), .inr (19, 0)], w, cs, ss) := rfl
theorem st_12 (b : Nat) : bx_step B_law0 (12, L_1 b, [.inr (19, 0), .inr (19, 0)], W98 ++ [.inr (10, bx_def 10)], 99, 884) = some (15, L_1 b, [.inr (19, 0)], W125, 125, 1589) := stp_call (P := B_law0) (x := 86) (t := 0) (v := 0) (md := 1) (na := 0) (sem := m_X10) (mc := 26) (ms := 705) (zs := []) (zr := [.inr (19, 0), .inr (19, 0)]) (aq := (19, 0)) (ar := [.inr (19, 0)]) (w' := W125) rfl rfl rfl rfl rfl rfl rfl wf_10 (by rw [wl_125, List.length_append, wl_98]; rfl)
theorem st_15 (b : Nat) (w : List bx_C) (cs ss : Nat) : bx_step B_law0 (15, L_1 b, [.inr (19, 0)], w, cs, ss) = some (16, L_2 b, [], w, cs, ss) := rfl
theorem st_16 (b : Nat) (w : List bx_C) (cs ss : Nat) : bx_step B_law0 (16, L_2 b, [], w, cs, ss) = some (17, L_2 b, [.inl (.int 1)], w, cs, ss) := rfl
theorem st_17 (b : Nat) : bx_step B_law0 (17, L_2 b, [.inl (.int 1)], W125, 125, 1589) = some (19, L_2 b, [.inr (60, 0)], ax_all.map bx_exp, 126, 1590) := by
  have h := stp_row (P := B_law0) (pc := 17) (L := L_2 b) (st := [.inl (.int 1)]) (w := W125) (cs := 125) (ss := 1589) (t := 2) (y := .long) (v := 0) (k := (1, [])) (q := (60, 0)) rfl rfl (by rw [wl_125]; decide +kernel) rfl (by decide +kernel) (by decide +kernel) (by decide +kernel)
  have e1 : (1 : Int32).toNatClampNeg = 1 := by decide +kernel
  have h : bx_step B_law0 (17, L_2 b, [.inl (.int 1)], W125, 125, 1589) = some (19, L_2 b, [.inr (60, 0)], W125 ++ [.inl (2, (1 : Int32).toNatClampNeg, [])], 126, 1589 + (1 : Int32).toNatClampNeg) := h
  rw [e1, wf_all] at h
  exact h
theorem st_19 (b : Nat) (w : List bx_C) (cs ss : Nat) : bx_step B_law0 (19, L_2 b, [.inr (60, 0)], w, cs, ss) = some (20, L_3 b, [], w, cs, ss) := rfl
theorem st_20 (b : Nat) (w : List bx_C) (cs ss : Nat) : bx_step B_law0 (20, L_3 b, [], w, cs, ss) = some (21, L_3 b, [.inl (.int 0)], w, cs, ss) := rfl
theorem st_21 (b : Nat) (w : List bx_C) (cs ss : Nat) : bx_step B_law0 (21, L_3 b, [.inl (.int 0)], w, cs, ss) = some (23, L_4 b, [], w, cs, ss) := rfl
theorem whole_start {p : Program} {e : Env} {s : State} {m : MethodId} {below : List Frame} {meth : Method} {c : Code} (l : Launch) (hflags : l.flags = flags0) {b L : Nat} {xs : Nat → Int32} (hL : L ≤ 3584) (C0 : lw_At p s m meth c b L xs) : W p l e room_1 s m #[Value.ref b] below meth c s.heap [] 0 0 (lw_Z below #[Value.ref b] s) (entryFrame m ([Value.ref b] : List Value).toArray 9) := by
  obtain ⟨hx, hb, hr, hml, hown, hts, hX, hbl, hlocks, hgv, htab⟩ := C0
  have htsT : ∀ w ∈ ax_T, w.before #[Value.ref b] s = true := fun w hw => hts w (List.mem_filter.mp hw).1
  obtain ⟨hY, hbY, hZ⟩ := first_Y hts hgv
  obtain ⟨D, cA, hK⟩ := bx_K htsT hbY.2
  have hl : l.stackTraces = false := by
    unfold Launch.stackTraces
    rw [hflags]
    decide +kernel
  have hown' : s.vm.findClass RL = some m.cls := hown
  have C : bx_Cx p room_1 s m #[Value.ref b] meth c s.heap.size D cA 9 11 392 RL code B_law0 := ⟨hx, hb, hml, hown', htsT, hK, hbY, Nat.le_refl _, Or.inl rfl, Nat.le_refl _, Nat.le_refl _, Nat.le_refl _, Nat.le_refl _, by decide, by decide⟩
  have O := bo_law0 l
  -- the loop
  have fin : bx_At l p e room_1 s m #[Value.ref b] below meth c s.heap.size D cA 9 (lw_Z below #[Value.ref b] s) (23, L_4 b, [], ax_all.map bx_exp, 126, 1590) := by
    intro H locs ls hP hS hLs hcs
    obtain ⟨f1, g1, hrun⟩ := law_loop (b := b) (ln := L) (xs := xs) (mc := 618393) (ms := 7240924) hL 513 0 f0 g0 126 1590 rfl Inv_0 (by decide) (by decide)
    obtain ⟨n, hn⟩ := ax_of_run _ hrun
    have C' : ax_Cx p room_1 s m #[Value.ref b] c s.heap.size D cA 9 11 392 RL code (P_law b L xs 618393 7240924) := ⟨hx, hb, hml, hown', htsT, hK, hZ, hY, fun q hq => by cases hq; exact ⟨hX, hbl, hbl, by show L < 2 ^ 31; omega⟩, Nat.le_refl _, Nat.le_refl _, Nat.le_refl _, Nat.le_refl _⟩
    have key := ax_sound (l := l) (e := e) (below := below) (meth := meth) (Q := lw_Z below #[Value.ref b] s) C' (by rw [htab]; exact ok_law l hl b L xs 618393 7240924) (by
      intro v f g pc i H1 locs1 ls1 cs ss hrr hdec hrt hP1 hS1 hok hc hs
      cases hrr
      rcases hrt with ⟨-, -, h⟩ | ⟨rfl, -⟩ | ⟨h, -⟩ | ⟨h, -⟩ | ⟨h, -⟩
      · cases h
      · refine va_forget (fun q hq => hS1.2.2 q hq) (W.widen (k := 618393) (n := 7240924) hc hs ?_)
        exact lw_ret (d0 := s.drawn) (Drawn.sameBut.refl s.drawn lw_cs) hx hb hr hlocks hdec
      · cases h
      · cases h
      · cases h) (by
      intro x f g pc H1 locs1 ls1 rest cs ss q9 ce hrr
      cases hrr) (by
      intro x f g pc H1 locs1 ls1 st cs ss hrr
      cases hrr) n _ _ _ _ _ _ _ hn
    refine key H locs ls (bx_first hP) hS hLs (fun v hv => by cases hv) (fun i v hv => ?_) (Nat.le_of_ble_eq_true rfl) (Nat.le_of_ble_eq_true rfl)
    match i, hv with
    | 0, hv => cases hv; trivial
    | 1, hv => cases hv; show (0, 0) ∈ ax_all; decide +kernel
    | 2, hv => cases hv; show (19, 0) ∈ ax_all; decide +kernel
    | 3, hv => cases hv; show (60, 0) ∈ ax_all; decide +kernel
    | 4, hv => cases hv; trivial
    | 5, hv => cases hv
    | 6, hv => cases hv
    | 7, hv => cases hv
    | 8, hv => cases hv
    | i + 9, hv => cases hv
  have k21 := bx_sound_step C O (st_21 b _ _ _) fin
  have k20 := bx_sound_step C O (st_20 b _ _ _) k21
  have k19 := bx_sound_step C O (st_19 b _ _ _) k20
  have k17 := bx_sound_step C O (st_17 b) k19
  have k16 := bx_sound_step C O (st_16 b _ _ _) k17
  have k15 := bx_sound_step C O (st_15 b _ _ _) k16
  have k12 := bx_sound_step C O (st_12 b) k15
  have k11 := bx_sound_step C O (st_11 b _ _ _) k12
  have k8 := bx_sound_step C O (st_8 b) k11
  have k7 := bx_sound_step C O (st_7 b _ _ _) k8
  have k4 := bx_sound_step C O (st_4 b) k7
  have k3 := bx_sound_step C O (st_3 b) k4
  have k0 := bx_sound_step C O (st_0 b) k3
  have hent := lv_entry ([Value.ref b] : List Value) (n := 9) (Nat.le_of_ble_eq_true rfl)
  rw [lg_entry_eq]
  refine k0 s.heap [] _ (fun k q hq => by cases hq) va_S.rf ⟨rfl, hent.1, hent.2.1, fun i v hv => ?_⟩ rfl
  match i, hv with
  | 0, hv => cases hv; exact hent.2.2 _ List.mem_cons_self
  | 1, hv => cases hv
  | 2, hv => cases hv
  | 3, hv => cases hv
  | 4, hv => cases hv
  | 5, hv => cases hv
  | 6, hv => cases hv
  | 7, hv => cases hv
  | 8, hv => cases hv
  | i + 9, hv => cases hv
end BXG
