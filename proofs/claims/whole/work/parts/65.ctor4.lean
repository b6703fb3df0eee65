/-! the constructors: runs and contracts -/
section BXD
variable {l : Launch} {p : Program} {e : Env} {R : Room} {s : State} {m : MethodId} {args : Array Value} {below : List Frame} {meth : Method} {c : Code} {base : Nat} {D : va_G} {cA : Nat → ClassId} {nL : Nat} {Q : State → Prop} {own : String} {cc : ByteArray} {P : bx_P}
theorem bx_sound_step {fr lo : Nat} (C : bx_Cx p R s m args meth c base D cA nL fr lo own cc P) (O : bx_Ok l own cc fr lo P) {x x' : bx_S} (h : bx_step P x = some x') (hk : bx_At l p e R s m args below meth c base D cA nL Q x') : bx_At l p e R s m args below meth c base D cA nL Q x := by
  obtain ⟨q, hq, h⟩ := bx_b_i h
  obtain ⟨e1, he1, hq1⟩ := ax_at_mem _ hq
  obtain ⟨d1, d2⟩ := O.1 e1 he1 _ hq1
  obtain ⟨pc, L, st, w, cs, ss⟩ := x
  exact bx_sound_ins C O hk d1 d2 h
theorem bx_sound {fr lo : Nat} (C : bx_Cx p R s m args meth c base D cA nL fr lo own cc P) (O : bx_Ok l own cc fr lo P) {stop : Nat} : ∀ (n : Nat) (x x' : bx_S), bx_go P stop n x = some x' → x'.1 = stop ∧ (bx_At l p e R s m args below meth c base D cA nL Q x' → bx_At l p e R s m args below meth c base D cA nL Q x) := by
  intro n
  induction n with
  | zero =>
    intro x x' h
    obtain ⟨h1, h⟩ := bx_if_i h
    cases h
    exact ⟨Nat.eq_of_beq_eq_true h1, fun k => k⟩
  | succ n ih =>
    intro x x' h
    unfold bx_go at h
    cases hb : Nat.beq x.1 stop with
    | true =>
      rw [hb] at h
      cases h
      exact ⟨Nat.eq_of_beq_eq_true hb, fun k => k⟩
    | false =>
      rw [hb] at h
      obtain ⟨y, hy, h⟩ := bx_b_i h
      obtain ⟨h1, h2⟩ := ih y x' h
      exact ⟨h1, fun k => bx_sound_step C O hy (h2 k)⟩
theorem bx_impl {y : MethodName} {fr lo stop fuel : Nat} (hy : plainName y.cls = true) (hname : y.name = "<init>") (hret : decode cc stop = .ok (.return_, 1)) (hfr : 1 ≤ fr) (hlo : 20 ≤ lo) (O : bx_Ok l y.cls cc fr lo P) : bx_Impl l y (.code y cc nL none) fr lo (bx_sem P nL stop fuel) (bx_mc P) (bx_ms P) := by
  intro base D cA as w w' hsem
  refine Met.ofW (cc := cc) (maxL := nL) (ret := none) hy rfl ?_
  intro p e s m args below meth c s₁ B hml hv
  obtain ⟨hargs, hsz, hP, hK, hY⟩ := hv
  have hts := atoms_spec (ws := Cond.code y cc nL none :: ax_T) B.pre
  have hown : s.vm.findClass y.cls = some m.cls := findClass_of_methodNamed B.named
  have hin : meth.name = "<init>" := (name_of_methodNamed B.named B.method).1.trans hname
  have hlocks := B.notSynchronized
  have hr := B.returns
  obtain ⟨hwd, hsem⟩ := bx_if_i hsem
  have hwd := Nat.le_of_ble_eq_true hwd
  obtain ⟨⟨pc1, L1, st1, w1, cs1, ss1⟩, hgo, hsem⟩ := bx_b_i hsem
  obtain ⟨hst, hsem⟩ := bx_if_i hsem
  obtain ⟨hc1, hsem⟩ := bx_if_i hsem
  obtain ⟨hs1, hsem⟩ := bx_if_i hsem
  cases hsem
  have hst' : st1 = [] := List.isEmpty_iff.mp hst
  subst hst'
  have C : bx_Cx p { frames := fr, cells := bx_mc P, slots := bx_ms P, locals := lo } s m args meth c base D cA nL fr lo y.cls cc P := ⟨B.exec, B.bytes, hml, hown, fun w hw => hts w (List.mem_cons_of_mem _ hw), hK, hY, by omega, Or.inr hin, Nat.le_refl _, Nat.le_refl _, Nat.le_refl _, Nat.le_refl _, hfr, hlo⟩
  obtain ⟨hpc, key⟩ := bx_sound (e := e) (below := below) (Q := MQ below (bx_Qr base D cA w1) args s (bx_mc P) (bx_ms P) (ax_A base)) C O _ _ _ hgo
  have hpc : pc1 = stop := hpc
  subst hpc
  have k0 := key (by
    intro H locs ls hP1 hS1 hL1 hcs1
    refine W.widen (k := bx_mc P) (n := bx_ms P) (Nat.le_of_ble_eq_true hc1) (Nat.le_of_ble_eq_true hs1) ?_
    exact W.vret B.exec B.bytes hr (fun t ht _ => ⟨⟨rfl, by rw [ht]; exact hP1⟩, hS1.F ht⟩) hS1.2.2 hret hlocks)
  have hent := lv_entry (as.map (ax_c base)) (n := nL) (by rw [ax_sl_len]; exact hwd)
  have k1 := k0 s.heap [] (lg_sl (as.map (ax_c base)) ++ List.replicate (nL - (lg_sl (as.map (ax_c base))).length) Slot.unset).toArray hP va_S.rf ⟨ax_loc_len as nL hwd, hent.1, hent.2.1, fun i v hv => by
    have h1 := (ax_loc_nth base as nL 0 i v hv).1
    rw [Nat.zero_add] at h1
    exact hent.2.2 _ h1⟩ (by show s.heap.size + 0 = base + w.length; omega)
  have he : entryFrame m args nL = F0 m 0 (lg_sl (as.map (ax_c base)) ++ List.replicate (nL - (lg_sl (as.map (ax_c base))).length) Slot.unset).toArray [] := by
    rw [hargs, lg_entry_eq]
  rw [he]
  exact k1
def bx_flb (own : String) (q : Nat × Nat × Nat) : Bool := match vwCl[q.2.1]? with
  | some (_, T, _) => decide ((T q.2.2).1 = own)
  | none => false
theorem bx_fl_of {own : String} {l : List (Nat × Nat × Nat)} (h : l.all (fun q => ax_fldb own q && bx_flb own q) = true) : ∀ q ∈ l, bx_FlOk own q := by
  intro q hq
  have h1 := List.all_eq_true.mp h q hq
  rw [Bool.and_eq_true] at h1
  refine ⟨ax_fld_of (l := [q]) (by simp [h1.1]) q List.mem_cons_self, fun C T N hv => ?_⟩
  have h2 := h1.2
  unfold bx_flb at h2
  rw [hv] at h2
  exact of_decide_eq_true h2
end BXD
