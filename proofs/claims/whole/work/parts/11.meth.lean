/-! from runs to contracts -/
section AXM
def ax_sup : List String := ["java/lang/RuntimeException", "java/lang/Exception"]
def ax_wb (w : Cond) : Bool := decide (w ∈ lw_tbl) && (goodWord w || (match w with | .declares _ => true | .castable _ _ => true | _ => false))
theorem ax_wb_use {s : State} {args : Array Value} (hts : ∀ w ∈ ax_T, w.before args s = true) (hY : ax_Y ax_sts ax_nes s) {w : Cond} (h : ax_wb w = true) : w.before args s = true := by
  unfold ax_wb at h
  rw [Bool.and_eq_true, decide_eq_true_eq, Bool.or_eq_true] at h
  obtain ⟨h1, h2⟩ := h
  rcases h2 with h2 | h2
  · exact hts w (ax_inT ⟨h1, h2⟩)
  · cases w <;> first | (cases h2; done) | skip
    · exact (hY.2.2.2.2 _ h1).use rfl
    · exact (hY.2.2.1 _ _ h1).use rfl
/-- the constructor's entry, by the exception -/
def ax_ec (e : Nat) : Nat := match e with
  | 1 => 53
  | 2 => 86
  | _ => 73
def ax_ek (e : Nat) : Nat := match e with
  | 1 => 49
  | 2 => 82
  | _ => 69
def ax_exw (e : Nat) : List Cond := Cond.classLink RX9 (ax_ek e) (ax_en e) :: Cond.initialized (ax_en e) :: vx_atS RX9 (ax_ec e) (ax_en e) ax_sup
theorem ax_exw1 : ∀ w ∈ ax_exw 1, ax_wb w = true := by decide +kernel
theorem ax_exw2 : ∀ w ∈ ax_exw 2, ax_wb w = true := by decide +kernel
theorem ax_exw3 : ∀ w ∈ ax_exw 3, ax_wb w = true := by decide +kernel
theorem ax_exo1 : ∀ w ∈ ax_exw 1, vx_ot w = true := by decide +kernel
theorem ax_exo2 : ∀ w ∈ ax_exw 2, vx_ot w = true := by decide +kernel
theorem ax_exo3 : ∀ w ∈ ax_exw 3, vx_ot w = true := by decide +kernel
theorem ax_exw_ok (e : Nat) : (∀ w ∈ ax_exw e, ax_wb w = true) ∧ ∀ w ∈ ax_exw e, vx_ot w = true := by
  match e with
  | 0 => exact ⟨ax_exw3, ax_exo3⟩
  | 1 => exact ⟨ax_exw1, ax_exo1⟩
  | 2 => exact ⟨ax_exw2, ax_exo2⟩
  | n + 3 => exact ⟨ax_exw3, ax_exo3⟩
theorem ax_fit (e : Nat) : Bundle.fit (ax_en e) = true := by
  match e with
  | 0 => decide +kernel
  | 1 => decide +kernel
  | 2 => decide +kernel
  | n + 3 => show Bundle.fit (ax_en 3) = true; decide +kernel
/-- the five instructions of a throw -/
def ax_ExcOk (cc : ByteArray) (q : Nat × Nat) : Prop := ∃ is text, (RX9, is, text) ∈ ax_sts ∧ decode cc q.1 = .ok (.new (ax_ek q.2), 3) ∧ decode cc (q.1 + 3) = .ok (.dup, 1) ∧ ((decode cc (q.1 + 4) = .ok (.ldc is, 2) ∧ decode cc (q.1 + 6) = .ok (.invokespecial (ax_ec q.2), 3) ∧ decode cc (q.1 + 9) = .ok (.athrow, 1)) ∨ (decode cc (q.1 + 4) = .ok (.ldc_w is, 3) ∧ decode cc (q.1 + 7) = .ok (.invokespecial (ax_ec q.2), 3) ∧ decode cc (q.1 + 10) = .ok (.athrow, 1)))
def ax_Rty (t : Nat) (ret : Option FieldType) : Prop := match t with
  | 0 => ret = none
  | 1 => ret = some .int
  | 2 => ret = some .boolean
  | 3 => ret = some .long
  | 4 => ret = some .double
  | _ => ∃ n, ret = some (.object n)
variable {l : Launch} {p : Program} {e : Env} {R : Room} {s : State} {m : MethodId} {args : Array Value} {below : List Frame} {meth : Method} {c : Code} {base : Nat} {D : va_G} {cA : Nat → ClassId} {nL : Nat} {Q : State → Prop} {own : String} {cc : ByteArray} {P : ax_P}
theorem ax_ok_norm {pc : Nat} {L : ax_L} (h : ∀ i v, ax_nth L i = some v → ax_ok v) : ∀ i v, ax_nth (ax_norm P pc L) i = some v → ax_ok v := by
  unfold ax_norm
  cases ax_lk (ax_live P) pc with
  | none => exact h
  | some n => exact fun i v hv => h i v (ax_nth_kill L n i hv)
theorem ax_sound {r : ax_Fin} {fr lo : Nat} (C : ax_Cx p R s m args c base D cA nL fr lo own cc P) (O : ax_Ok l own cc nL fr lo P c.exceptionTable.toList)
    (hret : ∀ (v : Option ax_V) (f : ax_F) (g : ax_G) (pc : Nat) (i : Instr) (H : Heap) (locs : List Loc) (ls : Array Slot) (cs ss : Nat), r = (.inl v, f, g) → decode cc pc = .ok (i, 1) → ax_Rt (ax_ret P) i v → va_P D vwCl (ax_ws base cA f g) H → va_S (ax_A base) s.heap H locs → (∀ x, v = some x → ax_ok x) → cs ≤ ax_mc P → ss ≤ ax_ms P → W p l e R s m args below meth c H locs cs ss Q (F0 m pc ls ((v.map (ax_c base)).toList)))
    (hout : ∀ (x : Nat) (f : ax_F) (g : ax_G) (pc : Nat) (H : Heap) (locs : List Loc) (ls : Array Slot) (rest : List Value) (cs ss : Nat) (q9 : Addr) (ce : Cell), r = (.inr x, f, g) → ax_Pass own args s c.exceptionTable.toList pc x → va_P D vwCl (ax_ws base cA f g) H → va_S (ax_A base) s.heap H locs → H[q9]? = some ce → ce.vm = .none → s.vm.findClass (ax_en x) = some ce.cls → cs ≤ ax_mc P → ss ≤ ax_ms P → vx_W p l e R s m args below meth c H locs cs ss Q (F0 m pc ls rest) q9)
    (hnew : ∀ (x : Nat) (f : ax_F) (g : ax_G) (pc : Nat) (H : Heap) (locs : List Loc) (ls : Array Slot) (st : List ax_V) (cs ss : Nat), r = (.inr x, f, g) → (pc, x) ∈ ax_excs P → c.exceptionTable.toList = [] → va_P D vwCl (ax_ws base cA f g) H → va_S (ax_A base) s.heap H locs → ls.size = nL → ax_wd st ≤ 8 → cs + 1 ≤ ax_mc P → ss + 6 ≤ ax_ms P → W p l e R s m args below meth c H locs cs ss Q (F0 m pc ls (st.map (ax_c base)))) :
    ∀ n pc L st f g cs ss, ax_exec P n pc L st f g cs ss = some r → ax_At l p e R s m args below meth c base D cA nL (ax_mc P) (ax_ms P) Q pc L st f g cs ss := by
  intro n
  induction n with
  | zero => intro pc L st f g cs ss h; cases h
  | succ n ih =>
    intro pc L st f g cs ss h
    rw [ax_exec_succ] at h
    obtain ⟨q, hq, h⟩ := ax_ob_i h
    obtain ⟨e1, he1, hq1⟩ := ax_at_mem _ hq
    obtain ⟨d1, d2⟩ := O.1 e1 he1 _ hq1
    have hA := ax_sound_ins (e := e) (below := below) (meth := meth) (Q := Q) C O ih hret hout hnew d1 d2 h
    intro H locs ls hP hS hL ho hoL hc hs
    exact hA H locs ls hP hS (ax_Ls_norm hL) ho (ax_ok_norm hoL) hc hs
theorem ax_loc_len : ∀ (as : List ax_V) (n : Nat), ax_wd as ≤ n → (ax_loc n as).length = n := by
  intro as
  induction as with
  | nil => intro n _; exact List.length_replicate
  | cons v as ih =>
    intro n h
    unfold ax_wd at h
    unfold ax_loc
    cases e : ax_two v with
    | true =>
      rw [e] at h
      have h' : 2 + ax_wd as ≤ n := h
      show ((ax_loc (n - 2) as).length + 1) + 1 = n
      rw [ih (n - 2) (by omega)]
      omega
    | false =>
      rw [e] at h
      have h' : 1 + ax_wd as ≤ n := h
      show (ax_loc (n - 1) as).length + 1 = n
      rw [ih (n - 1) (by omega)]
      omega
theorem ax_nth_rep (n i : Nat) : ax_nth (List.replicate n none) i = none := by
  induction n generalizing i with
  | zero => rfl
  | succ n ih => cases i with
    | zero => rfl
    | succ i => exact ih i
theorem ax_loc_nth (base : Nat) : ∀ (as : List ax_V) (n k i : Nat) (v : ax_V), ax_nth (ax_loc n as) i = some v → (k + i, ax_c base v) ∈ lv_args k (as.map (ax_c base)) ∧ v ∈ as := by
  intro as
  induction as with
  | nil => intro n k i v h; rw [show ax_loc n [] = List.replicate n none from by cases n <;> rfl, ax_nth_rep] at h; cases h
  | cons w as ih =>
    intro n k i v h
    unfold ax_loc at h
    have hcat : ((ax_c base w).category = 2) ↔ ax_two w = true := by rw [← ax_two_c base w]; simp
    show (k + i, ax_c base v) ∈ (k, ax_c base w) :: lv_args (if (ax_c base w).category = 2 then k + 2 else k + 1) (as.map (ax_c base)) ∧ _
    cases e : ax_two w with
    | true =>
      rw [e] at h
      rw [if_pos (hcat.mpr e)]
      match i, h with
      | 0, h => cases h; exact ⟨List.mem_cons_self, List.mem_cons_self⟩
      | 1, h => cases h
      | i + 2, h =>
        obtain ⟨h1, h2⟩ := ih (n - 2) (k + 2) i v h
        refine ⟨List.mem_cons_of_mem _ ?_, List.mem_cons_of_mem _ h2⟩
        rw [show k + (i + 2) = k + 2 + i by omega]
        exact h1
    | false =>
      rw [e] at h
      rw [if_neg (fun q => by rw [hcat.mp q] at e; cases e)]
      match i, h with
      | 0, h => cases h; exact ⟨List.mem_cons_self, List.mem_cons_self⟩
      | i + 1, h =>
        obtain ⟨h1, h2⟩ := ih (n - 1) (k + 1) i v h
        refine ⟨List.mem_cons_of_mem _ ?_, List.mem_cons_of_mem _ h2⟩
        rw [show k + (i + 1) = k + 1 + i by omega]
        exact h1
theorem ax_sl_len (base : Nat) : ∀ (as : List ax_V), (lg_sl (as.map (ax_c base))).length = ax_wd as := by
  intro as
  induction as with
  | nil => rfl
  | cons w as ih =>
    have hcat : ((ax_c base w).category = 2) ↔ ax_two w = true := by rw [← ax_two_c base w]; simp
    show (lg_sl (ax_c base w :: as.map (ax_c base))).length = _
    unfold lg_sl at ih ⊢
    rw [List.flatMap_cons, List.length_append, ih]
    show _ = (bif ax_two w then 2 else 1) + ax_wd as
    cases e : ax_two w with
    | true => rw [if_pos (hcat.mpr e)]; rfl
    | false => rw [if_neg (fun q => by rw [hcat.mp q] at e; cases e)]; rfl
/-- a body: its run gives the walk from its entry -/
theorem ax_body {r : ax_Fin} {fr lo mc ms : Nat} {ret : Option FieldType} {as : List ax_V} {f : ax_F} {g : ax_G} (hl : l.stackTraces = false) (hown9 : (ax_excs P ≠ [] → own = RX9) ∧ (ax_excs P ≠ [] → 6 ≤ fr ∧ 90 ≤ lo)) (hscr0 : ax_scr P = none)
    (hmcP : ax_mc P = mc) (hmsP : ax_ms P = ms) (hE : ∀ q ∈ ax_excs P, ax_ExcOk cc q) (hRt : ax_Rty (ax_ret P) ret) (O : ax_Ok l own cc nL fr lo P c.exceptionTable.toList)
    (hx : p.tables.exec = Jvm.exec) (hb : c.code = cc) (hml : c.maxLocals = nL) (hown : s.vm.findClass own = some m.cls) (hts : ∀ w ∈ ax_T, w.before args s = true) (hlocks : meth.locks = false) (hr : meth.sig.returnType = ret)
    (hW : ax_Wd base D cA f g s) (hok : ∀ v ∈ as, ax_ok v) (hsem : ax_sem P nL as f g = some r) (hargs : args = (as.map (ax_c base)).toArray) :
    W p l e { frames := fr, cells := mc, slots := ms, locals := lo } s m args below meth c s.heap [] 0 0 (vx_MQ below (ax_Qr base D cA r) (ax_Xr base D cA r) args s mc ms (ax_A base)) (entryFrame m args nL) := by
  subst hmcP; subst hmsP
  obtain ⟨hP, hK, hZ, hY⟩ := hW
  obtain ⟨hwd, hsem⟩ := ax_gd_i hsem
  have hwd := Nat.le_of_ble_eq_true hwd
  obtain ⟨n, hn⟩ := ax_of_run P hsem
  have C : ax_Cx p { frames := fr, cells := ax_mc P, slots := ax_ms P, locals := lo } s m args c base D cA nL fr lo own cc P := ⟨hx, hb, hml, hown, hts, hK, hZ, hY, fun q hq => (by rw [hscr0] at hq; cases hq), Nat.le_refl _, Nat.le_refl _, Nat.le_refl _, Nat.le_refl _⟩
  have key := ax_sound (l := l) (e := e) (below := below) (meth := meth) (r := r) (Q := vx_MQ below (ax_Qr base D cA r) (ax_Xr base D cA r) args s (ax_mc P) (ax_ms P) (ax_A base)) C O ?_ ?_ ?_ n _ _ _ _ _ _ _ hn
  · rw [hargs, lg_entry_eq]
    have hent := lv_entry (as.map (ax_c base)) (n := nL) (by rw [ax_sl_len]; exact hwd)
    rw [← hargs]
    refine key s.heap [] _ hP va_S.rf ⟨ax_loc_len as nL hwd, hent.1, hent.2.1, fun i v hv => ?_⟩ (fun v hv => by cases hv) (fun i v hv => hok v (ax_loc_nth base as nL 0 i v hv).2) (Nat.zero_le _) (Nat.zero_le _)
    have h1 := (ax_loc_nth base as nL 0 i v hv).1
    rw [Nat.zero_add] at h1
    exact hent.2.2 _ h1
  · intro v f g pc i H locs ls cs ss hrr hdec hrt hP hS hok hc hs
    have hq : ∀ t : State, t.heap = H → s.WarmedH t.vm → ax_Qr base D cA r args s (.returned (v.map (ax_c base))) t := fun t ht _ => ⟨⟨v, f, g, hrr, rfl, hok, by rw [ht]; exact hP⟩, hS.F ht⟩
    refine vx_ret (W.widen hc hs ?_)
    unfold ax_Rty at hRt
    rcases hrt with ⟨h0, rfl, rfl⟩ | ⟨rfl, x, rfl, h0⟩ | ⟨h0, rfl, x, rfl⟩ | ⟨h0, rfl, x, rfl⟩ | ⟨h0, rfl, x, rfl, hxr⟩
    · rw [h0] at hRt
      exact W.vret hx hb (hr.trans hRt) hq hS.2.2 hdec hlocks
    · rcases h0 with h0 | ⟨h0, h1⟩
      · rw [h0] at hRt
        exact W.iret hx hb (hr.trans hRt) hq hS.2.2 hdec hlocks
      · rw [h0] at hRt
        exact W.zret hx hb (hr.trans hRt) (by rcases h1 with rfl | rfl <;> decide +kernel) hq hS.2.2 hdec hlocks
    · rw [h0] at hRt
      exact W.lret hx hb (hr.trans hRt) hq hS.2.2 hdec hlocks
    · rw [h0] at hRt
      exact W.dret hx hb (hr.trans hRt) hq hS.2.2 hdec hlocks
    · rw [h0] at hRt
      obtain ⟨n9, hRt⟩ := hRt
      refine W.aret hx hb (hr.trans hRt) (Or.inl ⟨n9, rfl⟩) ?_ hq hS.2.2 hdec hlocks
      rcases ax_isr_i hxr with rfl | ⟨b, rfl⟩ | ⟨q, rfl⟩
      · exact Or.inl rfl
      · exact Or.inr ⟨b, rfl⟩
      · exact Or.inr ⟨_, rfl⟩
  · intro x f g pc H locs ls rest cs ss q9 ce hrr hpass hP hS hq9 hv9 hc9 hc hs
    exact vx_outP hown hlocks hpass hq9 hv9 hc9 (fun t ht _ => ⟨⟨x, f, g, hrr, rfl, by rw [ht]; exact hP⟩, hS.F ht⟩) hS.2.2 hc hs
  · intro x f g pc H locs ls st cs ss hrr hin htb hP hS hsize hwd hc hs
    obtain ⟨is, text, hst, d0, d3, d4⟩ := hE _ hin
    have hne : ax_excs P ≠ [] := fun q => by rw [q] at hin; cases hin
    have ho9 := hown9.1 hne
    obtain ⟨f6, l90⟩ := hown9.2 hne
    obtain ⟨sa, hstr⟩ := hY.1 _ hst
    have hw := (ax_exw_ok x).1
    have hwo := (ax_exw_ok x).2
    rw [ho9] at hown
    have r1 : ax_sup.length + 3 < fr := by
      show 5 < fr
      omega
    have r2 : ((st.map (ax_c base)).map fun v => v.category).sum + (13 * (ax_sup.length + 1) + 43) ≤ lo := by
      rw [ax_wd_c]
      show ax_wd st + 82 ≤ lo
      omega
    have r3 : ∀ t : State, s.vm.Alike t.vm → H.size ≤ t.heap.size → (∀ q : Nat, q < H.size → t.heap[q]? = H[q]?) → ax_Xr base D cA r (ax_en x) s t := by
      intro t hal hz hk
      refine ⟨⟨x, f, g, hrr, rfl, hP.kept (fun k q hq => hk _ (hP k q hq).lt)⟩, Nat.le_trans hS.1 hz, fun q h1 h2 => ?_⟩
      rw [hk q (Nat.lt_of_lt_of_le h1 hS.1)]
      exact hS.2.1 q h1 h2
    rcases d4 with ⟨d4, d6, d9⟩ | ⟨d4, d6, d9⟩
    · exact vx_throwS (own := RX9) (cls := ax_en x) (names := ax_sup) (sa := sa) hx hb hl hown (ax_fit x) (by decide +kernel) (ax_wb_use hts hY (hw _ List.mem_cons_self)) (ax_wb_use hts hY (hw _ (List.mem_cons_of_mem _ List.mem_cons_self))) hstr (fun w h => ax_wb_use hts hY (hw w (List.mem_cons_of_mem _ (List.mem_cons_of_mem _ h)))) hwo hZ.1 hZ.2 hS (hsize.trans hml.symm) d0 d3 d4 d6 d9 (fun z hz => by rw [htb] at hz; cases hz) r1 r2 hc hs hlocks r3 hS.2.2 hc hs
    · exact vx_throwSW (own := RX9) (cls := ax_en x) (names := ax_sup) (sa := sa) hx hb hl hown (ax_fit x) (by decide +kernel) (ax_wb_use hts hY (hw _ List.mem_cons_self)) (ax_wb_use hts hY (hw _ (List.mem_cons_of_mem _ List.mem_cons_self))) hstr (fun w h => ax_wb_use hts hY (hw w (List.mem_cons_of_mem _ (List.mem_cons_of_mem _ h)))) hwo hZ.1 hZ.2 hS (hsize.trans hml.symm) d0 d3 d4 d6 d9 (fun z hz => by rw [htb] at hz; cases hz) r1 r2 hc hs hlocks r3 hS.2.2 hc hs
theorem ax_impl {y : MethodName} {ret : Option FieldType} {fr lo mc ms : Nat} (hl : l.stackTraces = false) (hy : plainName y.cls = true) (hexc : ax_excs P = [] ∨ (y.cls = RX9 ∧ 6 ≤ fr ∧ 90 ≤ lo)) (hscr0 : ax_scr P = none) (hmcP : ax_mc P = mc) (hmsP : ax_ms P = ms) (hE : ∀ q ∈ ax_excs P, ax_ExcOk cc q) (hRt : ax_Rty (ax_ret P) ret) (O : ax_Ok l y.cls cc nL fr lo P []) :
    ax_Impl l y (.code y cc nL ret) fr lo (ax_sem P nL) mc ms := by
  intro base D cA as f g r hok hsem
  refine vx_ofW (cc := cc) (maxL := nL) (ret := ret) hy rfl ?_
  intro p e s m args below meth c s₁ B hml htab hv
  obtain ⟨hargs, hW⟩ := hv
  have ht0 : c.exceptionTable.toList = [] := by
    cases h : c.exceptionTable.toList with
    | nil => rfl
    | cons z zs => exact absurd (htab z (by rw [h]; exact List.mem_cons_self)) (fun h => h)
  have hts := atoms_spec (ws := Cond.code y cc nL ret :: ax_T) B.pre
  have hown : s.vm.findClass y.cls = some m.cls := findClass_of_methodNamed B.named
  refine ax_body (own := y.cls) (cc := cc) (P := P) (fr := fr) (lo := lo) (as := as) (f := f) (g := g) hl ⟨fun h => ?_, fun h => ?_⟩ hscr0 hmcP hmsP hE hRt (by rw [ht0]; exact O) B.exec B.bytes hml hown (fun w hw => hts w (List.mem_cons_of_mem _ hw)) B.notSynchronized B.returns hW hok hsem hargs
  · rcases hexc with h1 | h1
    · exact absurd h1 h
    · exact h1.1
  · rcases hexc with h1 | h1
    · exact absurd h1 h
    · exact h1.2
theorem ax_implW {y : MethodName} {ret : Option FieldType} {fr lo mc ms : Nat} {hh : List (Nat × Nat × Nat × Nat)} (hl : l.stackTraces = false) (hy : plainName y.cls = true) (hexc : ax_excs P = []) (hscr0 : ax_scr P = none) (hmcP : ax_mc P = mc) (hmsP : ax_ms P = ms) (hRt : ax_Rty (ax_ret P) ret) (O : ax_Ok l y.cls cc nL fr lo P (tableOf hh)) :
    ax_Impl l y (.codeWith y cc nL ret hh) fr lo (ax_sem P nL) mc ms := by
  intro base D cA as f g r hok hsem
  refine vx_ofWH (cc := cc) (maxL := nL) (ret := ret) (hh := hh) hy rfl ?_
  intro p e s m args below meth c s₁ B hml hv
  obtain ⟨hargs, hW⟩ := hv
  have hts := atoms_spec (ws := Cond.codeWith y cc nL ret hh :: ax_T) B.pre
  have ht0 : c.exceptionTable.toList = tableOf hh := vx_table (x := y) B (hts _ List.mem_cons_self)
  have hown : s.vm.findClass y.cls = some m.cls := findClass_of_methodNamed B.named
  exact ax_body (own := y.cls) (cc := cc) (P := P) (fr := fr) (lo := lo) (as := as) (f := f) (g := g) hl ⟨fun h => absurd hexc h, fun h => absurd hexc h⟩ hscr0 hmcP hmsP (fun q hq => by rw [hexc] at hq; cases hq) hRt (by rw [ht0]; exact O) B.exec B.bytes hml hown (fun w hw => hts w (List.mem_cons_of_mem _ hw)) B.notSynchronized B.returns hW hok hsem hargs
end AXM
