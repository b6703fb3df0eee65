/-! soundness of a step -/
section AXU
def ax_At (l : Launch) (p : Program) (e : Env) (R : Room) (s : State) (m : MethodId) (args : Array Value) (below : List Frame) (meth : Method) (c : Code) (base : Nat) (D : va_G) (cA : Nat → ClassId) (nL mP sP : Nat) (Q : State → Prop) (pc : Nat) (L : ax_L) (st : List ax_V) (f : ax_F) (g : ax_G) (cs ss : Nat) : Prop :=
  ∀ (H : Heap) (locs : List Loc) (ls : Array Slot), va_P D vwCl (ax_ws base cA f g) H → va_S (ax_A base) s.heap H locs → ax_Ls base nL L ls → (∀ v ∈ st, ax_ok v) → (∀ i v, ax_nth L i = some v → ax_ok v) → cs ≤ mP → ss ≤ sP →
    W p l e R s m args below meth c H locs cs ss Q (F0 m pc ls (st.map (ax_c base)))
/-- what an instruction's own numbers say -/
def ax_par (own : String) (pc : Nat) (i : Instr) (n t : Nat) (v : Int32) : Bool := match i with
  | .iconst c => decide (n = 1) && decide (Int32.ofInt c = v)
  | .bipush c => decide (n = 2) && decide ((Int8.ofInt c).toInt32 = v)
  | .sipush c => decide (n = 3) && decide ((Int16.ofInt c).toInt32 = v)
  | .ldc x => decide (n = 2) && (decide (Cond.constant own x v ∈ lw_tbl) && goodWord (Cond.constant own x v))
  | .ldc_w x => decide (n = 3) && (decide (Cond.constant own x v ∈ lw_tbl) && goodWord (Cond.constant own x v))
  | .ldc2_w _ => decide (n = 3)
  | .iload x => decide (n = 2) && decide (x = t)
  | .dload x => decide (n = 2) && decide (x = t)
  | .aload x => decide (n = 2) && decide (x = t)
  | .istore x => decide (n = 2) && decide (x = t)
  | .dstore x => decide (n = 2) && decide (x = t)
  | .astore x => decide (n = 2) && decide (x = t)
  | .iload_n x => decide (n = 1) && decide (x.val = t)
  | .lload_n x => decide (n = 1) && decide (x.val = t)
  | .dload_n x => decide (n = 1) && decide (x.val = t)
  | .aload_n x => decide (n = 1) && decide (x.val = t)
  | .istore_n x => decide (n = 1) && decide (x.val = t)
  | .lstore_n x => decide (n = 1) && decide (x.val = t)
  | .dstore_n x => decide (n = 1) && decide (x.val = t)
  | .astore_n x => decide (n = 1) && decide (x.val = t)
  | .iinc x c => decide (n = 3) && (decide (x = t) && decide (Int32.ofInt c = v))
  | .goto o => decide (n = 3) && decide ((pc : Int) + o = (t : Int))
  | .ifCond _ o => decide (n = 3) && decide ((pc : Int) + o = (t : Int))
  | .if_icmp _ o => decide (n = 3) && decide ((pc : Int) + o = (t : Int))
  | .ifnull o => decide (n = 3) && decide ((pc : Int) + o = (t : Int))
  | .ifnonnull o => decide (n = 3) && decide ((pc : Int) + o = (t : Int))
  | .dconst d => decide (n = 1) && (decide (t = 0) && decide (d = 0))
  | .getfield _ => decide (n = 3)
  | .putfield _ => decide (n = 3)
  | .invokevirtual _ => decide (n = 3)
  | .invokestatic _ => decide (n = 3)
  | .new _ => decide (n = 3)
  | .tableswitch _ _ _ _ => true
  | _ => decide (n = 1)
/-- what a place of a switch says -/
def ax_Sw (cc : ByteArray) (q : Nat × List (Int32 × Nat) × Nat) : Prop := ∀ dflt lo hi offs len, decode cc q.1 = .ok (.tableswitch dflt lo hi offs, len) →
  (q.1 : Int) + dflt = (q.2.2 : Int) ∧ (∀ x : Int32, (∀ c ∈ q.2.1, x ≠ c.1) → x.toInt < lo ∨ hi < x.toInt) ∧ ∀ c ∈ q.2.1, ¬ c.1.toInt < lo ∧ ¬ hi < c.1.toInt ∧ ∃ off, offs[(c.1.toInt - lo).toNat]? = some off ∧ (q.1 : Int) + off = (c.2 : Int)
/-- the method's table of handlers -/
def ax_Hd (own : String) (cc : ByteArray) (nL : Nat) : List (Nat × Nat × Nat × Nat × Nat) → List ExceptionTableEntry → Prop
  | [], [] => True
  | (a, b, x, n, t) :: r, z :: zs => z.startPc = a ∧ z.endPc = b ∧ z.catchType ≠ 0 ∧ Cond.classLink own z.catchType (ax_en x) ∈ ax_T ∧ n < nL ∧ ((decode cc z.handlerPc = .ok (.astore n, 2) ∧ t = z.handlerPc + 2) ∨ (∃ k : Fin 4, decode cc z.handlerPc = .ok (.astore_n k, 1) ∧ k.val = n ∧ t = z.handlerPc + 1)) ∧ ax_Hd own cc nL r zs
  | _, _ => False
def ax_FldOk (own : String) (q : Nat × Nat × Nat) : Prop := ∃ C T N, vwCl[q.2.1]? = some (C, T, N) ∧ q.2.2 < N ∧ Cond.fieldLink own q.1 (T q.2.2).1 (T q.2.2).2.1 (T q.2.2).2.2.1 ∈ ax_T
/-- a call: mode 0 of an object's method, 1 static, 2 static of a nest mate, 3 static with a table -/
def ax_CallOk (l : Launch) (own : String) (fr lo : Nat) (q : Nat × ax_Cl) : Prop := ∃ (y : MethodName) (bytes : ByteArray) (maxL : Nat) (ret : Option FieldType) (hh : List (Nat × Nat × Nat × Nat)) (fr' lo' : Nat),
  fr' + 1 ≤ fr ∧ 8 + (maxL + 11) + lo' ≤ lo ∧ (parseMethodDescriptor y.desc).map (fun d => d.parameters.length) = some q.2.2.2.1 ∧ (y.cls ≠ "java/lang/invoke/MethodHandle" ∧ y.cls ≠ "java/lang/invoke/VarHandle") ∧ Cond.initialized y.cls ∈ ax_T ∧
  ((q.2.1 = 0 ∧ ax_Impl l y (.code y bytes maxL ret) fr' lo' q.2.2.2.2.2.1 q.2.2.2.2.2.2.1 q.2.2.2.2.2.2.2 ∧ Cond.code y bytes maxL ret ∈ ax_T ∧ Cond.methodLink own q.1 y ∈ ax_T ∧ Cond.instanceMethod y ∈ ax_T ∧ Cond.selects y.cls y y ∈ ax_T ∧ ∃ T N, vwCl[q.2.2.1]? = some (y.cls, T, N)) ∨
   (q.2.1 = 1 ∧ ax_Impl l y (.code y bytes maxL ret) fr' lo' q.2.2.2.2.2.1 q.2.2.2.2.2.2.1 q.2.2.2.2.2.2.2 ∧ Cond.code y bytes maxL ret ∈ ax_T ∧ Cond.methodLink own q.1 y ∈ ax_T ∧ Cond.static y ∈ ax_T) ∨
   (q.2.1 = 2 ∧ ax_Impl l y (.code y bytes maxL ret) fr' lo' q.2.2.2.2.2.1 q.2.2.2.2.2.2.1 q.2.2.2.2.2.2.2 ∧ Cond.code y bytes maxL ret ∈ ax_T ∧ (∃ host, (own, q.1, y, host) ∈ ax_nes) ∧ Cond.static y ∈ ax_T) ∨
   (q.2.1 = 3 ∧ ax_Impl l y (.codeWith y bytes maxL ret hh) fr' lo' q.2.2.2.2.2.1 q.2.2.2.2.2.2.1 q.2.2.2.2.2.2.2 ∧ Cond.codeWith y bytes maxL ret hh ∈ ax_T ∧ Cond.methodLink own q.1 y ∈ ax_T ∧ Cond.static y ∈ ax_T))
def ax_Ok (l : Launch) (own : String) (cc : ByteArray) (nL fr lo : Nat) (P : ax_P) (tbl : List ExceptionTableEntry) : Prop :=
  (∀ e ∈ ax_code P, ∀ q ∈ e.2, decode cc q.1 = .ok (q.2.1, q.2.2.1) ∧ ax_par own q.1 q.2.1 q.2.2.1 q.2.2.2.1 q.2.2.2.2 = true) ∧ (∀ q ∈ ax_flds P, ax_FldOk own q) ∧ (∀ q ∈ ax_calls P, ax_CallOk l own fr lo q) ∧ (∀ q ∈ ax_lcs P, Cond.constantLong own q.1 q.2 ∈ ax_T) ∧ (∀ q ∈ ax_sws P, ax_Sw cc q) ∧ ax_Hd own cc nL (ax_hand P) tbl
def ax_Rt (t : Nat) (i : Instr) (v : Option ax_V) : Prop := (t = 0 ∧ i = .return_ ∧ v = none) ∨ (i = .ireturn ∧ ∃ x, v = some (.inl (.int x)) ∧ (t = 1 ∨ (t = 2 ∧ (x = 0 ∨ x = 1)))) ∨ (t = 3 ∧ i = .lreturn ∧ ∃ x, v = some (.inl (.long x))) ∨ (t = 4 ∧ i = .dreturn ∧ ∃ x, v = some (.inl (.double x))) ∨ (t = 5 ∧ i = .areturn ∧ ∃ x, v = some x ∧ ax_isr x = true)
def ax_Pass (own : String) (args : Array Value) (s : State) (tbl : List ExceptionTableEntry) (pc e : Nat) : Prop := ∀ z ∈ tbl, covers z pc = false ∨ (z.catchType ≠ 0 ∧ ∃ nm : String, (Cond.classLink own z.catchType nm).before args s = true ∧ va_Nc (ax_en e) nm s)
variable {l : Launch} {p : Program} {e : Env} {R : Room} {s : State} {m : MethodId} {args : Array Value} {below : List Frame} {meth : Method} {c : Code} {base : Nat} {D : va_G} {cA : Nat → ClassId} {nL : Nat} {Q : State → Prop} {own : String} {cc : ByteArray} {P : ax_P}
def ax_Cx (p : Program) (R : Room) (s : State) (m : MethodId) (args : Array Value) (c : Code) (base : Nat) (D : va_G) (cA : Nat → ClassId) (nL fr lo : Nat) (own : String) (cc : ByteArray) (P : ax_P) : Prop :=
  p.tables.exec = Jvm.exec ∧ c.code = cc ∧ c.maxLocals = nL ∧ s.vm.findClass own = some m.cls ∧ (∀ w ∈ ax_T, w.before args s = true) ∧ va_K D vwCl (ax_tys cA) s ∧ ax_Z base s s.heap ∧ ax_Y ax_sts ax_nes s ∧ (∀ q, ax_scr P = some q → va_X q.1 q.2.1 q.2.2 s s.heap ∧ q.1 < s.heap.size ∧ q.1 < base ∧ q.2.1 < 2 ^ 31) ∧ ax_mc P ≤ R.cells ∧ ax_ms P ≤ R.slots ∧ fr ≤ R.frames ∧ lo ≤ R.locals
/-- a call, whatever it answers -/
theorem ax_callW {H : Heap} {locs : List Loc} {cells slots mc ms pc : Nat} {ls : Array Slot} {st0 rest : List Value} {a : Array Value} {rr : ax_Fin}
    (hr : vx_Run p l e R s m args below meth c H locs cells slots mc ms (F0 m pc ls st0) rest (ax_Qr base D cA rr a) (ax_Xr base D cA rr) (ax_A base)) (hS : va_S (ax_A base) s.heap H locs)
    (kx : ∀ (x : Nat) (f : ax_F) (g : ax_G) (H1 : Heap) (locs1 : List Loc) (q9 : Addr) (ce : Cell), rr = (.inr x, f, g) → va_P D vwCl (ax_ws base cA f g) H1 → va_S (ax_A base) s.heap H1 locs1 → H1[q9]? = some ce → ce.vm = .none → s.vm.findClass (ax_en x) = some ce.cls → vx_W p l e R s m args below meth c H1 locs1 (cells + mc) (slots + ms) Q (F0 m pc ls rest) q9)
    (kk : ∀ (v : Option ax_V) (f : ax_F) (g : ax_G) (H1 : Heap) (locs1 : List Loc), rr = (.inl v, f, g) → (∀ x, v = some x → ax_ok x) → va_P D vwCl (ax_ws base cA f g) H1 → va_S (ax_A base) s.heap H1 locs1 → W p l e R s m args below meth c H1 locs1 (cells + mc) (slots + ms) Q (F0 m (pc + 3) ls ((v.map (ax_c base)).toList ++ rest))) :
    W p l e R s m args below meth c H locs cells slots Q (F0 m pc ls st0) := by
  intro T hT X
  rcases hr T hT X with ⟨v, st₀, t, T', L, h0, X', hL, e1, e2, ⟨⟨v', f, g, hrr, hv, hok, hP⟩, hF⟩, st⟩ | ⟨q, st₀, t, T', L, E, ce, h0, X', hL, e1, e2, ⟨⟨x, f, g, hrr, hE, hP⟩, hF⟩, hce, hcv, hcl, st⟩
  · cases hv
    obtain ⟨k1, k2, k3⟩ := vx_keep h0 e1 hS (fun _ _ h => h) (fun _ h => h) hL hF
    obtain ⟨t2, a1, b1⟩ := kk v' f g T'.heap (locs ++ L) hrr hok (by rw [e1]; exact hP) k3 T' rfl X'
    exact ⟨t2, st t2 a1, b1⟩
  · subst hE
    obtain ⟨k1, k2, k3⟩ := vx_keep h0 e1 hS (fun _ _ h => h) (fun _ h => h) hL hF
    obtain ⟨t2, a1, b1⟩ := kx x f g T'.heap (locs ++ L) q ce hrr (by rw [e1]; exact hP) k3 (by rw [e1]; exact hce) hcv hcl T' rfl X'
    exact ⟨t2, st.trans a1, b1⟩
theorem ax_en_ne {x y : Nat} (h : ax_xd x y = true) : ax_en y ≠ ax_en x := by
  unfold ax_xd at h
  simp only [Bool.and_eq_true, Bool.not_eq_true'] at h
  obtain ⟨⟨⟨h1, h2⟩, h3, h4⟩, h5⟩ := h
  have a1 := Nat.le_of_ble_eq_true h1
  have a2 := Nat.le_of_ble_eq_true h2
  have a3 := Nat.le_of_ble_eq_true h3
  have a4 := Nat.le_of_ble_eq_true h4
  have hx : x = 1 ∨ x = 2 ∨ x = 3 := by omega
  have hy : y = 1 ∨ y = 2 ∨ y = 3 := by omega
  rcases hx with rfl | rfl | rfl <;> rcases hy with rfl | rfl | rfl <;> first | (cases h5; done) | decide
/-- what is thrown is caught here, or goes out -/
theorem ax_thrW {k : ax_K} {r : ax_Fin} {fr lo : Nat} (C : ax_Cx p R s m args c base D cA nL fr lo own cc P)
    (hk : ∀ pc L st f g cs ss, k pc L st f g cs ss = some r → ax_At l p e R s m args below meth c base D cA nL (ax_mc P) (ax_ms P) Q pc L st f g cs ss)
    {x : Nat} {f : ax_F} {g : ax_G} {H : Heap} {locs : List Loc} {q9 : Addr} {ce : Cell} {pc : Nat} {L : ax_L} {ls : Array Slot} {rest : List Value} {cs ss : Nat}
    (hP : va_P D vwCl (ax_ws base cA f g) H) (hS : va_S (ax_A base) s.heap H locs) (hq : H[q9]? = some ce) (hv : ce.vm = .none) (hcl : s.vm.findClass (ax_en x) = some ce.cls) (hL : ax_Ls base nL L ls) (hoL : ∀ i v, ax_nth L i = some v → ax_ok v) (hc : cs ≤ ax_mc P) (hs : ss ≤ ax_ms P)
    (hout : r = (.inr x, f, g) → ax_Pass own args s c.exceptionTable.toList pc x → vx_W p l e R s m args below meth c H locs cs ss Q (F0 m pc ls rest) q9) :
    ∀ (hh : List (Nat × Nat × Nat × Nat × Nat)) (pre tbl : List ExceptionTableEntry), c.exceptionTable.toList = pre ++ tbl → ax_Pass own args s pre pc x → ax_Hd own cc nL hh tbl → ax_thr hh pc x L f g cs ss k = some r → vx_W p l e R s m args below meth c H locs cs ss Q (F0 m pc ls rest) q9 := by
  obtain ⟨hx, hb, hml, hown, hts, hK, hZ, hY, hscr, hmc, hms, hfr, hlo⟩ := C
  intro hh
  induction hh with
  | nil =>
    intro pre tbl hsp hpass hd h
    cases tbl with
    | cons z zs => exact absurd hd (fun h => h)
    | nil =>
      rw [List.append_nil] at hsp
      have h' : some (.inr x, f, g) = some r := h
      cases h'
      exact hout rfl (by rw [hsp]; exact hpass)
  | cons q hh ih =>
    obtain ⟨a, b, x', n, t⟩ := q
    intro pre tbl hsp hpass hd h
    cases tbl with
    | nil => exact absurd hd (fun h => h)
    | cons z zs =>
      obtain ⟨h1, h2, h3, h4, h5, h6, h7⟩ := hd
      have h' : (bif Nat.ble a pc && Nat.blt pc b then (bif Nat.beq x' x then k t (ax_kl L n) [] f g cs ss else bif ax_xd x' x then ax_thr hh pc x L f g cs ss k else none) else ax_thr hh pc x L f g cs ss k) = some r := h
      have hcov : covers z pc = (Nat.ble a pc && Nat.blt pc b) := by
        show (decide (z.startPc ≤ pc) && decide (pc < z.endPc)) = _
        rw [h1, h2]
        congr 1
        · by_cases q : a ≤ pc
          · rw [decide_eq_true q]; exact (Nat.ble_eq_true_of_le q).symm
          · rw [decide_eq_false q]
            cases w : Nat.ble a pc with
            | true => exact absurd (Nat.le_of_ble_eq_true w) q
            | false => rfl
        · by_cases q : pc < b
          · rw [decide_eq_true q]; exact (Nat.ble_eq_true_of_le q).symm
          · rw [decide_eq_false q]
            cases w : Nat.blt pc b with
            | true => exact absurd (Nat.le_of_ble_eq_true w) q
            | false => rfl
      cases hw : (Nat.ble a pc && Nat.blt pc b) with
      | false =>
        rw [hw] at h' hcov
        refine ih (pre ++ [z]) zs (by rw [hsp, List.append_assoc]; rfl) (fun w hw2 => ?_) h7 h'
        rcases List.mem_append.mp hw2 with hw2 | hw2
        · exact hpass w hw2
        · rw [List.mem_singleton] at hw2
          subst hw2
          exact Or.inl hcov
      | true =>
        rw [hw] at h' hcov
        have h' : (bif Nat.beq x' x then k t (ax_kl L n) [] f g cs ss else bif ax_xd x' x then ax_thr hh pc x L f g cs ss k else none) = some r := h'
        cases hx2 : Nat.beq x' x with
        | true =>
          rw [hx2] at h'
          have e1 := Nat.eq_of_beq_eq_true hx2
          subst e1
          refine vx_catch (E := ax_en x') (name := ax_en x') hown pre z zs hsp hpass hcov h3 (hts _ h4) ((hY.2.2.1 _ _ (ax_cast x')).use rfl) hq hv hcl ?_
          have h8 : ∀ ls', lv_has ls' nL ((n, Value.ref q9) :: (ax_lv base L).filter (fun q => !(q.1 == n) && !(q.1 + 1 == n && q.2.category == 2))) → W p l e R s m args below meth c H locs cs ss Q (F0 m t ls' []) := fun ls' hls' =>
            hk _ _ _ _ _ _ _ h' H locs ls' hP hS (ax_Ls_kl hL.1 hls') (fun v hv => by cases hv) (fun i v hv => by
              rw [ax_nth_kl] at hv
              by_cases q1 : i = n
              · rw [if_pos q1] at hv; cases hv
              · rw [if_neg q1] at hv
                by_cases q2 : i + 1 = n
                · rw [if_pos q2] at hv
                  exact hoL i v (ax_nl_i hv).1
                · rw [if_neg q2] at hv
                  exact hoL i v hv) hc hs
          rcases h6 with ⟨h6, rfl⟩ | ⟨k4, h6, hk4, rfl⟩
          · exact lv_astore hx hb h6 hL.has h5 rfl h8
          · exact lv_astore_n hx hb h6 hk4 hL.has h5 rfl h8
        | false =>
          rw [hx2] at h'
          have h' : (bif ax_xd x' x then ax_thr hh pc x L f g cs ss k else none) = some r := h'
          cases hx3 : ax_xd x' x with
          | false => rw [hx3] at h'; cases h'
          | true =>
            rw [hx3] at h'
            refine ih (pre ++ [z]) zs (by rw [hsp, List.append_assoc]; rfl) (fun w hw2 => ?_) h7 h'
            rcases List.mem_append.mp hw2 with hw2 | hw2
            · exact hpass w hw2
            · rw [List.mem_singleton] at hw2
              subst hw2
              exact Or.inr ⟨h3, ax_en x', hts _ h4, hY.2.2.2.1 x x' (ax_en_ne hx3)⟩
end AXU
