/-! the constructors: what is known, and where a thing is made -/
section BXB
def bx_nes : List (String × Nat × MethodName × String) := [(RX0, 23, yX6_init, RX9), (RX0, 24, yX2_init, RX9), (RX5, 21, yX4_init, RX9), (RX9, 34, yX1_init, RX9), (RX9, 44, yX3_init, RX9), (RX3, 17, yX8_init, RX9)]
def bx_ec (t : Nat) : String := match t with
  | 3 => RX6
  | 4 => RX2
  | 5 => RX4
  | _ => RX1
def bx_Y (U : State) : Prop := (∀ q ∈ bx_nes, va_Nw (.methodLinkNest q.1 q.2.1 q.2.2.1 q.2.2.2) U) ∧ ∀ t, va_AO (bx_ec t) U
theorem bx_Y.warm {s U : State} (hW : s.WarmedH U.vm) (h : bx_Y s) : bx_Y U := ⟨fun q hq => (h.1 q hq).warmM hW, fun t => (h.2 t).moved hW.alike⟩
theorem bx_Y.same {s U : State} (hv : U.vm = s.vm) (h : bx_Y s) : bx_Y U := ⟨fun q hq => (h.1 q hq).same rfl hv.symm, fun t => (h.2 t).moved (by rw [hv]; exact Vm.Alike.refl _)⟩
def bx_Wd (base : Nat) (D : va_G) (cA : Nat → ClassId) (w : List bx_C) (U : State) : Prop := U.heap.size = base + w.length ∧ va_P D vwCl (bx_w base cA w) U.heap ∧ va_K D vwCl (ax_tys cA) U ∧ bx_Y U
theorem bx_blind (vs : List Value) (base D cA w) : FrameBlind (va_Pc vs (bx_Wd base D cA w)) := by
  intro a U g mk h
  obtain ⟨h0, h1, h2, h3, h4⟩ := h
  exact ⟨h0, h1, h2, va_K.moved (u := U) (U := U.calling g mk a) (Vm.Alike.refl U.vm) h3, h4.same rfl⟩
def bx_Qr (base : Nat) (D : va_G) (cA : Nat → ClassId) (w : List bx_C) : Array Value → State → Outcome → State → Prop := fun _ st o t => (o = .returned none ∧ va_P D vwCl (bx_w base cA w) t.heap) ∧ va_F (ax_A base) st t
/-- a constructor does what its meaning says -/
def bx_Impl (l : Launch) (y : MethodName) (cw : Cond) (fr lo : Nat) (sem : bx_M) (mc ms : Nat) : Prop := ∀ (base : Nat) (D : va_G) (cA : Nat → ClassId) (as : List ax_V) (w w' : List bx_C), sem as w = some w' →
  Met l y (cw :: ax_T) { frames := fr, cells := mc, slots := ms, locals := lo } (va_Pc (as.map (ax_c base)) (bx_Wd base D cA w)) (bx_Qr base D cA w') mc ms (ax_A base)
def bx_par (own : String) (pc : Nat) (i : Instr) (n t : Nat) (v : Int32) : Bool := match i with
  | .newarray a => decide (n = 2) && (match a, t with | .int, 0 => true | .boolean, 1 => true | .long, 2 => true | _, _ => false)
  | .anewarray _ => decide (n = 3)
  | .invokespecial _ => decide (n = 3)
  | i => ax_par own pc i n t v
/-- a field of references: it is final -/
def bx_rt (t : FieldType) : Bool := match t with
  | .object _ => true
  | .array _ => true
  | _ => false
def bx_F3 (ci : Nat) (T : u_T) (N : Nat) : Prop := ∀ k, k < N → ax_ft ci k = 3 → (T k).2.2.2 = true ∧ (parseFieldDescriptor (T k).2.2.1).map bx_rt = some true
theorem bx_f3 {ci : Nat} {C : String} {T : u_T} {N : Nat} (h : vwCl[ci]? = some (C, T, N)) : bx_F3 ci T N := by
  match ci, h with
  | 0, h => cases h; unfold bx_F3; decide +kernel
  | 1, h => cases h; unfold bx_F3; decide +kernel
  | 2, h => cases h; unfold bx_F3; decide +kernel
  | 3, h => cases h; unfold bx_F3; decide +kernel
  | 4, h => cases h; unfold bx_F3; decide +kernel
  | 5, h => cases h; unfold bx_F3; decide +kernel
  | 6, h => cases h; unfold bx_F3; decide +kernel
  | 7, h => cases h; unfold bx_F3; decide +kernel
  | 8, h => cases h; unfold bx_F3; decide +kernel
  | 9, h => cases h; unfold bx_F3; decide +kernel
  | 10, h => cases h; unfold bx_F3; decide +kernel
  | n + 11, h => cases h
theorem bx_rt_ref {t : FieldType} (h : bx_rt t = true) (a : Nat) : narrow t (.ref a) = .ref a ∧ fits t (.ref a) = true ∧ defaultValue t = .null := by
  cases t <;> first | exact ⟨rfl, rfl, rfl⟩ | cases h
theorem wo_i : Cond.instanceMethod objectInit ∈ ax_T := ax_inT (by decide +kernel)
theorem wo_c : Cond.code objectInit ⟨#[0xb1]⟩ 1 none ∈ ax_T := ax_inT (by decide +kernel)
theorem wa_0 : Cond.arrayClass .int ∈ ax_T := ax_inT (by decide +kernel)
theorem wa_1 : Cond.arrayClass .boolean ∈ ax_T := ax_inT (by decide +kernel)
theorem wa_2 : Cond.arrayClass .long ∈ ax_T := ax_inT (by decide +kernel)
def bx_CallOk (l : Launch) (own : String) (fr lo : Nat) (q : Nat × Nat × Nat × bx_M × Nat × Nat) : Prop :=
  (q.2.2.1 = 0 ∧ q.2.2.2 = ((fun _ w => some w), 0, 0) ∧ Cond.methodLink own q.1 objectInit ∈ ax_T) ∨
  ∃ (y : MethodName) (bytes : ByteArray) (maxL : Nat) (fr' lo' : Nat), fr' + 1 ≤ fr ∧ 8 + (maxL + 11) + lo' ≤ lo ∧ (parseMethodDescriptor y.desc).map (fun d => d.parameters.length) = some q.2.2.1 ∧ (y.cls ≠ "java/lang/invoke/MethodHandle" ∧ y.cls ≠ "java/lang/invoke/VarHandle") ∧ Cond.initialized y.cls ∈ ax_T ∧ y.name = "<init>" ∧
    bx_Impl l y (.code y bytes maxL none) fr' lo' q.2.2.2.1 q.2.2.2.2.1 q.2.2.2.2.2 ∧ Cond.code y bytes maxL none ∈ ax_T ∧ Cond.instanceMethod y ∈ ax_T ∧ (Cond.methodLink own q.1 y ∈ ax_T ∨ ∃ host, (own, q.1, y, host) ∈ bx_nes)
def bx_FlOk (own : String) (q : Nat × Nat × Nat) : Prop := ax_FldOk own q ∧ ∀ C T N, vwCl[q.2.1]? = some (C, T, N) → (T q.2.2).1 = own
def bx_NwOk (own : String) (q : Nat × Nat) : Prop := ∃ C T N, vwCl[q.2]? = some (C, T, N) ∧ Cond.classLink own q.1 C ∈ ax_T ∧ Cond.instantiable C N ∈ ax_T ∧ Cond.initialized C ∈ ax_T
def bx_RwOk (own : String) (q : Nat × Nat) : Prop := 3 ≤ q.2 ∧ q.2 ≤ 6 ∧ Cond.classLink own q.1 (bx_ec q.2) ∈ ax_T
def bx_Ok (l : Launch) (own : String) (cc : ByteArray) (fr lo : Nat) (P : bx_P) : Prop :=
  (∀ e ∈ bx_code P, ∀ q ∈ e.2, decode cc q.1 = .ok (q.2.1, q.2.2.1) ∧ bx_par own q.1 q.2.1 q.2.2.1 q.2.2.2.1 q.2.2.2.2 = true) ∧ (∀ q ∈ bx_fl P, bx_FlOk own q) ∧ (∀ q ∈ bx_nw P, bx_NwOk own q) ∧ (∀ q ∈ bx_rw P, bx_RwOk own q) ∧ ∀ q ∈ bx_cl P, bx_CallOk l own fr lo q
variable {l : Launch} {p : Program} {e : Env} {R : Room} {s : State} {m : MethodId} {args : Array Value} {below : List Frame} {meth : Method} {c : Code} {base : Nat} {D : va_G} {cA : Nat → ClassId} {nL : Nat} {Q : State → Prop} {own : String} {cc : ByteArray} {P : bx_P}
def bx_Cx (p : Program) (R : Room) (s : State) (m : MethodId) (args : Array Value) (meth : Method) (c : Code) (base : Nat) (D : va_G) (cA : Nat → ClassId) (nL fr lo : Nat) (own : String) (cc : ByteArray) (P : bx_P) : Prop :=
  p.tables.exec = Jvm.exec ∧ c.code = cc ∧ c.maxLocals = nL ∧ s.vm.findClass own = some m.cls ∧ (∀ w ∈ ax_T, w.before args s = true) ∧ va_K D vwCl (ax_tys cA) s ∧ bx_Y s ∧ base ≤ s.heap.size ∧ (bx_fl P = [] ∨ meth.name = "<init>") ∧ bx_mc P ≤ R.cells ∧ bx_ms P ≤ R.slots ∧ fr ≤ R.frames ∧ lo ≤ R.locals ∧ 1 ≤ fr ∧ 20 ≤ lo
def bx_At (l : Launch) (p : Program) (e : Env) (R : Room) (s : State) (m : MethodId) (args : Array Value) (below : List Frame) (meth : Method) (c : Code) (base : Nat) (D : va_G) (cA : Nat → ClassId) (nL : Nat) (Q : State → Prop) (x : bx_S) : Prop :=
  ∀ (H : Heap) (locs : List Loc) (ls : Array Slot), va_P D vwCl (bx_w base cA x.2.2.2.1) H → va_S (ax_A base) s.heap H locs → ax_Ls base nL x.2.1 ls → s.heap.size + x.2.2.2.2.1 = base + x.2.2.2.1.length →
    W p l e R s m args below meth c H locs x.2.2.2.2.1 x.2.2.2.2.2 Q (F0 m x.1 ls (x.2.2.1.map (ax_c base)))
theorem bx_sz {H : Heap} {locs : List Loc} {cells slots : Nat} {g : JFrame} (h : H.size ≤ s.heap.size + cells → W p l e R s m args below meth c H locs cells slots Q g) : W p l e R s m args below meth c H locs cells slots Q g := fun T hT X => h (by rw [← hT]; exact X.heapSize) T hT X
theorem bx_size {w : List bx_C} {H : Heap} {locs : List Loc} {cs : Nat} (hP : va_P D vwCl (bx_w base cA w) H) (hS : va_S (ax_A base) s.heap H locs) (hb0 : base ≤ s.heap.size) (hcs : s.heap.size + cs = base + w.length) (hz : H.size ≤ s.heap.size + cs) : H.size = base + w.length := by
  have h1 := hS.1
  rcases Nat.eq_zero_or_pos w.length with h0 | h0
  · omega
  · have hlt : w.length - 1 < w.length := by omega
    have h2 := (hP (w.length - 1) _ (bx_w_get (List.getElem?_eq_getElem hlt))).lt
    have h3 : base + (w.length - 1) < H.size := h2
    omega
/-- a thing that was made stands behind the others -/
theorem bx_made {w : List bx_C} {c0 : bx_C} {q0 : Nat × Nat} {q : Nat} {H1 : Heap} {locs : List Loc} {ls : Array Slot} {pc cs ss : Nat} {L : ax_L} {r : List ax_V} (hk : bx_At l p e R s m args below meth c base D cA nL Q (pc, L, .inr q0 :: r, w ++ [c0], cs + 1, ss)) (hq0 : ax_all[w.length]? = some q0) (hP1 : va_P D vwCl (bx_w base cA w ++ [(q, bx_c base cA c0)]) H1) (hD1 : va_D (ax_A base) (bx_w base cA w ++ [(q, bx_c base cA c0)])) (hS1 : va_S (ax_A base) s.heap H1 locs) (hL : ax_Ls base nL L ls) (hcs : s.heap.size + cs = base + w.length) :
    W p l e R s m args below meth c H1 locs (cs + 1) ss Q (F0 m pc ls (.ref q :: r.map (ax_c base))) := by
  refine bx_sz (fun hz => ?_)
  have hlen : (bx_w base cA w).length = w.length := by unfold bx_w; rw [List.length_mapIdx]
  have hat : (bx_w base cA w ++ [(q, bx_c base cA c0)])[w.length]? = some (q, bx_c base cA c0) := by
    rw [List.getElem?_append_right (by omega), hlen, Nat.sub_self]
    rfl
  have h1 : q < H1.size := (hP1 _ _ hat).lt
  have h2 : base ≤ q := hD1.2 _ _ hat
  have hq : q = base + w.length := by
    rcases Nat.lt_or_ge q (base + w.length) with h3 | h3
    · exfalso
      have hj : q - base < w.length := by omega
      have ha : (bx_w base cA w ++ [(q, bx_c base cA c0)])[q - base]? = some (base + (q - base), bx_c base cA w[q - base]) := by
        rw [List.getElem?_append_left (by omega)]
        exact bx_w_get (List.getElem?_eq_getElem hj)
      have := hD1.1 _ _ _ _ ha hat (show base + (q - base) = q by omega)
      omega
    · omega
  subst hq
  have hi : w.length < 126 := by
    have := (List.getElem?_eq_some_iff.mp hq0).1
    rw [ax_all_len] at this
    exact this
  have he : ax_ad base q0 = base + w.length := by
    unfold ax_ad
    rw [ax_all_idx _ hi q0 hq0]
  have hkk := hk H1 locs ls (by show va_P D vwCl (bx_w base cA (w ++ [c0])) H1; rw [bx_w_app]; exact hP1) hS1 hL (by show s.heap.size + (cs + 1) = base + (w ++ [c0]).length; rw [List.length_append]; show _ = base + (w.length + 1); omega)
  rw [← he]
  exact hkk
end BXB
