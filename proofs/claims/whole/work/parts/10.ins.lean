/-! soundness, instruction by instruction -/
section AXI
variable {l : Launch} {p : Program} {e : Env} {R : Room} {s : State} {m : MethodId} {args : Array Value} {below : List Frame} {meth : Method} {c : Code} {base : Nat} {D : va_G} {cA : Nat → ClassId} {nL : Nat} {Q : State → Prop} {own : String} {cc : ByteArray} {P : ax_P}
theorem ax_ok_s1 {L : ax_L} {t : Nat} {w : ax_V} (hw : ax_ok w) (h : ∀ i v, ax_nth L i = some v → ax_ok v) : ∀ i v, ax_nth (ax_s1 L t w) i = some v → ax_ok v := by
  intro i v hv
  rw [ax_nth_s1] at hv
  by_cases e : i = t
  · rw [if_pos e] at hv
    by_cases e2 : t < L.length
    · rw [if_pos e2] at hv; cases hv; exact hw
    · rw [if_neg e2] at hv; cases hv
  · rw [if_neg e] at hv
    by_cases e2 : i + 1 = t
    · rw [if_pos e2] at hv; exact h i v (ax_nl_i hv).1
    · rw [if_neg e2] at hv; exact h i v hv
theorem ax_ok_s2 {L : ax_L} {t : Nat} {w : ax_V} (hw : ax_ok w) (h : ∀ i v, ax_nth L i = some v → ax_ok v) : ∀ i v, ax_nth (ax_s2 L t w) i = some v → ax_ok v := by
  intro i v hv
  rw [ax_nth_s2] at hv
  by_cases e : i = t
  · rw [if_pos e] at hv
    by_cases e2 : t < L.length
    · rw [if_pos e2] at hv; cases hv; exact hw
    · rw [if_neg e2] at hv; cases hv
  · rw [if_neg e] at hv
    by_cases e3 : i = t + 1
    · rw [if_pos e3] at hv; cases hv
    rw [if_neg e3] at hv
    by_cases e2 : i + 1 = t
    · rw [if_pos e2] at hv; exact h i v (ax_nl_i hv).1
    · rw [if_neg e2] at hv; exact h i v hv
theorem ax_ft3 (ci j : Nat) (h : ax_ft ci j ≠ 3) : ax_ft ci j = 0 ∨ ax_ft ci j = 1 ∨ ax_ft ci j = 2 := by
  unfold ax_ft at h ⊢
  split
  all_goals first
    | (split <;> first | exact Or.inl rfl | exact Or.inr (Or.inl rfl) | exact Or.inr (Or.inr rfl) | (exfalso; simp at h; done))
    | (revert h; cases Nat.beq j 40 <;> cases Nat.blt j 9 <;> cases Nat.beq j 28 <;> cases Nat.blt j 30 <;> cases Nat.blt j 34 <;> simp)
    | exact Or.inl rfl
theorem ax_len252 {a t n : Nat} (h : ax_ka a = some (t, n)) : n < 2 ^ 31 := Nat.lt_of_le_of_lt (ax_ka_t h).2 (by decide)
set_option maxHeartbeats 8000000 in
theorem ax_sound_ins {k : ax_K} {r : ax_Fin} {fr lo : Nat} (C : ax_Cx p R s m args c base D cA nL fr lo own cc P) (O : ax_Ok l own cc nL fr lo P c.exceptionTable.toList)
    (hk : ∀ pc L st f g cs ss, k pc L st f g cs ss = some r → ax_At l p e R s m args below meth c base D cA nL (ax_mc P) (ax_ms P) Q pc L st f g cs ss)
    (hret : ∀ (v : Option ax_V) (f : ax_F) (g : ax_G) (pc : Nat) (i : Instr) (H : Heap) (locs : List Loc) (ls : Array Slot) (cs ss : Nat), r = (.inl v, f, g) → decode cc pc = .ok (i, 1) → ax_Rt (ax_ret P) i v → va_P D vwCl (ax_ws base cA f g) H → va_S (ax_A base) s.heap H locs → (∀ x, v = some x → ax_ok x) → cs ≤ ax_mc P → ss ≤ ax_ms P → W p l e R s m args below meth c H locs cs ss Q (F0 m pc ls ((v.map (ax_c base)).toList)))
    (hout : ∀ (x : Nat) (f : ax_F) (g : ax_G) (pc : Nat) (H : Heap) (locs : List Loc) (ls : Array Slot) (rest : List Value) (cs ss : Nat) (q9 : Addr) (ce : Cell), r = (.inr x, f, g) → ax_Pass own args s c.exceptionTable.toList pc x → va_P D vwCl (ax_ws base cA f g) H → va_S (ax_A base) s.heap H locs → H[q9]? = some ce → ce.vm = .none → s.vm.findClass (ax_en x) = some ce.cls → cs ≤ ax_mc P → ss ≤ ax_ms P → vx_W p l e R s m args below meth c H locs cs ss Q (F0 m pc ls rest) q9)
    (hnew : ∀ (x : Nat) (f : ax_F) (g : ax_G) (pc : Nat) (H : Heap) (locs : List Loc) (ls : Array Slot) (st : List ax_V) (cs ss : Nat), r = (.inr x, f, g) → (pc, x) ∈ ax_excs P → c.exceptionTable.toList = [] → va_P D vwCl (ax_ws base cA f g) H → va_S (ax_A base) s.heap H locs → ls.size = nL → ax_wd st ≤ 8 → cs + 1 ≤ ax_mc P → ss + 6 ≤ ax_ms P → W p l e R s m args below meth c H locs cs ss Q (F0 m pc ls (st.map (ax_c base))))
    {pc n t : Nat} {v : Int32} {i : Instr} {L : ax_L} {st : List ax_V} {f : ax_F} {g : ax_G} {cs ss : Nat} (hdec : decode cc pc = .ok (i, n)) (hpar : ax_par own pc i n t v = true) (h : ax_ins P pc n t v i L st f g cs ss k = some r) : ax_At l p e R s m args below meth c base D cA nL (ax_mc P) (ax_ms P) Q pc L st f g cs ss := by
  have C0 := C
  obtain ⟨hx, hb, hml, hown, hts, hK, hZ, hY, hscr, hmc, hms, hfr, hlo⟩ := C
  obtain ⟨Oc, Of, Ol, Ox, Os, Oh⟩ := O
  cases i
  case iconst x =>
    simp only [ax_par, Bool.and_eq_true, decide_eq_true_eq] at hpar
    obtain ⟨rfl, hv⟩ := hpar
    intro H locs ls hP hS hL ho hoL hc hs
    exact lv_iconst hx hb hdec hv (hk _ _ _ _ _ _ _ h H locs ls hP hS hL (ax_okc trivial ho) hoL hc hs)
  case bipush x =>
    simp only [ax_par, Bool.and_eq_true, decide_eq_true_eq] at hpar
    obtain ⟨rfl, hv⟩ := hpar
    intro H locs ls hP hS hL ho hoL hc hs
    exact lv_bipush hx hb hdec hv (hk _ _ _ _ _ _ _ h H locs ls hP hS hL (ax_okc trivial ho) hoL hc hs)
  case sipush x =>
    simp only [ax_par, Bool.and_eq_true, decide_eq_true_eq] at hpar
    obtain ⟨rfl, hv⟩ := hpar
    intro H locs ls hP hS hL ho hoL hc hs
    exact lv_sipush hx hb hdec hv (hk _ _ _ _ _ _ _ h H locs ls hP hS hL (ax_okc trivial ho) hoL hc hs)
  case ldc x =>
    simp only [ax_par, Bool.and_eq_true, decide_eq_true_eq] at hpar
    obtain ⟨rfl, hv⟩ := hpar
    intro H locs ls hP hS hL ho hoL hc hs
    exact W.ldc hx hb hown (hts _ (ax_inT hv)) rfl hdec (hk _ _ _ _ _ _ _ h H locs ls hP hS hL (ax_okc trivial ho) hoL hc hs)
  case ldc_w x =>
    simp only [ax_par, Bool.and_eq_true, decide_eq_true_eq] at hpar
    obtain ⟨rfl, hv⟩ := hpar
    intro H locs ls hP hS hL ho hoL hc hs
    exact lv_ldcw hx hb hown (hts _ (ax_inT hv)) hdec (hk _ _ _ _ _ _ _ h H locs ls hP hS hL (ax_okc trivial ho) hoL hc hs)
  case ldc2_w x =>
    simp only [ax_par, decide_eq_true_eq] at hpar
    subst hpar
    obtain ⟨y, hy, h_1⟩ := ax_ob_i h
    intro H locs ls hP hS hL ho hoL hc hs
    exact W.ldc2 hx hb hown (hts _ (Ox _ (ax_lk_mem _ hy))) rfl hdec (hk _ _ _ _ _ _ _ h_1 H locs ls hP hS hL (ax_okc trivial ho) hoL hc hs)
  case aconst_null =>
    have hn : n = 1 := of_decide_eq_true hpar
    subst hn
    intro H locs ls hP hS hL ho hoL hc hs
    exact lv_null hx hb hdec (hk _ _ _ _ _ _ _ h H locs ls hP hS hL (ax_okc trivial ho) hoL hc hs)
  case dconst d =>
    simp only [ax_par, Bool.and_eq_true, decide_eq_true_eq] at hpar
    obtain ⟨rfl, rfl, rfl⟩ := hpar
    intro H locs ls hP hS hL ho hoL hc hs
    exact lv_dconst0 hx hb hdec (hk _ _ _ _ _ _ _ h H locs ls hP hS hL (ax_okc trivial ho) hoL hc hs)
  case iload x =>
    simp only [ax_par, Bool.and_eq_true, decide_eq_true_eq] at hpar
    obtain ⟨rfl, rfl⟩ := hpar
    obtain ⟨y, hx1, h_1⟩ := ax_oi_i h
    intro H locs ls hP hS hL ho hoL hc hs
    exact lv_iload hx hb hdec (hL.2.2.2 _ _ hx1) (hk _ _ _ _ _ _ _ h_1 H locs ls hP hS hL (ax_okc trivial ho) hoL hc hs)
  case iload_n x =>
    simp only [ax_par, Bool.and_eq_true, decide_eq_true_eq] at hpar
    obtain ⟨rfl, ht⟩ := hpar
    obtain ⟨y, hx1, h_1⟩ := ax_oi_i h
    intro H locs ls hP hS hL ho hoL hc hs
    exact lv_iload_n hx hb hdec ht (hL.2.2.2 _ _ hx1) (hk _ _ _ _ _ _ _ h_1 H locs ls hP hS hL (ax_okc trivial ho) hoL hc hs)
  case lload_n x =>
    simp only [ax_par, Bool.and_eq_true, decide_eq_true_eq] at hpar
    obtain ⟨rfl, ht⟩ := hpar
    obtain ⟨y, hx1, h_1⟩ := ax_ol_i h
    intro H locs ls hP hS hL ho hoL hc hs
    exact lv_lload_n hx hb hdec ht (hL.2.2.2 _ _ hx1) (hk _ _ _ _ _ _ _ h_1 H locs ls hP hS hL (ax_okc trivial ho) hoL hc hs)
  case dload x =>
    simp only [ax_par, Bool.and_eq_true, decide_eq_true_eq] at hpar
    obtain ⟨rfl, rfl⟩ := hpar
    obtain ⟨y, hx1, h_1⟩ := ax_od_i h
    intro H locs ls hP hS hL ho hoL hc hs
    exact lv_dload hx hb hdec (hL.2.2.2 _ _ hx1) (hk _ _ _ _ _ _ _ h_1 H locs ls hP hS hL (ax_okc trivial ho) hoL hc hs)
  case dload_n x =>
    simp only [ax_par, Bool.and_eq_true, decide_eq_true_eq] at hpar
    obtain ⟨rfl, ht⟩ := hpar
    obtain ⟨y, hx1, h_1⟩ := ax_od_i h
    intro H locs ls hP hS hL ho hoL hc hs
    exact lv_dload_n hx hb hdec ht (hL.2.2.2 _ _ hx1) (hk _ _ _ _ _ _ _ h_1 H locs ls hP hS hL (ax_okc trivial ho) hoL hc hs)
  case aload x =>
    simp only [ax_par, Bool.and_eq_true, decide_eq_true_eq] at hpar
    obtain ⟨rfl, rfl⟩ := hpar
    obtain ⟨y, hx1, h_1⟩ := ax_ob_i h
    obtain ⟨hy, h_2⟩ := ax_gd_i h_1
    intro H locs ls hP hS hL ho hoL hc hs
    have hkk := hk _ _ _ _ _ _ _ h_2 H locs ls hP hS hL (ax_okc (hoL _ _ hx1) ho) hoL hc hs
    have hl1 := hL.2.2.2 _ _ hx1
    rcases ax_isr_i hy with rfl | ⟨b, rfl⟩ | ⟨q, rfl⟩
    · exact lv_aloadN hx hb hdec hl1 hkk
    · exact lv_aload hx hb hdec hl1 hkk
    · exact lv_aload hx hb hdec hl1 hkk
  case aload_n x =>
    simp only [ax_par, Bool.and_eq_true, decide_eq_true_eq] at hpar
    obtain ⟨rfl, ht⟩ := hpar
    obtain ⟨y, hx1, h_1⟩ := ax_ob_i h
    obtain ⟨hy, h_2⟩ := ax_gd_i h_1
    intro H locs ls hP hS hL ho hoL hc hs
    have hkk := hk _ _ _ _ _ _ _ h_2 H locs ls hP hS hL (ax_okc (hoL _ _ hx1) ho) hoL hc hs
    have hl1 := hL.2.2.2 _ _ hx1
    rcases ax_isr_i hy with rfl | ⟨b, rfl⟩ | ⟨q, rfl⟩
    · exact lv_aload_nN hx hb hdec ht hl1 hkk
    · exact lv_aload_n hx hb hdec ht hl1 hkk
    · exact lv_aload_n hx hb hdec ht hl1 hkk
  case istore x =>
    simp only [ax_par, Bool.and_eq_true, decide_eq_true_eq] at hpar
    obtain ⟨rfl, rfl⟩ := hpar
    obtain ⟨y, rt, rfl, h_1⟩ := ax_i1_i h
    obtain ⟨hlt, h_2⟩ := ax_gd_i h_1
    intro H locs ls hP hS hL ho hoL hc hs
    exact lv_istore hx hb hdec hL.has (by rw [← hL.1]; exact Nat.le_of_ble_eq_true hlt) rfl (fun ls' hls' => hk _ _ _ _ _ _ _ h_2 H locs ls' hP hS (ax_Ls_s1 hL.1 hls') (ax_okt ho) (ax_ok_s1 trivial hoL) hc hs)
  case istore_n x =>
    simp only [ax_par, Bool.and_eq_true, decide_eq_true_eq] at hpar
    obtain ⟨rfl, ht⟩ := hpar
    obtain ⟨y, rt, rfl, h_1⟩ := ax_i1_i h
    obtain ⟨hlt, h_2⟩ := ax_gd_i h_1
    intro H locs ls hP hS hL ho hoL hc hs
    exact lv_istore_n hx hb hdec ht hL.has (by rw [← hL.1]; exact Nat.le_of_ble_eq_true hlt) rfl (fun ls' hls' => hk _ _ _ _ _ _ _ h_2 H locs ls' hP hS (ax_Ls_s1 hL.1 hls') (ax_okt ho) (ax_ok_s1 trivial hoL) hc hs)
  case lstore_n x =>
    simp only [ax_par, Bool.and_eq_true, decide_eq_true_eq] at hpar
    obtain ⟨rfl, ht⟩ := hpar
    obtain ⟨y, rt, rfl, h_1⟩ := ax_l1_i h
    obtain ⟨hlt, h_2⟩ := ax_gd_i h_1
    intro H locs ls hP hS hL ho hoL hc hs
    exact lv_lstore_n hx hb hdec ht hL.has (by rw [← hL.1]; exact Nat.le_of_ble_eq_true hlt) rfl (fun ls' hls' => hk _ _ _ _ _ _ _ h_2 H locs ls' hP hS (ax_Ls_s2 hL.1 hls') (ax_okt ho) (ax_ok_s2 trivial hoL) hc hs)
  case dstore x =>
    simp only [ax_par, Bool.and_eq_true, decide_eq_true_eq] at hpar
    obtain ⟨rfl, rfl⟩ := hpar
    obtain ⟨y, rt, rfl, h_1⟩ := ax_d1_i h
    obtain ⟨hlt, h_2⟩ := ax_gd_i h_1
    intro H locs ls hP hS hL ho hoL hc hs
    exact lv_dstore hx hb hdec hL.has (by rw [← hL.1]; exact Nat.le_of_ble_eq_true hlt) rfl (fun ls' hls' => hk _ _ _ _ _ _ _ h_2 H locs ls' hP hS (ax_Ls_s2 hL.1 hls') (ax_okt ho) (ax_ok_s2 trivial hoL) hc hs)
  case dstore_n x =>
    simp only [ax_par, Bool.and_eq_true, decide_eq_true_eq] at hpar
    obtain ⟨rfl, ht⟩ := hpar
    obtain ⟨y, rt, rfl, h_1⟩ := ax_d1_i h
    obtain ⟨hlt, h_2⟩ := ax_gd_i h_1
    intro H locs ls hP hS hL ho hoL hc hs
    exact lv_dstore_n hx hb hdec ht hL.has (by rw [← hL.1]; exact Nat.le_of_ble_eq_true hlt) rfl (fun ls' hls' => hk _ _ _ _ _ _ _ h_2 H locs ls' hP hS (ax_Ls_s2 hL.1 hls') (ax_okt ho) (ax_ok_s2 trivial hoL) hc hs)
  case astore x =>
    simp only [ax_par, Bool.and_eq_true, decide_eq_true_eq] at hpar
    obtain ⟨rfl, rfl⟩ := hpar
    obtain ⟨y, rt, rfl, h_1⟩ := ax_v1_i h
    obtain ⟨hy, h_2⟩ := ax_gd_i h_1
    obtain ⟨hlt, h_3⟩ := ax_gd_i h_2
    intro H locs ls hP hS hL ho hoL hc hs
    have hlt' : x < nL := by rw [← hL.1]; exact Nat.le_of_ble_eq_true hlt
    have hoy := ho _ List.mem_cons_self
    have hkk := fun ls' hls' => hk _ _ _ _ _ _ _ h_3 H locs ls' hP hS hls' (ax_okt ho) (ax_ok_s1 hoy hoL) hc hs
    rcases ax_isr_i hy with rfl | ⟨b, rfl⟩ | ⟨q, rfl⟩
    · exact lv_astoreN hx hb hdec hL.has hlt' rfl (fun ls' hls' => hkk ls' (ax_Ls_s1 (v := .inl .null) hL.1 hls'))
    · exact lv_astore hx hb hdec hL.has hlt' rfl (fun ls' hls' => hkk ls' (ax_Ls_s1 (v := .inl (.ref b)) hL.1 hls'))
    · exact lv_astore hx hb hdec hL.has hlt' rfl (fun ls' hls' => hkk ls' (ax_Ls_s1 (v := .inr q) hL.1 hls'))
  case astore_n x =>
    simp only [ax_par, Bool.and_eq_true, decide_eq_true_eq] at hpar
    obtain ⟨rfl, ht⟩ := hpar
    obtain ⟨y, rt, rfl, h_1⟩ := ax_v1_i h
    obtain ⟨hy, h_2⟩ := ax_gd_i h_1
    obtain ⟨hlt, h_3⟩ := ax_gd_i h_2
    intro H locs ls hP hS hL ho hoL hc hs
    have hlt' : t < nL := by rw [← hL.1]; exact Nat.le_of_ble_eq_true hlt
    have hoy := ho _ List.mem_cons_self
    have hkk := fun ls' hls' => hk _ _ _ _ _ _ _ h_3 H locs ls' hP hS hls' (ax_okt ho) (ax_ok_s1 hoy hoL) hc hs
    rcases ax_isr_i hy with rfl | ⟨b, rfl⟩ | ⟨q, rfl⟩
    · exact lv_astore_nN hx hb hdec ht hL.has hlt' rfl (fun ls' hls' => hkk ls' (ax_Ls_s1 (v := .inl .null) hL.1 hls'))
    · exact lv_astore_n hx hb hdec ht hL.has hlt' rfl (fun ls' hls' => hkk ls' (ax_Ls_s1 (v := .inl (.ref b)) hL.1 hls'))
    · exact lv_astore_n hx hb hdec ht hL.has hlt' rfl (fun ls' hls' => hkk ls' (ax_Ls_s1 (v := .inr q) hL.1 hls'))
  case iinc x y =>
    simp only [ax_par, Bool.and_eq_true, decide_eq_true_eq] at hpar
    obtain ⟨rfl, rfl, hv⟩ := hpar
    obtain ⟨z, hx1, h_1⟩ := ax_oi_i h
    obtain ⟨hlt, h_2⟩ := ax_gd_i h_1
    intro H locs ls hP hS hL ho hoL hc hs
    obtain ⟨q, hq⟩ := List.getElem?_of_mem (ax_lv_in (base := base) hx1)
    exact lv_iinc (x := z) hx hb hdec hL.has hq (by rw [hv]) (by rw [← hL.1]; exact Nat.le_of_ble_eq_true hlt) rfl (fun ls' hls' => hk _ _ _ _ _ _ _ h_2 H locs ls' hP hS (ax_Ls_s1 (v := .inl (.int (z + v))) hL.1 hls') ho (ax_ok_s1 trivial hoL) hc hs)
  case pop =>
    have hn : n = 1 := of_decide_eq_true hpar
    subst hn
    obtain ⟨y, rt, rfl, h_1⟩ := ax_v1_i h
    obtain ⟨hy, h_2⟩ := ax_gd_i h_1
    have hcat : ∀ v : ax_V, ax_one v = true → (ax_c base v).category = 1 := fun v hv => by
      rcases v with v | q
      · cases v <;> first | rfl | cases hv
      · rfl
    intro H locs ls hP hS hL ho hoL hc hs
    exact lv_pop hx hb hdec (hcat y hy) (hk _ _ _ _ _ _ _ h_2 H locs ls hP hS hL (ax_okt ho) hoL hc hs)
  case dup =>
    have hn : n = 1 := of_decide_eq_true hpar
    subst hn
    obtain ⟨y, rt, rfl, h_1⟩ := ax_v1_i h
    obtain ⟨hy, h_2⟩ := ax_gd_i h_1
    have hcat : ∀ v : ax_V, ax_one v = true → (ax_c base v).category = 1 := fun v hv => by
      rcases v with v | q
      · cases v <;> first | rfl | cases hv
      · rfl
    intro H locs ls hP hS hL ho hoL hc hs
    exact lv_dup hx hb hdec (hcat y hy) (hk _ _ _ _ _ _ _ h_2 H locs ls hP hS hL (ax_okc (ho _ List.mem_cons_self) ho) hoL hc hs)
  case dup2 =>
    have hn : n = 1 := of_decide_eq_true hpar
    subst hn
    obtain ⟨y, rt, rfl, h_1⟩ := ax_v1_i h
    obtain ⟨z, rt, rfl, h_2⟩ := ax_v1_i h_1
    obtain ⟨hy, h_3⟩ := ax_gd_i h_2
    obtain ⟨hz, h_4⟩ := ax_gd_i h_3
    have hcat : ∀ v : ax_V, ax_one v = true → (ax_c base v).category = 1 := fun v hv => by
      rcases v with v | q
      · cases v <;> first | rfl | cases hv
      · rfl
    intro H locs ls hP hS hL ho hoL hc hs
    exact lv_dup2_11 hx hb hdec (hcat y hy) (hcat z hz) (hk _ _ _ _ _ _ _ h_4 H locs ls hP hS hL (ax_okc (ho _ List.mem_cons_self) (ax_okc (ho _ (List.mem_cons_of_mem _ List.mem_cons_self)) ho)) hoL hc hs)
  case iadd =>
    have hn : n = 1 := of_decide_eq_true hpar
    subst hn
    obtain ⟨x, y, rt, rfl, h_1⟩ := ax_i2_i h
    intro H locs ls hP hS hL ho hoL hc hs
    exact lv_iadd hx hb hdec (hk _ _ _ _ _ _ _ h_1 H locs ls hP hS hL (ax_okc trivial (ax_okt (ax_okt ho))) hoL hc hs)
  case isub =>
    have hn : n = 1 := of_decide_eq_true hpar
    subst hn
    obtain ⟨x, y, rt, rfl, h_1⟩ := ax_i2_i h
    intro H locs ls hP hS hL ho hoL hc hs
    exact lv_isub hx hb hdec (hk _ _ _ _ _ _ _ h_1 H locs ls hP hS hL (ax_okc trivial (ax_okt (ax_okt ho))) hoL hc hs)
  case imul =>
    have hn : n = 1 := of_decide_eq_true hpar
    subst hn
    obtain ⟨x, y, rt, rfl, h_1⟩ := ax_i2_i h
    intro H locs ls hP hS hL ho hoL hc hs
    exact lv_imul hx hb hdec (hk _ _ _ _ _ _ _ h_1 H locs ls hP hS hL (ax_okc trivial (ax_okt (ax_okt ho))) hoL hc hs)
  case iand =>
    have hn : n = 1 := of_decide_eq_true hpar
    subst hn
    obtain ⟨x, y, rt, rfl, h_1⟩ := ax_i2_i h
    intro H locs ls hP hS hL ho hoL hc hs
    exact lv_iand hx hb hdec (hk _ _ _ _ _ _ _ h_1 H locs ls hP hS hL (ax_okc trivial (ax_okt (ax_okt ho))) hoL hc hs)
  case ior =>
    have hn : n = 1 := of_decide_eq_true hpar
    subst hn
    obtain ⟨x, y, rt, rfl, h_1⟩ := ax_i2_i h
    intro H locs ls hP hS hL ho hoL hc hs
    exact lv_ior hx hb hdec (hk _ _ _ _ _ _ _ h_1 H locs ls hP hS hL (ax_okc trivial (ax_okt (ax_okt ho))) hoL hc hs)
  case ixor =>
    have hn : n = 1 := of_decide_eq_true hpar
    subst hn
    obtain ⟨x, y, rt, rfl, h_1⟩ := ax_i2_i h
    intro H locs ls hP hS hL ho hoL hc hs
    exact lv_ixor hx hb hdec (hk _ _ _ _ _ _ _ h_1 H locs ls hP hS hL (ax_okc trivial (ax_okt (ax_okt ho))) hoL hc hs)
  case ishl =>
    have hn : n = 1 := of_decide_eq_true hpar
    subst hn
    obtain ⟨x, y, rt, rfl, h_1⟩ := ax_i2_i h
    intro H locs ls hP hS hL ho hoL hc hs
    exact lv_ishl hx hb hdec (hk _ _ _ _ _ _ _ h_1 H locs ls hP hS hL (ax_okc trivial (ax_okt (ax_okt ho))) hoL hc hs)
  case ishr =>
    have hn : n = 1 := of_decide_eq_true hpar
    subst hn
    obtain ⟨x, y, rt, rfl, h_1⟩ := ax_i2_i h
    intro H locs ls hP hS hL ho hoL hc hs
    exact lv_ishr hx hb hdec (hk _ _ _ _ _ _ _ h_1 H locs ls hP hS hL (ax_okc trivial (ax_okt (ax_okt ho))) hoL hc hs)
  case iushr =>
    have hn : n = 1 := of_decide_eq_true hpar
    subst hn
    obtain ⟨x, y, rt, rfl, h_1⟩ := ax_i2_i h
    intro H locs ls hP hS hL ho hoL hc hs
    exact lv_iushr hx hb hdec rfl (hk _ _ _ _ _ _ _ h_1 H locs ls hP hS hL (ax_okc trivial (ax_okt (ax_okt ho))) hoL hc hs)
  case idiv =>
    have hn : n = 1 := of_decide_eq_true hpar
    subst hn
    obtain ⟨x, y, rt, rfl, h_1⟩ := ax_i2_i h
    by_cases hy : y = 0
    · rw [if_pos hy] at h_1; cases h_1
    rw [if_neg hy] at h_1
    intro H locs ls hP hS hL ho hoL hc hs
    exact lv_idiv hx hb hdec hy (hk _ _ _ _ _ _ _ h_1 H locs ls hP hS hL (ax_okc trivial (ax_okt (ax_okt ho))) hoL hc hs)
  case irem =>
    have hn : n = 1 := of_decide_eq_true hpar
    subst hn
    obtain ⟨x, y, rt, rfl, h_1⟩ := ax_i2_i h
    by_cases hy : y = 0
    · rw [if_pos hy] at h_1; cases h_1
    rw [if_neg hy] at h_1
    intro H locs ls hP hS hL ho hoL hc hs
    exact lv_irem hx hb hdec hy (hk _ _ _ _ _ _ _ h_1 H locs ls hP hS hL (ax_okc trivial (ax_okt (ax_okt ho))) hoL hc hs)
  case ladd =>
    have hn : n = 1 := of_decide_eq_true hpar
    subst hn
    obtain ⟨x, y, rt, rfl, h_1⟩ := ax_l2_i h
    intro H locs ls hP hS hL ho hoL hc hs
    exact lv_ladd hx hb hdec (hk _ _ _ _ _ _ _ h_1 H locs ls hP hS hL (ax_okc trivial (ax_okt (ax_okt ho))) hoL hc hs)
  case lmul =>
    have hn : n = 1 := of_decide_eq_true hpar
    subst hn
    obtain ⟨x, y, rt, rfl, h_1⟩ := ax_l2_i h
    intro H locs ls hP hS hL ho hoL hc hs
    exact lv_lmul hx hb hdec (hk _ _ _ _ _ _ _ h_1 H locs ls hP hS hL (ax_okc trivial (ax_okt (ax_okt ho))) hoL hc hs)
  case lcmp =>
    have hn : n = 1 := of_decide_eq_true hpar
    subst hn
    obtain ⟨x, y, rt, rfl, h_1⟩ := ax_l2_i h
    intro H locs ls hP hS hL ho hoL hc hs
    exact W.lcmp hx hb hdec (hk _ _ _ _ _ _ _ h_1 H locs ls hP hS hL (ax_okc trivial (ax_okt (ax_okt ho))) hoL hc hs)
  case i2l =>
    have hn : n = 1 := of_decide_eq_true hpar
    subst hn
    obtain ⟨x, rt, rfl, h_1⟩ := ax_i1_i h
    intro H locs ls hP hS hL ho hoL hc hs
    exact lv_i2l hx hb hdec rfl (hk _ _ _ _ _ _ _ h_1 H locs ls hP hS hL (ax_okc trivial (ax_okt ho)) hoL hc hs)
  case i2d =>
    have hn : n = 1 := of_decide_eq_true hpar
    subst hn
    obtain ⟨x, rt, rfl, h_1⟩ := ax_i1_i h
    intro H locs ls hP hS hL ho hoL hc hs
    exact lv_i2d hx hb hdec (hk _ _ _ _ _ _ _ h_1 H locs ls hP hS hL (ax_okc trivial (ax_okt ho)) hoL hc hs)
  case dadd =>
    have hn : n = 1 := of_decide_eq_true hpar
    subst hn
    obtain ⟨x, y, rt, rfl, h_1⟩ := ax_d2_i h
    by_cases hy : FP.dadd x y &&& 0x7fffffffffffffff ≤ 0x7ff0000000000000
    · rw [if_pos hy] at h_1
      intro H locs ls hP hS hL ho hoL hc hs
      exact lv_dadd hx hb hdec hy (hk _ _ _ _ _ _ _ h_1 H locs ls hP hS hL (ax_okc trivial (ax_okt (ax_okt ho))) hoL hc hs)
    · rw [if_neg hy] at h_1; cases h_1
  case ddiv =>
    have hn : n = 1 := of_decide_eq_true hpar
    subst hn
    obtain ⟨x, y, rt, rfl, h_1⟩ := ax_d2_i h
    by_cases hy : FP.ddiv x y &&& 0x7fffffffffffffff ≤ 0x7ff0000000000000
    · rw [if_pos hy] at h_1
      intro H locs ls hP hS hL ho hoL hc hs
      exact lv_ddiv hx hb hdec hy (hk _ _ _ _ _ _ _ h_1 H locs ls hP hS hL (ax_okc trivial (ax_okt (ax_okt ho))) hoL hc hs)
    · rw [if_neg hy] at h_1; cases h_1
  case dcmp o =>
    have hn : n = 1 := of_decide_eq_true hpar
    subst hn
    obtain ⟨x, y, rt, rfl, h_1⟩ := ax_d2_i h
    intro H locs ls hP hS hL ho hoL hc hs
    exact lv_dcmp hx hb hdec (hk _ _ _ _ _ _ _ h_1 H locs ls hP hS hL (ax_okc trivial (ax_okt (ax_okt ho))) hoL hc hs)
  case goto o =>
    simp only [ax_par, Bool.and_eq_true, decide_eq_true_eq] at hpar
    obtain ⟨rfl, ht⟩ := hpar
    intro H locs ls hP hS hL ho hoL hc hs
    exact lv_goto hx hb hdec ht (hk _ _ _ _ _ _ _ h H locs ls hP hS hL ho hoL hc hs)
  case ifCond o1 o =>
    simp only [ax_par, Bool.and_eq_true, decide_eq_true_eq] at hpar
    obtain ⟨rfl, ht⟩ := hpar
    cases o1
    case eq =>
      obtain ⟨x, rt, rfl, h_1⟩ := ax_i1_i h
      intro H locs ls hP hS hL ho hoL hc hs
      exact lv_if_eq hx hb hdec ht (fun q => by have h_1 := (if_pos q).symm.trans h_1; exact (hk _ _ _ _ _ _ _ h_1 H locs ls hP hS hL  (ax_okt ho) hoL hc hs)) (fun q => by have h_1 := (if_neg q).symm.trans h_1; exact (hk _ _ _ _ _ _ _ h_1 H locs ls hP hS hL  (ax_okt ho) hoL hc hs))
    case ne =>
      obtain ⟨x, rt, rfl, h_2⟩ := ax_i1_i h
      intro H locs ls hP hS hL ho hoL hc hs
      exact lv_if_ne hx hb hdec ht (fun q => by have h_2 := (if_neg q).symm.trans h_2; exact (hk _ _ _ _ _ _ _ h_2 H locs ls hP hS hL  (ax_okt ho) hoL hc hs)) (fun q => by have h_2 := (if_pos q).symm.trans h_2; exact (hk _ _ _ _ _ _ _ h_2 H locs ls hP hS hL  (ax_okt ho) hoL hc hs))
    case lt =>
      obtain ⟨x, rt, rfl, h_3⟩ := ax_i1_i h
      intro H locs ls hP hS hL ho hoL hc hs
      exact lv_if_lt hx hb hdec ht (fun q => by have h_3 := (if_pos q).symm.trans h_3; exact (hk _ _ _ _ _ _ _ h_3 H locs ls hP hS hL  (ax_okt ho) hoL hc hs)) (fun q => by have h_3 := (if_neg q).symm.trans h_3; exact (hk _ _ _ _ _ _ _ h_3 H locs ls hP hS hL  (ax_okt ho) hoL hc hs))
    case ge =>
      obtain ⟨x, rt, rfl, h_4⟩ := ax_i1_i h
      intro H locs ls hP hS hL ho hoL hc hs
      exact lv_if_ge hx hb hdec ht (fun q => by have h_4 := (if_pos q).symm.trans h_4; exact (hk _ _ _ _ _ _ _ h_4 H locs ls hP hS hL  (ax_okt ho) hoL hc hs)) (fun q => by have h_4 := (if_neg q).symm.trans h_4; exact (hk _ _ _ _ _ _ _ h_4 H locs ls hP hS hL  (ax_okt ho) hoL hc hs))
    case gt =>
      obtain ⟨x, rt, rfl, h_5⟩ := ax_i1_i h
      intro H locs ls hP hS hL ho hoL hc hs
      exact lv_if_gt hx hb hdec ht (fun q => by have h_5 := (if_pos q).symm.trans h_5; exact (hk _ _ _ _ _ _ _ h_5 H locs ls hP hS hL  (ax_okt ho) hoL hc hs)) (fun q => by have h_5 := (if_neg q).symm.trans h_5; exact (hk _ _ _ _ _ _ _ h_5 H locs ls hP hS hL  (ax_okt ho) hoL hc hs))
    case le =>
      obtain ⟨x, rt, rfl, h_6⟩ := ax_i1_i h
      intro H locs ls hP hS hL ho hoL hc hs
      exact lv_if_le hx hb hdec ht (fun q => by have h_6 := (if_pos q).symm.trans h_6; exact (hk _ _ _ _ _ _ _ h_6 H locs ls hP hS hL  (ax_okt ho) hoL hc hs)) (fun q => by have h_6 := (if_neg q).symm.trans h_6; exact (hk _ _ _ _ _ _ _ h_6 H locs ls hP hS hL  (ax_okt ho) hoL hc hs))
  case if_icmp o1 o =>
    simp only [ax_par, Bool.and_eq_true, decide_eq_true_eq] at hpar
    obtain ⟨rfl, ht⟩ := hpar
    cases o1
    case eq =>
      obtain ⟨x, y, rt, rfl, h_1⟩ := ax_i2_i h
      intro H locs ls hP hS hL ho hoL hc hs
      exact lv_icmp_eq hx hb hdec ht (fun q => by have h_1 := (if_pos q).symm.trans h_1; exact (hk _ _ _ _ _ _ _ h_1 H locs ls hP hS hL  (ax_okt (ax_okt ho)) hoL hc hs)) (fun q => by have h_1 := (if_neg q).symm.trans h_1; exact (hk _ _ _ _ _ _ _ h_1 H locs ls hP hS hL  (ax_okt (ax_okt ho)) hoL hc hs))
    case ne =>
      obtain ⟨x, y, rt, rfl, h_2⟩ := ax_i2_i h
      intro H locs ls hP hS hL ho hoL hc hs
      exact lv_icmp_ne hx hb hdec ht (fun q => by have h_2 := (if_neg q).symm.trans h_2; exact (hk _ _ _ _ _ _ _ h_2 H locs ls hP hS hL  (ax_okt (ax_okt ho)) hoL hc hs)) (fun q => by have h_2 := (if_pos q).symm.trans h_2; exact (hk _ _ _ _ _ _ _ h_2 H locs ls hP hS hL  (ax_okt (ax_okt ho)) hoL hc hs))
    case lt =>
      obtain ⟨x, y, rt, rfl, h_3⟩ := ax_i2_i h
      intro H locs ls hP hS hL ho hoL hc hs
      exact lv_icmp_lt hx hb hdec ht (fun q => by have h_3 := (if_pos q).symm.trans h_3; exact (hk _ _ _ _ _ _ _ h_3 H locs ls hP hS hL  (ax_okt (ax_okt ho)) hoL hc hs)) (fun q => by have h_3 := (if_neg q).symm.trans h_3; exact (hk _ _ _ _ _ _ _ h_3 H locs ls hP hS hL  (ax_okt (ax_okt ho)) hoL hc hs))
    case ge =>
      obtain ⟨x, y, rt, rfl, h_4⟩ := ax_i2_i h
      intro H locs ls hP hS hL ho hoL hc hs
      exact lv_icmp_ge hx hb hdec ht (fun q => by have h_4 := (if_pos q).symm.trans h_4; exact (hk _ _ _ _ _ _ _ h_4 H locs ls hP hS hL  (ax_okt (ax_okt ho)) hoL hc hs)) (fun q => by have h_4 := (if_neg q).symm.trans h_4; exact (hk _ _ _ _ _ _ _ h_4 H locs ls hP hS hL  (ax_okt (ax_okt ho)) hoL hc hs))
    case gt =>
      obtain ⟨x, y, rt, rfl, h_5⟩ := ax_i2_i h
      intro H locs ls hP hS hL ho hoL hc hs
      exact lv_icmp_gt hx hb hdec ht (fun q => by have h_5 := (if_pos q).symm.trans h_5; exact (hk _ _ _ _ _ _ _ h_5 H locs ls hP hS hL  (ax_okt (ax_okt ho)) hoL hc hs)) (fun q => by have h_5 := (if_neg q).symm.trans h_5; exact (hk _ _ _ _ _ _ _ h_5 H locs ls hP hS hL  (ax_okt (ax_okt ho)) hoL hc hs))
    case le =>
      obtain ⟨x, y, rt, rfl, h_6⟩ := ax_i2_i h
      intro H locs ls hP hS hL ho hoL hc hs
      exact lv_icmp_le hx hb hdec ht (fun q => by have h_6 := (if_pos q).symm.trans h_6; exact (hk _ _ _ _ _ _ _ h_6 H locs ls hP hS hL  (ax_okt (ax_okt ho)) hoL hc hs)) (fun q => by have h_6 := (if_neg q).symm.trans h_6; exact (hk _ _ _ _ _ _ _ h_6 H locs ls hP hS hL  (ax_okt (ax_okt ho)) hoL hc hs))
  case ifnull o =>
    simp only [ax_par, Bool.and_eq_true, decide_eq_true_eq] at hpar
    obtain ⟨rfl, ht⟩ := hpar
    obtain ⟨y, rt, rfl, h_1⟩ := ax_v1_i h
    intro H locs ls hP hS hL ho hoL hc hs
    rcases ax_nu_i h_1 with ⟨rfl, h_2⟩ | ⟨q, rfl, h_2⟩
    · exact lv_ifnullN hx hb hdec ht (hk _ _ _ _ _ _ _ h_2 H locs ls hP hS hL (ax_okt ho) hoL hc hs)
    · exact lv_ifnull hx hb hdec (hk _ _ _ _ _ _ _ h_2 H locs ls hP hS hL (ax_okt ho) hoL hc hs)
  case ifnonnull o =>
    simp only [ax_par, Bool.and_eq_true, decide_eq_true_eq] at hpar
    obtain ⟨rfl, ht⟩ := hpar
    obtain ⟨y, rt, rfl, h_1⟩ := ax_v1_i h
    intro H locs ls hP hS hL ho hoL hc hs
    rcases ax_nu_i h_1 with ⟨rfl, h_2⟩ | ⟨q, rfl, h_2⟩
    · exact lv_ifnonnullN hx hb hdec (hk _ _ _ _ _ _ _ h_2 H locs ls hP hS hL (ax_okt ho) hoL hc hs)
    · exact lv_ifnonnull hx hb hdec ht (hk _ _ _ _ _ _ _ h_2 H locs ls hP hS hL (ax_okt ho) hoL hc hs)
  case tableswitch dflt lo1 hi offs =>
    obtain ⟨q, hq, h_1⟩ := ax_ob_i h
    obtain ⟨x, rt, rfl, h_2⟩ := ax_i1_i h_1
    obtain ⟨s1, s2, s3⟩ := Os _ (ax_lk_mem _ hq) _ _ _ _ _ hdec
    intro H locs ls hP hS hL ho hoL hc hs
    rcases ax_sw_i h_2 with ⟨h1, h_3⟩ | ⟨q1, hq1, rfl, h_3⟩
    · exact lv_tableOut hx hb hdec (s2 x h1) s1 (hk _ _ _ _ _ _ _ h_3 H locs ls hP hS hL (ax_okt ho) hoL hc hs)
    · obtain ⟨a1, a2, off, a3, a4⟩ := s3 q1 hq1
      exact lv_tableIn hx hb hdec a1 a2 a3 a4 (hk _ _ _ _ _ _ _ h_3 H locs ls hP hS hL (ax_okt ho) hoL hc hs)
  case arraylength =>
    have hn : n = 1 := of_decide_eq_true hpar
    subst hn
    obtain ⟨y, rt, rfl, h_1⟩ := ax_v1_i h
    intro H locs ls hP hS hL ho hoL hc hs
    rcases ax_rs_i h_1 with ⟨a, i, rfl, h_2⟩ | ⟨b, rfl, h_2⟩
    · obtain ⟨⟨t1, n1⟩, hq, h_3⟩ := ax_ob_i h_2
      have hin : (a, i) ∈ ax_all := ho _ List.mem_cons_self
      obtain ⟨ty, hty⟩ := ax_tys_at cA (ax_ka_t hq).1
      exact va_alen (x := (n1, ax_row base f g t1 (a, i))) hx hb hK hP (ax_all.idxOf (a, i)) t1 (by rw [ax_ws_get base cA f g hin, ax_cell_a base cA f g i hq]) hty rfl hdec (hk _ _ _ _ _ _ _ h_3 H locs ls hP hS hL (ax_okc trivial (ax_okt ho)) hoL hc hs)
    · obtain ⟨q, hq, h_4⟩ := ax_ob_i h_2
      obtain ⟨hbq, h_5⟩ := ax_gd_i h_4
      obtain ⟨z1, z2, z3, z4⟩ := hscr q hq
      have e1 : b = q.1 := Nat.eq_of_beq_eq_true hbq
      subst e1
      exact va_slen hx hb z1 z2 (Nat.not_le.mpr z3) hS hdec (hk _ _ _ _ _ _ _ h_5 H locs ls hP hS hL (ax_okc trivial (ax_okt ho)) hoL hc hs)
  case iaload =>
    have hn : n = 1 := of_decide_eq_true hpar
    subst hn
    obtain ⟨j, rt, rfl, h_1⟩ := ax_i1_i h
    obtain ⟨y, rt, rfl, h_2⟩ := ax_v1_i h_1
    intro H locs ls hP hS hL ho hoL hc hs
    rcases ax_rs_i h_2 with ⟨a, i, rfl, h_3⟩ | ⟨b, rfl, h_3⟩
    · obtain ⟨⟨t1, n1⟩, hq, h_4⟩ := ax_ob_i h_3
      obtain ⟨h0, h_5⟩ := ax_0_i h_4
      have h0 : t1 = 0 := h0
      subst h0
      obtain ⟨hj, h_6⟩ := ax_bd_i (ax_len252 hq) h_5
      have hin : (a, i) ∈ ax_all := ho _ (List.mem_cons_of_mem _ List.mem_cons_self)
      exact va_iald hx hb hK hP (ax_all.idxOf (a, i)) 0 (by rw [ax_ws_get base cA f g hin, ax_cell_a base cA f g i hq]; rfl) rfl hj hdec (hk _ _ _ _ _ _ _ h_6 H locs ls hP hS hL (ax_okc trivial (ax_okt (ax_okt ho))) hoL hc hs)
    · obtain ⟨q, hq, h_7⟩ := ax_ob_i h_3
      obtain ⟨hbq, h_8⟩ := ax_gd_i h_7
      obtain ⟨z1, z2, z3, z4⟩ := hscr q hq
      obtain ⟨hj, h_8⟩ := ax_bd_i z4 h_8
      have e1 : b = q.1 := Nat.eq_of_beq_eq_true hbq
      subst e1
      exact va_sld hx hb z1 z2 (Nat.not_le.mpr z3) hS hj hdec (hk _ _ _ _ _ _ _ h_8 H locs ls hP hS hL (ax_okc trivial (ax_okt (ax_okt ho))) hoL hc hs)
  case baload =>
    have hn : n = 1 := of_decide_eq_true hpar
    subst hn
    obtain ⟨j, rt, rfl, h_1⟩ := ax_i1_i h
    obtain ⟨a, i, rt, rfl, h_2⟩ := ax_r1_i h_1
    obtain ⟨⟨t1, n1⟩, hq, h_3⟩ := ax_ob_i h_2
    obtain ⟨h0, h_4⟩ := ax_1_i h_3
    have h0 : t1 = 1 := h0
    subst h0
    obtain ⟨hj, h_5⟩ := ax_bd_i (ax_len252 hq) h_4
    intro H locs ls hP hS hL ho hoL hc hs
    have hin : (a, i) ∈ ax_all := ho _ (List.mem_cons_of_mem _ List.mem_cons_self)
    exact va_zald hx hb hK hP (ax_all.idxOf (a, i)) 1 (by rw [ax_ws_get base cA f g hin, ax_cell_a base cA f g i hq]; rfl) rfl hj hdec (hk _ _ _ _ _ _ _ h_5 H locs ls hP hS hL (ax_okc trivial (ax_okt (ax_okt ho))) hoL hc hs)
  case laload =>
    have hn : n = 1 := of_decide_eq_true hpar
    subst hn
    obtain ⟨j, rt, rfl, h_1⟩ := ax_i1_i h
    obtain ⟨a, i, rt, rfl, h_2⟩ := ax_r1_i h_1
    obtain ⟨⟨t1, n1⟩, hq, h_3⟩ := ax_ob_i h_2
    obtain ⟨h0, h_4⟩ := ax_2_i h_3
    have h0 : t1 = 2 := h0
    subst h0
    obtain ⟨hj, h_5⟩ := ax_bd_i (ax_len252 hq) h_4
    intro H locs ls hP hS hL ho hoL hc hs
    have hin : (a, i) ∈ ax_all := ho _ (List.mem_cons_of_mem _ List.mem_cons_self)
    exact va_lald hx hb hK hP (ax_all.idxOf (a, i)) 2 (by rw [ax_ws_get base cA f g hin, ax_cell_a base cA f g i hq]; rfl) rfl hj hdec (hk _ _ _ _ _ _ _ h_5 H locs ls hP hS hL (ax_okc trivial (ax_okt (ax_okt ho))) hoL hc hs)
  case aaload =>
    have hn : n = 1 := of_decide_eq_true hpar
    subst hn
    obtain ⟨j, rt, rfl, h_1⟩ := ax_i1_i h
    obtain ⟨a, i, rt, rfl, h_2⟩ := ax_r1_i h_1
    obtain ⟨⟨t1, n1⟩, hq, h_3⟩ := ax_ob_i h_2
    obtain ⟨h0, h_4⟩ := ax_3_i h_3
    obtain ⟨hj, h_5⟩ := ax_bd_i (ax_len252 hq) h_4
    intro H locs ls hP hS hL ho hoL hc hs
    have hin : (a, i) ∈ ax_all := ho _ (List.mem_cons_of_mem _ List.mem_cons_self)
    obtain ⟨C1, hC1⟩ := ax_tys_r cA (ax_ka_t hq).1 h0
    have hrow : ax_row base f g t1 (a, i) = .inr (.inr (.inr (.inr (fun j => (ax_r0 a i j).map (ax_ad base))))) := by
      match t1, h0 with
      | n + 3, _ => rfl
    obtain ⟨nj, hnj, rfl⟩ := vp_in_of hj (ax_len252 hq)
    have hok : ax_ok (ax_rv (ax_r0 a i (nI nj).toNatClampNeg)) := ax_ok_rv (ax_r0_arr hin hq h0 (by rw [nI_clamp (Nat.lt_trans hnj (ax_len252 hq))]; exact hnj))
    refine va_aldq hx hb hK hP (ax_all.idxOf (a, i)) t1 (by rw [ax_ws_get base cA f g hin, ax_cell_a base cA f g i hq, hrow]) hC1 hj hdec ?_
    rw [ax_rv_c]
    exact hk _ _ _ _ _ _ _ h_5 H locs ls hP hS hL (ax_okc hok (ax_okt (ax_okt ho))) hoL hc hs
  case iastore =>
    have hn : n = 1 := of_decide_eq_true hpar
    subst hn
    obtain ⟨j, x, rt, rfl, h_1⟩ := ax_i2_i h
    obtain ⟨a, i, rt, rfl, h_2⟩ := ax_r1_i h_1
    obtain ⟨⟨t1, n1⟩, hq, h_3⟩ := ax_ob_i h_2
    obtain ⟨h0, h_4⟩ := ax_0_i h_3
    have h0 : t1 = 0 := h0
    subst h0
    obtain ⟨hj, h_5⟩ := ax_bd_i (ax_len252 hq) h_4
    intro H locs ls hP hS hL ho hoL hc hs
    have hin : (a, i) ∈ ax_all := ho _ (List.mem_cons_of_mem _ (List.mem_cons_of_mem _ List.mem_cons_self))
    refine va_iast hx hb hK hP (ax_ws_D base cA f g) hS (ax_all.idxOf (a, i)) 0 (by rw [ax_ws_get base cA f g hin, ax_cell_a base cA f g i hq]; rfl) rfl hj hdec (fun H1 locs1 hP1 _ hS1 => ?_)
    have e1 := ax_ws_set base cA f g (ax_up f a i j.toNatClampNeg x) g hin (ax_cell_f base cA f g)
    rw [ax_cell_a base cA _ g i hq, show ax_row base (ax_up f a i j.toNatClampNeg x) g 0 (a, i) = .inl (upd (f a i) j.toNatClampNeg x) from congrArg Sum.inl (ax_row_f f a i _ x).symm] at e1
    rw [e1] at hP1
    exact hk _ _ _ _ _ _ _ h_5 H1 locs1 ls hP1 hS1 hL (ax_okt (ax_okt (ax_okt ho))) hoL hc hs
  case bastore =>
    have hn : n = 1 := of_decide_eq_true hpar
    subst hn
    obtain ⟨j, x, rt, rfl, h_1⟩ := ax_i2_i h
    obtain ⟨a, i, rt, rfl, h_2⟩ := ax_r1_i h_1
    obtain ⟨⟨t1, n1⟩, hq, h_3⟩ := ax_ob_i h_2
    obtain ⟨h0, h_4⟩ := ax_1_i h_3
    have h0 : t1 = 1 := h0
    subst h0
    obtain ⟨hj, h_5⟩ := ax_bd_i (ax_len252 hq) h_4
    obtain ⟨hxb, h_6⟩ := ax_bb_i h_5
    intro H locs ls hP hS hL ho hoL hc hs
    have hin : (a, i) ∈ ax_all := ho _ (List.mem_cons_of_mem _ (List.mem_cons_of_mem _ List.mem_cons_self))
    have hnx : vp_nar .boolean x = x := by rcases hxb with rfl | rfl <;> decide +kernel
    refine va_zast hx hb hK hP (ax_ws_D base cA f g) hS (ax_all.idxOf (a, i)) 1 (by rw [ax_ws_get base cA f g hin, ax_cell_a base cA f g i hq]; rfl) rfl hj hdec (fun H1 locs1 hP1 _ hS1 => ?_)
    rw [hnx] at hP1
    have e1 := ax_ws_set base cA f g (ax_up f a i j.toNatClampNeg x) g hin (ax_cell_f base cA f g)
    rw [ax_cell_a base cA _ g i hq, show ax_row base (ax_up f a i j.toNatClampNeg x) g 1 (a, i) = .inl (upd (f a i) j.toNatClampNeg x) from congrArg Sum.inl (ax_row_f f a i _ x).symm] at e1
    rw [e1] at hP1
    exact hk _ _ _ _ _ _ _ h_6 H1 locs1 ls hP1 hS1 hL (ax_okt (ax_okt (ax_okt ho))) hoL hc hs
  case lastore =>
    have hn : n = 1 := of_decide_eq_true hpar
    subst hn
    obtain ⟨x, rt, rfl, h_1⟩ := ax_l1_i h
    obtain ⟨j, rt, rfl, h_2⟩ := ax_i1_i h_1
    obtain ⟨a, i, rt, rfl, h_3⟩ := ax_r1_i h_2
    obtain ⟨⟨t1, n1⟩, hq, h_4⟩ := ax_ob_i h_3
    obtain ⟨h0, h_5⟩ := ax_2_i h_4
    have h0 : t1 = 2 := h0
    subst h0
    obtain ⟨hj, h_6⟩ := ax_bd_i (ax_len252 hq) h_5
    intro H locs ls hP hS hL ho hoL hc hs
    have hin : (a, i) ∈ ax_all := ho _ (List.mem_cons_of_mem _ (List.mem_cons_of_mem _ List.mem_cons_self))
    refine va_last hx hb hK hP (ax_ws_D base cA f g) hS (ax_all.idxOf (a, i)) 2 (by rw [ax_ws_get base cA f g hin, ax_cell_a base cA f g i hq]; rfl) rfl hj hdec (fun H1 locs1 hP1 _ hS1 => ?_)
    have e1 := ax_ws_set base cA f g f (ax_ug g a i j.toNatClampNeg x) hin (ax_cell_g base cA f g)
    rw [ax_cell_a base cA f _ i hq, show ax_row base f (ax_ug g a i j.toNatClampNeg x) 2 (a, i) = .inr (.inl (vp_updL (g a i) j.toNatClampNeg x)) from congrArg (fun z => Sum.inr (Sum.inl z)) (ax_row_g g a i _ x).symm] at e1
    rw [e1] at hP1
    exact hk _ _ _ _ _ _ _ h_6 H1 locs1 ls hP1 hS1 hL (ax_okt (ax_okt (ax_okt ho))) hoL hc hs
  case getfield x =>
    simp only [ax_par, decide_eq_true_eq] at hpar
    subst hpar
    obtain ⟨a, i, rt, rfl, h_1⟩ := ax_r1_i h
    obtain ⟨⟨ci, j⟩, hq, h_2⟩ := ax_ob_i h_1
    obtain ⟨ca, hca, h_3⟩ := ax_ob_i h_2
    obtain ⟨hcc, h_4⟩ := ax_gd_i h_3
    have e1 : ca = ci := Nat.eq_of_beq_eq_true hcc
    subst e1
    obtain ⟨C1, T1, N1, hv1, hj1, hl1⟩ := Of _ (ax_lk_mem _ hq)
    obtain ⟨hN, hin1, -⟩ := ax_cf hv1
    intro H locs ls hP hS hL ho hoL hc hs
    have hin : (a, i) ∈ ax_all := ho _ List.mem_cons_self
    have hjn : j < ax_nf ca := by rw [← hN]; exact hj1
    have hok : ax_ok (ax_fv f g (ax_ft ca j) a i j) := by
      by_cases h3 : ax_ft ca j = 3
      · rw [h3]; exact ax_ok_rv (ax_r0_obj hin hca hjn h3)
      · have h4 : ax_ft ca j = 0 ∨ ax_ft ca j = 1 ∨ ax_ft ca j = 2 := ax_ft3 ca j h3
        rcases h4 with h4 | h4 | h4 <;> rw [h4] <;> exact trivial
    exact va_get (D := D) (C := C1) (T := T1) (N := N1) hx hb hts hin1 hown hK hP (ax_all.idxOf (a, i)) (by rw [ax_ws_get base cA f g hin, ax_cell_o base cA f g i hca]) hv1 j hj1 (hts _ hl1) (fun _ h9 => h9) (ax_obj_get base f g (a, i) hjn) hdec (hk _ _ _ _ _ _ _ h_4 H locs ls hP hS hL (ax_okc hok (ax_okt ho)) hoL hc hs)
  case putfield x =>
    simp only [ax_par, decide_eq_true_eq] at hpar
    subst hpar
    obtain ⟨y, rt, rfl, h_1⟩ := ax_v1_i h
    obtain ⟨a, i, rt, rfl, h_2⟩ := ax_r1_i h_1
    obtain ⟨⟨ci, j⟩, hq, h_3⟩ := ax_ob_i h_2
    obtain ⟨ca, hca, h_4⟩ := ax_ob_i h_3
    obtain ⟨hcc, h_5⟩ := ax_gd_i h_4
    have e1 : ca = ci := Nat.eq_of_beq_eq_true hcc
    subst e1
    obtain ⟨C1, T1, N1, hv1, hj1, hl1⟩ := Of _ (ax_lk_mem _ hq)
    obtain ⟨hN, hin1, ty, t1, t2, t3, t4, t5⟩ := ax_cf hv1
    intro H locs ls hP hS hL ho hoL hc hs
    have hin : (a, i) ∈ ax_all := ho _ (List.mem_cons_of_mem _ List.mem_cons_self)
    have hjn : j < ax_nf ca := by rw [← hN]; exact hj1
    have hcell : (ax_ws base cA f g)[ax_all.idxOf (a, i)]? = some (ax_ad base (a, i), .inr (ca, ax_obj base f g ca (a, i))) := by rw [ax_ws_get base cA f g hin, ax_cell_o base cA f g i hca]
    have hlen : j < (ax_obj base f g ca (a, i)).length := by rw [ax_obj_len]; exact hjn
    rcases ax_pf_i h_5 with ⟨h0, z, rfl, h_6⟩ | ⟨h0, z, rfl, hz, h_6⟩ | ⟨h0, z, rfl, h_6⟩
    · obtain ⟨u1, u2⟩ := t3 j hj1 h0
      refine va_put (D := D) (C := C1) (T := T1) (N := N1) (ty := .int) hx hb hts hin1 ty t1 t2 hown hK hP (ax_ws_D base cA f g) hS (ax_all.idxOf (a, i)) hcell hv1 j hj1 (hts _ hl1) (fun _ h9 => h9) u2 (by rw [t1 j hj1, u1]) rfl rfl hlen hdec (fun H1 locs1 hP1 _ hS1 => ?_)
      have e1 := ax_ws_set base cA f g (ax_up f a i j z) g hin (ax_cell_f base cA f g)
      rw [ax_cell_o base cA _ g i hca, ← ax_obj_f base f g hjn (Or.inl h0) z] at e1
      rw [show ax_c base (.inl (.int z)) = .int z from rfl, e1] at hP1
      exact hk _ _ _ _ _ _ _ h_6 H1 locs1 ls hP1 hS1 hL (ax_okt (ax_okt ho)) hoL hc hs
    · obtain ⟨u1, u2⟩ := t4 j hj1 h0
      refine va_put (D := D) (C := C1) (T := T1) (N := N1) (ty := .boolean) hx hb hts hin1 ty t1 t2 hown hK hP (ax_ws_D base cA f g) hS (ax_all.idxOf (a, i)) hcell hv1 j hj1 (hts _ hl1) (fun _ h9 => h9) u2 (by rw [t1 j hj1, u1]) (by show narrow .boolean (.int z) = .int z; rcases hz with rfl | rfl <;> decide +kernel) (by show fits .boolean (.int z) = true; rcases hz with rfl | rfl <;> decide +kernel) hlen hdec (fun H1 locs1 hP1 _ hS1 => ?_)
      have e1 := ax_ws_set base cA f g (ax_up f a i j z) g hin (ax_cell_f base cA f g)
      rw [ax_cell_o base cA _ g i hca, ← ax_obj_f base f g hjn (Or.inr h0) z] at e1
      rw [show ax_c base (.inl (.int z)) = .int z from rfl, e1] at hP1
      exact hk _ _ _ _ _ _ _ h_6 H1 locs1 ls hP1 hS1 hL (ax_okt (ax_okt ho)) hoL hc hs
    · obtain ⟨u1, u2⟩ := t5 j hj1 h0
      refine va_put (D := D) (C := C1) (T := T1) (N := N1) (ty := .long) hx hb hts hin1 ty t1 t2 hown hK hP (ax_ws_D base cA f g) hS (ax_all.idxOf (a, i)) hcell hv1 j hj1 (hts _ hl1) (fun _ h9 => h9) u2 (by rw [t1 j hj1, u1]) rfl rfl hlen hdec (fun H1 locs1 hP1 _ hS1 => ?_)
      have e1 := ax_ws_set base cA f g f (ax_ug g a i j z) hin (ax_cell_g base cA f g)
      rw [ax_cell_o base cA f _ i hca, ← ax_obj_g base f g hjn h0 z] at e1
      rw [show ax_c base (.inl (.long z)) = .long z from rfl, e1] at hP1
      exact hk _ _ _ _ _ _ _ h_6 H1 locs1 ls hP1 hS1 hL (ax_okt (ax_okt ho)) hoL hc hs
  case invokevirtual x =>
    simp only [ax_par, decide_eq_true_eq] at hpar
    subst hpar
    obtain ⟨q, hq, h_1⟩ := ax_ob_i h
    obtain ⟨hm0, h_2⟩ := ax_0_i h_1
    obtain ⟨as, rt, rfl, hlen, h_3⟩ := ax_pop_i _ h_2
    obtain ⟨a, i, rest, rfl, h_4⟩ := ax_r1_i h_3
    obtain ⟨ca, hca, h_5⟩ := ax_ob_i h_4
    obtain ⟨hcc, h_6⟩ := ax_gd_i h_5
    obtain ⟨hb1, h_7⟩ := ax_gd_i h_6
    obtain ⟨hb2, h_8⟩ := ax_gd_i h_7
    obtain ⟨hb3, h_9⟩ := ax_gd_i h_8
    rw [List.append_nil] at h_9
    have e1 : ca = q.2.1 := Nat.eq_of_beq_eq_true hcc
    intro H locs ls hP hS hL ho hoL hc hs
    have hwd : ∀ U : State, U.heap = H → s.WarmedH U.vm → ax_Wd base D cA f g U := fun U hU hW => ⟨by rw [hU]; exact hP, va_K.moved hW.alike hK, ax_ZW hS hU hW hZ, hY.warm hW⟩
    have hroom : cs + q.2.2.2.2.2.1 ≤ ax_mc P ∧ ss + q.2.2.2.2.2.2 ≤ ax_ms P := ⟨Nat.le_of_ble_eq_true hb2, Nat.le_of_ble_eq_true hb3⟩
    have hw8 : ((rest.map (ax_c base)).map fun v => v.category).sum ≤ 8 := by rw [ax_wd_c]; exact Nat.le_of_ble_eq_true hb1
    have hrR : cs + q.2.2.2.2.2.1 ≤ R.cells ∧ ss + q.2.2.2.2.2.2 ≤ R.slots := ⟨Nat.le_trans hroom.1 hmc, Nat.le_trans hroom.2 hms⟩
    have hin : (a, i) ∈ ax_all := ho _ (List.mem_append_right _ List.mem_cons_self)
    have hor : ∀ w ∈ rest, ax_ok w := fun w hw => ho w (List.mem_append_right _ (List.mem_cons_of_mem _ hw))
    have hoa : ∀ w ∈ (Sum.inr (a, i) :: as : List ax_V), ax_ok w := by
      intro w hw
      rcases List.mem_cons.mp hw with rfl | hw
      · exact hin
      · exact ho w (List.mem_append_left _ (List.mem_reverse.mpr hw))
    obtain ⟨y, bytes, maxL, ret, hh, fr', lo', c1, c2, c3, c4, c5, c6⟩ := Ol _ (ax_lk_mem _ hq)
    rcases c6 with ⟨-, i1, i2, i3, i4, i5, T1, N1, i6⟩ | ⟨z, -⟩ | ⟨z, -⟩ | ⟨z, -⟩
    · cases hsem : q.2.2.2.2.1 (Sum.inr (a, i) :: as) f g with
      | none =>
        rw [hsem] at h_9
        have hC := h_9
        rcases ax_cal_i hC with ⟨v2, f2, g2, e2, -⟩ | ⟨x2, f2, g2, e2, -⟩ <;> cases e2
      | some rr =>
        rw [hsem] at h_9
        have hM := i1 base D cA (Sum.inr (a, i) :: as) f g rr hoa hsem
        have hsem : (some rr : Option ax_Fin) = some rr := rfl
        have hcell : (ax_ws base cA f g)[ax_all.idxOf (a, i)]? = some (ax_ad base (a, i), .inr (ca, ax_obj base f g ca (a, i))) := by rw [ax_ws_get base cA f g hin, ax_cell_o base cA f g i hca]
        have hrun := vx_runV (p := p) (l := l) (e := e) (below := below) (meth := meth) (locs := locs) (cells := cs) (slots := ss) (rest := rest.map (ax_c base)) (C := y.cls) (b := ax_ad base (a, i)) (As := as.map (ax_c base)) (g := F0 m pc ls ((as.reverse ++ .inr (a, i) :: rest).map (ax_c base))) (n := as.length) (Ts := ax_T) (own := own) (nL := nL) (index := x) ⟨hx, hb, hml, hown, hts⟩ hM
          ⟨⟨rfl, rfl, Nat.le_trans c1 hfr, Nat.le_trans c2 hlo, pay_in hts (ax_goodIn i2), List.mem_cons_self, hts _ i2, hts _ c5, c4, fun sig hsig => by rw [hsig] at c3; rw [hlen]; exact (Option.some.inj c3).symm, hts _ i3⟩, hts _ i4, hts _ i5⟩
          ⟨ax_blind _ base D cA f g, va_recv hK hP i6 (by rw [e1] at hcell; exact hcell), fun U hU hW => ⟨rfl, hwd U hU hW⟩⟩ rfl (by rw [List.length_map]) (by exact hL.2.1) (by rw [List.map_append, List.map_reverse, List.map_cons]; rfl) (lv_room hw8) hdec hrR
        have hC := h_9
        refine ax_callW hrun hS (fun x1 f1 g1 H1 locs1 q9 ce hrr hP1 hS1 hq9 hv9 hc9 => ?_) (fun v1 f1 g1 H1 locs1 hrr hok1 hP1 hS1 => ?_)
        · rcases ax_cal_i hC with ⟨v2, f2, g2, e2, -⟩ | ⟨x2, f2, g2, e2, hD⟩
          · rw [hrr] at e2; cases e2
          · rw [hrr] at e2
            cases e2
            exact ax_thrW C0 hk hP1 hS1 hq9 hv9 hc9 hL hoL hroom.1 hroom.2 (fun e3 hpass => hout _ _ _ _ _ _ _ _ _ _ _ _ e3 hpass hP1 hS1 hq9 hv9 hc9 hroom.1 hroom.2) _ [] _ rfl (fun z hz => by cases hz) Oh hD
        · rcases ax_cal_i hC with ⟨v2, f2, g2, e2, hD⟩ | ⟨x2, f2, g2, e2, -⟩
          · rw [hrr] at e2
            cases e2
            have hst : ((v1.toList ++ rest).map (ax_c base)) = (v1.map (ax_c base)).toList ++ rest.map (ax_c base) := by cases v1 <;> rfl
            rw [← hst]
            exact hk _ _ _ _ _ _ _ hD H1 locs1 ls hP1 hS1 hL (fun w hw => by
              rcases List.mem_append.mp hw with hw | hw
              · cases v1 with
                | none => cases hw
                | some z => rw [show (some z).toList = [z] from rfl, List.mem_singleton] at hw; subst hw; exact hok1 _ rfl
              · exact hor w hw) hoL hroom.1 hroom.2
          · rw [hrr] at e2; cases e2
    · rw [hm0] at z; cases z
    · rw [hm0] at z; cases z
    · rw [hm0] at z; cases z
  case invokestatic x =>
    simp only [ax_par, decide_eq_true_eq] at hpar
    subst hpar
    obtain ⟨q, hq, h_1⟩ := ax_ob_i h
    obtain ⟨hm0, h_2⟩ := ax_gd_i h_1
    obtain ⟨as, rest, rfl, hlen, h_3⟩ := ax_pop_i _ h_2
    obtain ⟨hb1, h_4⟩ := ax_gd_i h_3
    obtain ⟨hb2, h_5⟩ := ax_gd_i h_4
    obtain ⟨hb3, h_6⟩ := ax_gd_i h_5
    rw [List.append_nil] at h_6
    intro H locs ls hP hS hL ho hoL hc hs
    have hwd : ∀ U : State, U.heap = H → s.WarmedH U.vm → ax_Wd base D cA f g U := fun U hU hW => ⟨by rw [hU]; exact hP, va_K.moved hW.alike hK, ax_ZW hS hU hW hZ, hY.warm hW⟩
    have hroom : cs + q.2.2.2.2.2.1 ≤ ax_mc P ∧ ss + q.2.2.2.2.2.2 ≤ ax_ms P := ⟨Nat.le_of_ble_eq_true hb2, Nat.le_of_ble_eq_true hb3⟩
    have hw8 : ((rest.map (ax_c base)).map fun v => v.category).sum ≤ 8 := by rw [ax_wd_c]; exact Nat.le_of_ble_eq_true hb1
    have hrR : cs + q.2.2.2.2.2.1 ≤ R.cells ∧ ss + q.2.2.2.2.2.2 ≤ R.slots := ⟨Nat.le_trans hroom.1 hmc, Nat.le_trans hroom.2 hms⟩
    have hor : ∀ w ∈ rest, ax_ok w := fun w hw => ho w (List.mem_append_right _ hw)
    have hoa : ∀ w ∈ as, ax_ok w := fun w hw => ho w (List.mem_append_left _ (List.mem_reverse.mpr hw))
    obtain ⟨y, bytes, maxL, ret, hh, fr', lo', c1, c2, c3, c4, c5, c6⟩ := Ol _ (ax_lk_mem _ hq)
    rcases c6 with ⟨z, -⟩ | ⟨-, i1, i2, i3, i4⟩ | ⟨-, i1, i2, ⟨host, i3⟩, i4⟩ | ⟨-, i1, i2, i3, i4⟩
    · rw [show q.1 = 0 from z] at hm0; cases hm0
    · cases hsem : q.2.2.2.2.1 as f g with
      | none =>
        rw [hsem] at h_6
        have hC := h_6
        rcases ax_cal_i hC with ⟨v2, f2, g2, e2, -⟩ | ⟨x2, f2, g2, e2, -⟩ <;> cases e2
      | some rr =>
        rw [hsem] at h_6
        have hM := i1 base D cA as f g rr hoa hsem
        have hrun := vx_runS (p := p) (l := l) (e := e) (below := below) (meth := meth) (locs := locs) (cells := cs) (slots := ss) (rest := rest.map (ax_c base)) (As := as.map (ax_c base)) (g := F0 m pc ls ((as.reverse ++ rest).map (ax_c base))) (n := as.length) (Ts := ax_T) (own := own) (nL := nL) (index := x) ⟨hx, hb, hml, hown, hts⟩ hM
          ⟨⟨rfl, rfl, Nat.le_trans c1 hfr, Nat.le_trans c2 hlo, pay_in hts (ax_goodIn i2), List.mem_cons_self, hts _ i2, hts _ c5, c4, fun sig hsig => by rw [hsig] at c3; rw [hlen]; exact (Option.some.inj c3).symm, hts _ i3⟩, hts _ i4⟩
          ⟨ax_blind _ base D cA f g, fun U hU hW => ⟨rfl, hwd U hU hW⟩⟩ rfl (by rw [List.length_map]) (by exact hL.2.1) (by rw [List.map_append, List.map_reverse]) (lv_room hw8) hdec hrR
        have hC := h_6
        refine ax_callW hrun hS (fun x1 f1 g1 H1 locs1 q9 ce hrr hP1 hS1 hq9 hv9 hc9 => ?_) (fun v1 f1 g1 H1 locs1 hrr hok1 hP1 hS1 => ?_)
        · rcases ax_cal_i hC with ⟨v2, f2, g2, e2, -⟩ | ⟨x2, f2, g2, e2, hD⟩
          · rw [hrr] at e2; cases e2
          · rw [hrr] at e2
            cases e2
            exact ax_thrW C0 hk hP1 hS1 hq9 hv9 hc9 hL hoL hroom.1 hroom.2 (fun e3 hpass => hout _ _ _ _ _ _ _ _ _ _ _ _ e3 hpass hP1 hS1 hq9 hv9 hc9 hroom.1 hroom.2) _ [] _ rfl (fun z hz => by cases hz) Oh hD
        · rcases ax_cal_i hC with ⟨v2, f2, g2, e2, hD⟩ | ⟨x2, f2, g2, e2, -⟩
          · rw [hrr] at e2
            cases e2
            have hst : ((v1.toList ++ rest).map (ax_c base)) = (v1.map (ax_c base)).toList ++ rest.map (ax_c base) := by cases v1 <;> rfl
            rw [← hst]
            exact hk _ _ _ _ _ _ _ hD H1 locs1 ls hP1 hS1 hL (fun w hw => by
              rcases List.mem_append.mp hw with hw | hw
              · cases v1 with
                | none => cases hw
                | some z => rw [show (some z).toList = [z] from rfl, List.mem_singleton] at hw; subst hw; exact hok1 _ rfl
              · exact hor w hw) hoL hroom.1 hroom.2
          · rw [hrr] at e2; cases e2
    · cases hsem : q.2.2.2.2.1 as f g with
      | none =>
        rw [hsem] at h_6
        have hC := h_6
        rcases ax_cal_i hC with ⟨v2, f2, g2, e2, -⟩ | ⟨x2, f2, g2, e2, -⟩ <;> cases e2
      | some rr =>
        rw [hsem] at h_6
        have hM := i1 base D cA as f g rr hoa hsem
        have hrun := vx_runSN (p := p) (l := l) (e := e) (below := below) (meth := meth) (locs := locs) (cells := cs) (slots := ss) (rest := rest.map (ax_c base)) (As := as.map (ax_c base)) (g := F0 m pc ls ((as.reverse ++ rest).map (ax_c base))) (n := as.length) (Ts := ax_T) (own := own) (nL := nL) (index := x) ⟨hx, hb, hml, hown, hts⟩ hM
          ⟨⟨⟨rfl, rfl, Nat.le_trans c1 hfr, Nat.le_trans c2 hlo, pay_in hts (ax_goodIn i2), List.mem_cons_self⟩, hts _ i2, hts _ c5, c4, fun sig hsig => by rw [hsig] at c3; rw [hlen]; exact (Option.some.inj c3).symm, (hY.2.1 _ i3).use rfl⟩, hts _ i4, trivial⟩
          ⟨ax_blind _ base D cA f g, fun U hU hW => ⟨rfl, hwd U hU hW⟩⟩ rfl (by rw [List.length_map]) (by exact hL.2.1) (by rw [List.map_append, List.map_reverse]) (lv_room hw8) hdec hrR
        have hC := h_6
        refine ax_callW hrun hS (fun x1 f1 g1 H1 locs1 q9 ce hrr hP1 hS1 hq9 hv9 hc9 => ?_) (fun v1 f1 g1 H1 locs1 hrr hok1 hP1 hS1 => ?_)
        · rcases ax_cal_i hC with ⟨v2, f2, g2, e2, -⟩ | ⟨x2, f2, g2, e2, hD⟩
          · rw [hrr] at e2; cases e2
          · rw [hrr] at e2
            cases e2
            exact ax_thrW C0 hk hP1 hS1 hq9 hv9 hc9 hL hoL hroom.1 hroom.2 (fun e3 hpass => hout _ _ _ _ _ _ _ _ _ _ _ _ e3 hpass hP1 hS1 hq9 hv9 hc9 hroom.1 hroom.2) _ [] _ rfl (fun z hz => by cases hz) Oh hD
        · rcases ax_cal_i hC with ⟨v2, f2, g2, e2, hD⟩ | ⟨x2, f2, g2, e2, -⟩
          · rw [hrr] at e2
            cases e2
            have hst : ((v1.toList ++ rest).map (ax_c base)) = (v1.map (ax_c base)).toList ++ rest.map (ax_c base) := by cases v1 <;> rfl
            rw [← hst]
            exact hk _ _ _ _ _ _ _ hD H1 locs1 ls hP1 hS1 hL (fun w hw => by
              rcases List.mem_append.mp hw with hw | hw
              · cases v1 with
                | none => cases hw
                | some z => rw [show (some z).toList = [z] from rfl, List.mem_singleton] at hw; subst hw; exact hok1 _ rfl
              · exact hor w hw) hoL hroom.1 hroom.2
          · rw [hrr] at e2; cases e2
    · cases hsem : q.2.2.2.2.1 as f g with
      | none =>
        rw [hsem] at h_6
        have hC := h_6
        rcases ax_cal_i hC with ⟨v2, f2, g2, e2, -⟩ | ⟨x2, f2, g2, e2, -⟩ <;> cases e2
      | some rr =>
        rw [hsem] at h_6
        have hM := i1 base D cA as f g rr hoa hsem
        have hrun := vx_runSX (p := p) (l := l) (e := e) (below := below) (meth := meth) (locs := locs) (cells := cs) (slots := ss) (rest := rest.map (ax_c base)) (As := as.map (ax_c base)) (g := F0 m pc ls ((as.reverse ++ rest).map (ax_c base))) (n := as.length) (Ts := ax_T) (own := own) (nL := nL) (index := x) ⟨hx, hb, hml, hown, hts⟩ hM
          ⟨⟨rfl, rfl, Nat.le_trans c1 hfr, Nat.le_trans c2 hlo, pay_in hts (ax_goodIn i2), List.mem_cons_self⟩, hts _ i2, hts _ c5, c4, fun sig hsig => by rw [hsig] at c3; rw [hlen]; exact (Option.some.inj c3).symm, hts _ i3, hts _ i4⟩
          ⟨ax_blind _ base D cA f g, fun U hU hW => ⟨rfl, hwd U hU hW⟩⟩ rfl (by rw [List.length_map]) (by exact hL.2.1) (by rw [List.map_append, List.map_reverse]) (lv_room hw8) hdec hrR
        have hC := h_6
        refine ax_callW hrun hS (fun x1 f1 g1 H1 locs1 q9 ce hrr hP1 hS1 hq9 hv9 hc9 => ?_) (fun v1 f1 g1 H1 locs1 hrr hok1 hP1 hS1 => ?_)
        · rcases ax_cal_i hC with ⟨v2, f2, g2, e2, -⟩ | ⟨x2, f2, g2, e2, hD⟩
          · rw [hrr] at e2; cases e2
          · rw [hrr] at e2
            cases e2
            exact ax_thrW C0 hk hP1 hS1 hq9 hv9 hc9 hL hoL hroom.1 hroom.2 (fun e3 hpass => hout _ _ _ _ _ _ _ _ _ _ _ _ e3 hpass hP1 hS1 hq9 hv9 hc9 hroom.1 hroom.2) _ [] _ rfl (fun z hz => by cases hz) Oh hD
        · rcases ax_cal_i hC with ⟨v2, f2, g2, e2, hD⟩ | ⟨x2, f2, g2, e2, -⟩
          · rw [hrr] at e2
            cases e2
            have hst : ((v1.toList ++ rest).map (ax_c base)) = (v1.map (ax_c base)).toList ++ rest.map (ax_c base) := by cases v1 <;> rfl
            rw [← hst]
            exact hk _ _ _ _ _ _ _ hD H1 locs1 ls hP1 hS1 hL (fun w hw => by
              rcases List.mem_append.mp hw with hw | hw
              · cases v1 with
                | none => cases hw
                | some z => rw [show (some z).toList = [z] from rfl, List.mem_singleton] at hw; subst hw; exact hok1 _ rfl
              · exact hor w hw) hoL hroom.1 hroom.2
          · rw [hrr] at e2; cases e2
  case new x =>
    obtain ⟨x1, hq, h_1⟩ := ax_ob_i h
    obtain ⟨h0, h_2⟩ := ax_nil_i h_1
    obtain ⟨hb1, h_3⟩ := ax_gd_i h_2
    obtain ⟨hb2, h_4⟩ := ax_gd_i h_3
    obtain ⟨hb3, h_5⟩ := ax_gd_i h_4
    intro H locs ls hP hS hL ho hoL hc hs
    have htb : c.exceptionTable.toList = [] := by
      rw [h0] at Oh
      cases e9 : c.exceptionTable.toList with
      | nil => rfl
      | cons z zs => rw [e9] at Oh; exact absurd Oh (fun h_5 => h_5)
    cases h_5
    exact hnew _ _ _ _ _ _ _ _ _ _ rfl (ax_lk_mem _ hq) htb hP hS hL.2.1 (Nat.le_of_ble_eq_true hb1) (Nat.le_of_ble_eq_true hb2) (Nat.le_of_ble_eq_true hb3)
  case return_ =>
    have hn : n = 1 := of_decide_eq_true hpar
    subst hn
    obtain ⟨h0, h_1⟩ := ax_0_i h
    obtain ⟨rfl, h_2⟩ := ax_nil_i h_1
    cases h_2
    intro H locs ls hP hS hL ho hoL hc hs
    exact hret none f g pc _ H locs ls cs ss rfl hdec (Or.inl ⟨h0, rfl, rfl⟩) hP hS (fun x hx => by cases hx) hc hs
  case ireturn =>
    have hn : n = 1 := of_decide_eq_true hpar
    subst hn
    obtain ⟨x, rt, rfl, h_1⟩ := ax_i1_i h
    obtain ⟨rfl, h_2⟩ := ax_nil_i h_1
    obtain ⟨h0, h_3⟩ := ax_ir_i h_2
    cases h_3
    intro H locs ls hP hS hL ho hoL hc hs
    exact hret _ f g pc _ H locs ls cs ss rfl hdec (Or.inr (Or.inl ⟨rfl, x, rfl, h0⟩)) hP hS (fun x hx => by cases hx; exact trivial) hc hs
  case lreturn =>
    have hn : n = 1 := of_decide_eq_true hpar
    subst hn
    obtain ⟨x, rt, rfl, h_1⟩ := ax_l1_i h
    obtain ⟨rfl, h_2⟩ := ax_nil_i h_1
    obtain ⟨h0, h_3⟩ := ax_gd_i h_2
    cases h_3
    intro H locs ls hP hS hL ho hoL hc hs
    exact hret _ f g pc _ H locs ls cs ss rfl hdec (Or.inr (Or.inr (Or.inl ⟨Nat.eq_of_beq_eq_true h0, rfl, x, rfl⟩))) hP hS (fun x hx => by cases hx; exact trivial) hc hs
  case dreturn =>
    have hn : n = 1 := of_decide_eq_true hpar
    subst hn
    obtain ⟨x, rt, rfl, h_1⟩ := ax_d1_i h
    obtain ⟨rfl, h_2⟩ := ax_nil_i h_1
    obtain ⟨h0, h_3⟩ := ax_gd_i h_2
    cases h_3
    intro H locs ls hP hS hL ho hoL hc hs
    exact hret _ f g pc _ H locs ls cs ss rfl hdec (Or.inr (Or.inr (Or.inr (Or.inl ⟨Nat.eq_of_beq_eq_true h0, rfl, x, rfl⟩)))) hP hS (fun x hx => by cases hx; exact trivial) hc hs
  case areturn =>
    have hn : n = 1 := of_decide_eq_true hpar
    subst hn
    obtain ⟨x, rt, rfl, h_1⟩ := ax_v1_i h
    obtain ⟨rfl, h_2⟩ := ax_nil_i h_1
    obtain ⟨h0, h_3⟩ := ax_gd_i h_2
    obtain ⟨h1, h_4⟩ := ax_gd_i h_3
    cases h_4
    intro H locs ls hP hS hL ho hoL hc hs
    exact hret _ f g pc _ H locs ls cs ss rfl hdec (Or.inr (Or.inr (Or.inr (Or.inr ⟨Nat.eq_of_beq_eq_true h0, rfl, x, rfl, h1⟩)))) hP hS (fun z hz => by cases hz; exact ho _ List.mem_cons_self) hc hs
  all_goals (cases h; done)
end AXI
