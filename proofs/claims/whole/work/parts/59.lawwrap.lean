/-! the law's own helpers: what a call and its answer come to -/
section AZB
theorem gdb (b : Nat) (y : Option ax_Fin) : ax_gd (Nat.beq b b) y = y := by
  have h : Nat.beq b b = true := by rw [Nat.beq_eq]
  rw [h]
  rfl
theorem gdl {a c : Nat} (h : a ≤ c) (y : Option ax_Fin) : ax_gd (Nat.ble a c) y = y := by
  rw [Nat.ble_eq_true_of_le h]
  rfl
/-- a helper of the law, then the reference -/
def PL (n : Nat) (wr md : ax_F → ax_G → Option ax_Fin) (f : ax_F) (g : ax_G) : Prop := ∃ k f1 g1 v f2, wr f g = rI k f1 g1 ∧ md f1 g1 = rI v f2 g1 ∧ f2 19 0 0 = k ∧ Inv (n + 1) f2 ∧ (k = 0 → g1 60 0 0 = Int32.toInt64 v)
theorem PL.of {n : Nat} {tb : List (Nat × Int32)} {wr cl md : ax_F → ax_G → Option ax_Fin} {kx : Nat → ax_F → ax_G → Option ax_Fin} {f : ax_F} {g : ax_G} (h : PQ n tb cl md f g) (hw : wr f g = ax_cali (cl f g) kx (fun z f g => some (.inl (some (.inl (.int 0))), f, ax_ug g 60 0 0 (Int32.toInt64 z)))) (hx : ∀ e k, (e, k) ∈ tb → (∀ f g, kx e f g = rI k f g) ∧ k ≠ 0) : PL n wr md f g := by
  rcases h with ⟨v, f1, h1, h2⟩ | ⟨e, k, f1, hk, h1, h2⟩
  · obtain ⟨f2, e2, t2, hI⟩ := h2 (ax_ug g 60 0 0 (Int32.toInt64 v))
    exact ⟨0, f1, _, v, f2, by rw [hw, h1, cali_r], e2, t2, hI, fun _ => ug_s _ _ _ _ _⟩
  · obtain ⟨f2, v, e2, t2, hI⟩ := h2 g
    exact ⟨k, f1, g, v, f2, by rw [hw, h1, cali_x, (hx e k hk).1], e2, t2, hI, fun z => absurd z (hx e k hk).2⟩
end AZB
section AZC
theorem w_begin {n f} (g) (x1 : Int32) (hI : Inv n f) : PL n (s_L_begin [.inr (0, 0), .inl (.int x1), .inr (60, 0)]) (s_X10_begin [.inr (19, 0), .inl (.int x1)]) f g := PL.of (p_begin g x1 hI) ((e_L_begin x1 f g).trans (g_L_begin_0 x1 f g)) (by
  intro e k h
  simp only [List.mem_cons, List.not_mem_nil, or_false, Prod.mk.injEq] at h
  rcases h with ⟨rfl, rfl⟩ <;> exact ⟨fun _ _ => rfl, by decide +kernel⟩)
theorem w_addPackage {n f} (g) (x1 x2 x3 : Int32) (hI : Inv n f) : PL n (s_L_addPackage [.inr (0, 0), .inl (.int x1), .inl (.int x2), .inl (.int x3), .inr (60, 0)]) (s_X10_addPackage [.inr (19, 0), .inl (.int x1), .inl (.int x2), .inl (.int x3)]) f g := PL.of (p_addPackage g x1 x2 x3 hI) ((e_L_addPackage x1 x2 x3 f g).trans (g_L_addPackage_0 x1 x2 x3 f g)) (by
  intro e k h
  simp only [List.mem_cons, List.not_mem_nil, or_false, Prod.mk.injEq] at h
  rcases h with ⟨rfl, rfl⟩ | ⟨rfl, rfl⟩ | ⟨rfl, rfl⟩ <;> exact ⟨fun _ _ => rfl, by decide +kernel⟩)
theorem w_publish {n f} (g) (x1 : Int32) (hI : Inv n f) : PL n (s_L_publish [.inr (0, 0), .inl (.int x1), .inr (60, 0)]) (s_X10_publish [.inr (19, 0), .inl (.int x1)]) f g := PL.of (p_publish g x1 hI) ((e_L_publish x1 f g).trans (g_L_publish_0 x1 f g)) (by
  intro e k h
  simp only [List.mem_cons, List.not_mem_nil, or_false, Prod.mk.injEq] at h
  rcases h with ⟨rfl, rfl⟩ | ⟨rfl, rfl⟩ <;> exact ⟨fun _ _ => rfl, by decide +kernel⟩)
theorem w_release {n f} (g) (hI : Inv n f) : PL n (s_L_release [.inr (0, 0), .inr (60, 0)]) (s_X10_release [.inr (19, 0)]) f g := PL.of (p_release g  hI) ((e_L_release  f g).trans (g_L_release_0  f g)) (by
  intro e k h
  simp only [List.mem_cons, List.not_mem_nil, or_false, Prod.mk.injEq] at h
  rcases h with ⟨rfl, rfl⟩ <;> exact ⟨fun _ _ => rfl, by decide +kernel⟩)
theorem w_setValidity {n f} (g) (x1 : Int32) (hI : Inv n f) : PL n (s_L_setValidity [.inr (0, 0), .inl (.int x1), .inr (60, 0)]) (s_X10_setValidity [.inr (19, 0), .inl (.int x1)]) f g := PL.of (p_setValidity g x1 hI) ((e_L_setValidity x1 f g).trans (g_L_setValidity_0 x1 f g)) (by
  intro e k h
  simp only [List.mem_cons, List.not_mem_nil, or_false, Prod.mk.injEq] at h
  rcases h with ⟨rfl, rfl⟩ <;> exact ⟨fun _ _ => rfl, by decide +kernel⟩)
theorem w_append {n f} (g) (x1 : Int32) (hI : Inv n f) : PL n (s_L_append [.inr (0, 0), .inl (.int x1), .inr (60, 0)]) (s_X10_append [.inr (19, 0), .inl (.int x1)]) f g := PL.of (p_append g x1 hI) ((e_L_append x1 f g).trans (g_L_append_0 x1 f g)) (by
  intro e k h
  simp only [List.mem_cons, List.not_mem_nil, or_false, Prod.mk.injEq] at h
  rcases h with ⟨rfl, rfl⟩ | ⟨rfl, rfl⟩ <;> exact ⟨fun _ _ => rfl, by decide +kernel⟩)
theorem w_load {n f} (g) (hI : Inv n f) : PL n (s_L_load [.inr (0, 0), .inr (60, 0)]) (s_X10_load [.inr (19, 0)]) f g := PL.of (p_load g  hI) ((e_L_load  f g).trans (g_L_load_0  f g)) (by
  intro e k h
  simp only [List.mem_cons, List.not_mem_nil, or_false, Prod.mk.injEq] at h
  rcases h with ⟨rfl, rfl⟩ <;> exact ⟨fun _ _ => rfl, by decide +kernel⟩)
theorem w_addMirror {n f} (g) (x1 x2 x3 x4 x5 : Int32) (c : Bool) (hI : Inv n f) : PL n (s_L_addMirror [.inr (0, 0), .inl (.int x1), .inl (.int x2), .inl (.int x3), .inl (.int x4), .inl (.int x5), .inl (.int (b2 c)), .inr (60, 0)]) (s_X10_addMirror [.inr (19, 0), .inl (.int x1), .inl (.int x2), .inl (.int x3), .inl (.int x4), .inl (.int x5), .inl (.int (b2 c))]) f g := PL.of (p_addMirror g x1 x2 x3 x4 x5 c hI) ((e_L_addMirror x1 x2 x3 x4 x5 (b2 c) f g).trans (g_L_addMirror_0 x1 x2 x3 x4 x5 (b2 c) f g)) (by
  intro e k h
  simp only [List.mem_cons, List.not_mem_nil, or_false, Prod.mk.injEq] at h
  rcases h with ⟨rfl, rfl⟩ | ⟨rfl, rfl⟩ | ⟨rfl, rfl⟩ <;> exact ⟨fun _ _ => rfl, by decide +kernel⟩)
theorem w_tamper {n f} (g) (x1 : Int32) (hI : Inv n f) : PL n (s_L_tamper [.inr (0, 0), .inl (.int x1), .inr (60, 0)]) (s_X10_tamper [.inr (19, 0), .inl (.int x1)]) f g := PL.of (p_tamper g x1 hI) ((e_L_tamper x1 f g).trans (g_L_tamper_0 x1 f g)) (by
  intro e k h
  simp only [List.mem_cons, List.not_mem_nil, or_false, Prod.mk.injEq] at h
  rcases h with ⟨rfl, rfl⟩ | ⟨rfl, rfl⟩ <;> exact ⟨fun _ _ => rfl, by decide +kernel⟩)
theorem w_removeFile {n f} (g) (x1 x2 x3 : Int32) (hI : Inv n f) : PL n (s_L_removeFile [.inr (0, 0), .inl (.int x1), .inl (.int x2), .inl (.int x3), .inr (60, 0)]) (s_X10_removeFile [.inr (19, 0), .inl (.int x1), .inl (.int x2), .inl (.int x3)]) f g := PL.of (p_removeFile g x1 x2 x3 hI) ((e_L_removeFile x1 x2 x3 f g).trans (g_L_removeFile_0 x1 x2 x3 f g)) (by
  intro e k h
  simp only [List.mem_cons, List.not_mem_nil, or_false, Prod.mk.injEq] at h
  rcases h with ⟨rfl, rfl⟩ | ⟨rfl, rfl⟩ <;> exact ⟨fun _ _ => rfl, by decide +kernel⟩)
theorem w_pass {n f} (g) (x1 : Int32) (hn : n ≤ 1000) (hI : Inv n f) : PL n (s_L_pass [.inr (0, 0), .inl (.int x1), .inr (60, 0)]) (s_X10_pass [.inr (19, 0), .inl (.int x1)]) f g := PL.of (p_pass g x1 hn hI) ((e_L_pass x1 f g).trans (g_L_pass_0 x1 f g)) (by
  intro e k h
  simp only [List.mem_cons, List.not_mem_nil, or_false, Prod.mk.injEq] at h
  rcases h with ⟨rfl, rfl⟩ <;> exact ⟨fun _ _ => rfl, by decide +kernel⟩)
theorem w_mirror {n f} (g) (x1 x2 : Int32) (hI : Inv n f) : PL n (s_L_mirror [.inr (0, 0), .inl (.int x1), .inl (.int x2), .inr (60, 0)]) (s_X10_mirror [.inr (19, 0), .inl (.int x1), .inl (.int x2)]) f g := PL.of (p_mirror g x1 x2 hI) ((e_L_mirror x1 x2 f g).trans (g_L_mirror_0 x1 x2 f g)) (by
  intro e k h
  simp only [List.mem_cons, List.not_mem_nil, or_false, Prod.mk.injEq] at h
  rcases h with ⟨rfl, rfl⟩ | ⟨rfl, rfl⟩ <;> exact ⟨fun _ _ => rfl, by decide +kernel⟩)
theorem w_files {n f} (g) (x1 x2 : Int32) (hI : Inv n f) : PL n (s_L_files [.inr (0, 0), .inl (.int x1), .inl (.int x2), .inr (60, 0)]) (s_X10_files [.inr (19, 0), .inl (.int x1), .inl (.int x2)]) f g := PL.of (p_files g x1 x2 hI) ((e_L_files x1 x2 f g).trans (g_L_files_0 x1 x2 f g)) (by
  intro e k h
  simp only [List.mem_cons, List.not_mem_nil, or_false, Prod.mk.injEq] at h
  rcases h with ⟨rfl, rfl⟩ <;> exact ⟨fun _ _ => rfl, by decide +kernel⟩)
theorem w_addClient {n f} (g) (x1 : Int32) (hI : Inv n f) : PL n (s_L_addClient [.inr (0, 0), .inl (.int x1), .inr (60, 0)]) (s_X10_addClient [.inr (19, 0), .inl (.int x1)]) f g := PL.of (p_addClient g x1 hI) ((e_L_addClient x1 f g).trans (g_L_addClient_0 x1 f g)) (by
  intro e k h
  simp only [List.mem_cons, List.not_mem_nil, or_false, Prod.mk.injEq] at h
  rcases h with ⟨rfl, rfl⟩ | ⟨rfl, rfl⟩ <;> exact ⟨fun _ _ => rfl, by decide +kernel⟩)
theorem w_install {n f} (g) (x1 x2 : Int32) (hI : Inv n f) : PL n (s_L_install [.inr (0, 0), .inl (.int x1), .inl (.int x2), .inr (60, 0)]) (s_X10_install [.inr (19, 0), .inl (.int x1), .inl (.int x2)]) f g := PL.of (p_install g x1 x2 hI) ((e_L_install x1 x2 f g).trans (g_L_install_0 x1 x2 f g)) (by
  intro e k h
  simp only [List.mem_cons, List.not_mem_nil, or_false, Prod.mk.injEq] at h
  rcases h with ⟨rfl, rfl⟩ | ⟨rfl, rfl⟩ <;> exact ⟨fun _ _ => rfl, by decide +kernel⟩)
theorem w_ifInstalled {n f} (g) (x1 x2 x3 : Int32) (hI : Inv n f) : PL n (s_L_ifInstalled [.inr (0, 0), .inl (.int x1), .inl (.int x2), .inl (.int x3), .inr (60, 0)]) (s_X10_ifInstalled [.inr (19, 0), .inl (.int x1), .inl (.int x2), .inl (.int x3)]) f g := PL.of (p_ifInstalled g x1 x2 x3 hI) ((e_L_ifInstalled x1 x2 x3 f g).trans (g_L_ifInstalled_0 x1 x2 x3 f g)) (by
  intro e k h
  simp only [List.mem_cons, List.not_mem_nil, or_false, Prod.mk.injEq] at h
  rcases h with ⟨rfl, rfl⟩ | ⟨rfl, rfl⟩ <;> exact ⟨fun _ _ => rfl, by decide +kernel⟩)
theorem w_until {n f} (g) (x1 x2 : Int32) (hn : n ≤ 1000) (hI : Inv n f) : PL n (s_L_until [.inr (0, 0), .inl (.int x1), .inl (.int x2), .inr (60, 0)]) (s_X10_until [.inr (19, 0), .inl (.int x1), .inl (.int x2)]) f g := PL.of (p_until g x1 x2 hn hI) ((e_L_until x1 x2 f g).trans (g_L_until_0 x1 x2 f g)) (by
  intro e k h
  simp only [List.mem_cons, List.not_mem_nil, or_false, Prod.mk.injEq] at h
  rcases h with ⟨rfl, rfl⟩ | ⟨rfl, rfl⟩ <;> exact ⟨fun _ _ => rfl, by decide +kernel⟩)
theorem w_client {n f} (g) (x1 x2 : Int32) (hI : Inv n f) : PL n (s_L_client [.inr (0, 0), .inl (.int x1), .inl (.int x2), .inr (60, 0)]) (s_X10_client [.inr (19, 0), .inl (.int x1), .inl (.int x2)]) f g := PL.of (p_client g x1 x2 hI) ((e_L_client x1 x2 f g).trans (g_L_client_0 x1 x2 f g)) (by
  intro e k h
  simp only [List.mem_cons, List.not_mem_nil, or_false, Prod.mk.injEq] at h
  rcases h with ⟨rfl, rfl⟩ | ⟨rfl, rfl⟩ <;> exact ⟨fun _ _ => rfl, by decide +kernel⟩)
theorem w_count {n f} (g) (x1 : Int32) (hI : Inv n f) : PL n (s_L_count [.inr (0, 0), .inl (.int x1), .inr (60, 0)]) (s_X10_count [.inr (19, 0), .inl (.int x1)]) f g := PL.of (p_count g x1 hI) ((e_L_count x1 f g).trans (g_L_count_0 x1 f g)) (by
  intro e k h
  simp only [List.mem_cons, List.not_mem_nil, or_false, Prod.mk.injEq] at h
  rcases h with ⟨rfl, rfl⟩ <;> exact ⟨fun _ _ => rfl, by decide +kernel⟩)
theorem w_packageAt {n f} (g) (x1 x2 : Int32) (hI : Inv n f) : PL n (s_L_packageAt [.inr (0, 0), .inl (.int x1), .inl (.int x2), .inr (60, 0)]) (s_X10_packageAt [.inr (19, 0), .inl (.int x1), .inl (.int x2)]) f g := PL.of (p_packageAt g x1 x2 hI) ((e_L_packageAt x1 x2 f g).trans (g_L_packageAt_0 x1 x2 f g)) (by
  intro e k h
  simp only [List.mem_cons, List.not_mem_nil, or_false, Prod.mk.injEq] at h
  rcases h with ⟨rfl, rfl⟩ | ⟨rfl, rfl⟩ <;> exact ⟨fun _ _ => rfl, by decide +kernel⟩)
theorem w_index {n f} (g) (x1 x2 : Int32) (hI : Inv n f) : PL n (s_L_index [.inr (0, 0), .inl (.int x1), .inl (.int x2), .inr (60, 0)]) (s_X10_index [.inr (19, 0), .inl (.int x1), .inl (.int x2)]) f g := PL.of (p_index g x1 x2 hI) ((e_L_index x1 x2 f g).trans (g_L_index_0 x1 x2 f g)) (by
  intro e k h
  simp only [List.mem_cons, List.not_mem_nil, or_false, Prod.mk.injEq] at h
  rcases h with ⟨rfl, rfl⟩ | ⟨rfl, rfl⟩ <;> exact ⟨fun _ _ => rfl, by decide +kernel⟩)
theorem x10_thrown (f g) : s_X10_thrown [.inr (19, 0)] f g = rI (f 19 0 0) f g := by
  rw [e_X10_thrown, g_X10_thrown_0]
end AZC
