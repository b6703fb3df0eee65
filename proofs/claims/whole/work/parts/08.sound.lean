/-! soundness: a step of the small machine is a step of the machine -/
section AXT
theorem ax_inT {w : Cond} (h : w ∈ lw_tbl ∧ goodWord w = true) : w ∈ ax_T := List.mem_filter.mpr h
theorem ax_T_good {w : Cond} (h : w ∈ ax_T) : goodWord w = true := (List.mem_filter.mp h).2
theorem ax_goodIn {cw : Cond} (h : cw ∈ ax_T) : GoodIn ax_T (cw :: ax_T) := by
  intro w hw
  have hm : w ∈ ax_T := by
    rcases List.mem_cons.mp hw with rfl | hw
    · exact h
    · exact hw
  exact ⟨hm, good_of_word (ax_T_good hm)⟩
theorem ax_in0 : ∀ w ∈ u_ws RX0 TX0 6, w ∈ lw_tbl ∧ goodWord w = true := by decide +kernel
theorem ax_in1 : ∀ w ∈ u_ws RX1 TX1 3, w ∈ lw_tbl ∧ goodWord w = true := by decide +kernel
theorem ax_in2 : ∀ w ∈ u_ws RX2 TX2 4, w ∈ lw_tbl ∧ goodWord w = true := by decide +kernel
theorem ax_in3 : ∀ w ∈ u_ws RX3 TX3 3, w ∈ lw_tbl ∧ goodWord w = true := by decide +kernel
theorem ax_in4 : ∀ w ∈ u_ws RX4 TX4 9, w ∈ lw_tbl ∧ goodWord w = true := by decide +kernel
theorem ax_in5 : ∀ w ∈ u_ws RX5 TX5 5, w ∈ lw_tbl ∧ goodWord w = true := by decide +kernel
theorem ax_in6 : ∀ w ∈ u_ws RX6 TX6 5, w ∈ lw_tbl ∧ goodWord w = true := by decide +kernel
theorem ax_in7 : ∀ w ∈ u_ws RX7 TX7 5, w ∈ lw_tbl ∧ goodWord w = true := by decide +kernel
theorem ax_in8 : ∀ w ∈ u_ws RX8 TX8 6, w ∈ lw_tbl ∧ goodWord w = true := by decide +kernel
theorem ax_in9 : ∀ w ∈ u_ws RX9 TX9 7, w ∈ lw_tbl ∧ goodWord w = true := by decide +kernel
theorem ax_in10 : ∀ w ∈ u_ws RX10 TX10 41, w ∈ lw_tbl ∧ goodWord w = true := by decide +kernel
/-- what the tables say of a class -/
def ax_Cf (ci : Nat) (C : String) (T : u_T) (N : Nat) : Prop := N = ax_nf ci ∧ (∀ w ∈ u_ws C T N, w ∈ ax_T) ∧ ∃ ty : Nat → FieldType, (∀ k, k < N → parseFieldDescriptor (T k).2.2.1 = some (ty k)) ∧ (∀ a, a < N → ∀ b, b < N → a ≠ b → (T a).2.1 ≠ (T b).2.1) ∧
  (∀ k, k < N → ax_ft ci k = 0 → ty k = .int ∧ (T k).2.2.2 = false) ∧ (∀ k, k < N → ax_ft ci k = 1 → ty k = .boolean ∧ (T k).2.2.2 = false) ∧ (∀ k, k < N → ax_ft ci k = 2 → ty k = .long ∧ (T k).2.2.2 = false)
theorem ax_cf {ci : Nat} {C : String} {T : u_T} {N : Nat} (h : vwCl[ci]? = some (C, T, N)) : ax_Cf ci C T N := by
  match ci, h with
  | 0, h => cases h; exact ⟨rfl, fun w h => ax_inT (ax_in0 w h), tyX0, tyX0_ok, nmX0, by decide +kernel, by decide +kernel, by decide +kernel⟩
  | 1, h => cases h; exact ⟨rfl, fun w h => ax_inT (ax_in1 w h), tyX1, tyX1_ok, nmX1, by decide +kernel, by decide +kernel, by decide +kernel⟩
  | 2, h => cases h; exact ⟨rfl, fun w h => ax_inT (ax_in2 w h), tyX2, tyX2_ok, nmX2, by decide +kernel, by decide +kernel, by decide +kernel⟩
  | 3, h => cases h; exact ⟨rfl, fun w h => ax_inT (ax_in3 w h), tyX3, tyX3_ok, nmX3, by decide +kernel, by decide +kernel, by decide +kernel⟩
  | 4, h => cases h; exact ⟨rfl, fun w h => ax_inT (ax_in4 w h), tyX4, tyX4_ok, nmX4, by decide +kernel, by decide +kernel, by decide +kernel⟩
  | 5, h => cases h; exact ⟨rfl, fun w h => ax_inT (ax_in5 w h), tyX5, tyX5_ok, nmX5, by decide +kernel, by decide +kernel, by decide +kernel⟩
  | 6, h => cases h; exact ⟨rfl, fun w h => ax_inT (ax_in6 w h), tyX6, tyX6_ok, nmX6, by decide +kernel, by decide +kernel, by decide +kernel⟩
  | 7, h => cases h; exact ⟨rfl, fun w h => ax_inT (ax_in7 w h), tyX7, tyX7_ok, nmX7, by decide +kernel, by decide +kernel, by decide +kernel⟩
  | 8, h => cases h; exact ⟨rfl, fun w h => ax_inT (ax_in8 w h), tyX8, tyX8_ok, nmX8, by decide +kernel, by decide +kernel, by decide +kernel⟩
  | 9, h => cases h; exact ⟨rfl, fun w h => ax_inT (ax_in9 w h), tyX9, tyX9_ok, nmX9, by decide +kernel, by decide +kernel, by decide +kernel⟩
  | 10, h => cases h; exact ⟨rfl, fun w h => ax_inT (ax_in10 w h), tyX10, tyX10_ok, nmX10, by decide +kernel, by decide +kernel, by decide +kernel⟩
  | n + 11, h => cases h
theorem ax_kc_ka {a ci : Nat} (h : ax_kc a = some ci) : ax_ka a = none := by
  unfold ax_kc at h
  split at h <;> first | rfl | cases h
theorem ax_ka_t {a t n : Nat} (h : ax_ka a = some (t, n)) : t ≤ 6 ∧ n ≤ 252 := by
  unfold ax_ka at h
  split at h <;> first | (cases h; exact ⟨by decide, by decide⟩) | cases h
def ax_ckr (q : Nat × Nat) : Bool := match ax_kc q.1 with
  | some ci => (List.range (ax_nf ci)).all fun j => !(Nat.beq (ax_ft ci j) 3) || (match ax_r0 q.1 q.2 j with | some w => decide (w ∈ ax_all) | none => true)
  | none => match ax_ka q.1 with
    | some (t, n) => !(Nat.ble 3 t) || (List.range n).all fun j => (match ax_r0 q.1 q.2 j with | some w => decide (w ∈ ax_all) | none => true)
    | none => true
theorem ax_ckr_all : ax_all.all ax_ckr = true := by decide +kernel
theorem ax_r0_obj {a i ci j : Nat} (h : (a, i) ∈ ax_all) (hc : ax_kc a = some ci) (hj : j < ax_nf ci) (ht : ax_ft ci j = 3) : ∀ w, ax_r0 a i j = some w → w ∈ ax_all := by
  intro w hw
  have h1 := List.all_eq_true.mp ax_ckr_all (a, i) h
  unfold ax_ckr at h1
  simp only [hc] at h1
  have h2 := List.all_eq_true.mp h1 j (List.mem_range.mpr hj)
  simp only [ht, hw] at h2
  simpa using h2
theorem ax_r0_arr {a i t n j : Nat} (h : (a, i) ∈ ax_all) (hk : ax_ka a = some (t, n)) (h3 : 3 ≤ t) (hj : j < n) : ∀ w, ax_r0 a i j = some w → w ∈ ax_all := by
  intro w hw
  have hc : ax_kc a = none := by
    cases e : ax_kc a with
    | none => rfl
    | some ci => rw [ax_kc_ka e] at hk; cases hk
  have h1 := List.all_eq_true.mp ax_ckr_all (a, i) h
  unfold ax_ckr at h1
  simp only [hc, hk] at h1
  have h3' : Nat.ble 3 t = true := Nat.ble_eq_true_of_le h3
  rw [h3'] at h1
  have h2 := List.all_eq_true.mp (by simpa using h1) j (List.mem_range.mpr hj)
  simp only [hw] at h2
  simpa using h2
theorem ax_obj_get (base f g) {ci j : Nat} (q : Nat × Nat) (hj : j < ax_nf ci) : (ax_obj base f g ci q)[j]? = some (ax_c base (ax_fv f g (ax_ft ci j) q.1 q.2 j)) := by
  unfold ax_obj
  rw [List.getElem?_map, List.getElem?_range hj]
  rfl
theorem ax_obj_len (base f g ci q) : (ax_obj base f g ci q).length = ax_nf ci := by
  unfold ax_obj
  rw [List.length_map, List.length_range]
theorem ax_up_s (f : ax_F) (k i j : Nat) (x : Int32) : ax_up f k i j x k i j = x := if_pos ⟨rfl, rfl, rfl⟩
theorem ax_up_n (f : ax_F) (k i : Nat) {j j' : Nat} (x : Int32) (h : j' ≠ j) : ax_up f k i j x k i j' = f k i j' := if_neg (fun c => h c.2.2)
theorem ax_ug_s (g : ax_G) (k i j : Nat) (x : Int64) : ax_ug g k i j x k i j = x := if_pos ⟨rfl, rfl, rfl⟩
theorem ax_ug_n (g : ax_G) (k i : Nat) {j j' : Nat} (x : Int64) (h : j' ≠ j) : ax_ug g k i j x k i j' = g k i j' := if_neg (fun c => h c.2.2)
theorem ax_obj_f (base f g) {ci k i j : Nat} (hj : j < ax_nf ci) (ht : ax_ft ci j = 0 ∨ ax_ft ci j = 1) (x : Int32) : (ax_obj base f g ci (k, i)).set j (.int x) = ax_obj base (ax_up f k i j x) g ci (k, i) := by
  apply List.ext_getElem?
  intro n
  rw [List.getElem?_set, ax_obj_len]
  by_cases e : j = n
  · subst e
    rw [if_pos rfl, if_pos hj, ax_obj_get _ _ _ _ hj]
    rcases ht with ht | ht
    · rw [ht]; show some (Value.int x) = some (Value.int _); rw [ax_up_s]
    · rw [ht]; show some (Value.int x) = some (Value.int _); rw [ax_up_s]
  · rw [if_neg e]
    by_cases hn : n < ax_nf ci
    · rw [ax_obj_get _ _ _ _ hn, ax_obj_get _ _ _ _ hn]
      unfold ax_fv
      rw [ax_up_n f k i x (fun c => e c.symm)]
    · rw [List.getElem?_eq_none (by rw [ax_obj_len]; omega), List.getElem?_eq_none (by rw [ax_obj_len]; omega)]
theorem ax_obj_g (base f g) {ci k i j : Nat} (hj : j < ax_nf ci) (ht : ax_ft ci j = 2) (x : Int64) : (ax_obj base f g ci (k, i)).set j (.long x) = ax_obj base f (ax_ug g k i j x) ci (k, i) := by
  apply List.ext_getElem?
  intro n
  rw [List.getElem?_set, ax_obj_len]
  by_cases e : j = n
  · subst e
    rw [if_pos rfl, if_pos hj, ax_obj_get _ _ _ _ hj, ht]
    show some (Value.long x) = some (Value.long _); rw [ax_ug_s]
  · rw [if_neg e]
    by_cases hn : n < ax_nf ci
    · rw [ax_obj_get _ _ _ _ hn, ax_obj_get _ _ _ _ hn]
      unfold ax_fv
      rw [ax_ug_n g k i x (fun c => e c.symm)]
    · rw [List.getElem?_eq_none (by rw [ax_obj_len]; omega), List.getElem?_eq_none (by rw [ax_obj_len]; omega)]
theorem ax_row_f (f : ax_F) (k i j : Nat) (x : Int32) : upd (f k i) j x = (ax_up f k i j x) k i := by
  funext n
  unfold upd ax_up
  by_cases e : n = j
  · simp [e]
  · simp [e]
theorem ax_row_g (g : ax_G) (k i j : Nat) (x : Int64) : vp_updL (g k i) j x = (ax_ug g k i j x) k i := by
  funext n
  unfold vp_updL ax_ug
  by_cases e : n = j
  · simp [e]
  · simp [e]
theorem ax_cell_o (base cA f g) {a ci : Nat} (i : Nat) (h : ax_kc a = some ci) : ax_cell base cA f g (a, i) = .inr (ci, ax_obj base f g ci (a, i)) := by
  unfold ax_cell
  rw [ax_kc_ka h]
  simp only [h, Option.getD_some]
theorem ax_cell_a (base cA f g) {a t n : Nat} (i : Nat) (h : ax_ka a = some (t, n)) : ax_cell base cA f g (a, i) = .inl (cA t, n, ax_row base f g t (a, i)) := by
  unfold ax_cell
  rw [h]
theorem ax_tys_at (cA : Nat → ClassId) {t : Nat} (h : t ≤ 6) : ∃ ty, (ax_tys cA)[t]? = some (cA t, ty) := by
  match t, h with
  | 0, _ => exact ⟨_, rfl⟩
  | 1, _ => exact ⟨_, rfl⟩
  | 2, _ => exact ⟨_, rfl⟩
  | 3, _ => exact ⟨_, rfl⟩
  | 4, _ => exact ⟨_, rfl⟩
  | 5, _ => exact ⟨_, rfl⟩
  | 6, _ => exact ⟨_, rfl⟩
theorem ax_tys_r (cA : Nat → ClassId) {t : Nat} (h : t ≤ 6) (h3 : 3 ≤ t) : ∃ C, (ax_tys cA)[t]? = some (cA t, .object C) := by
  match t, h, h3 with
  | 3, _, _ => exact ⟨_, rfl⟩
  | 4, _, _ => exact ⟨_, rfl⟩
  | 5, _, _ => exact ⟨_, rfl⟩
  | 6, _, _ => exact ⟨_, rfl⟩
theorem ax_rv_c (base : Nat) (o : Option (Nat × Nat)) : va_rf (o.map (ax_ad base)) = ax_c base (ax_rv o) := by
  cases o <;> rfl
theorem ax_okt {v : ax_V} {r : List ax_V} (h : ∀ w ∈ v :: r, ax_ok w) : ∀ w ∈ r, ax_ok w := fun w hw => h w (List.mem_cons_of_mem _ hw)
theorem ax_okc {v : ax_V} {r : List ax_V} (hv : ax_ok v) (h : ∀ w ∈ r, ax_ok w) : ∀ w ∈ v :: r, ax_ok w := by
  intro w hw
  rcases List.mem_cons.mp hw with rfl | hw
  · exact hv
  · exact h w hw
theorem ax_ok_rv {o : Option (Nat × Nat)} (h : ∀ w, o = some w → w ∈ ax_all) : ax_ok (ax_rv o) := by
  cases o with
  | none => exact trivial
  | some w => exact h w rfl
theorem ax_wd_c (base : Nat) : ∀ (st : List ax_V), ((st.map (ax_c base)).map fun v => v.category).sum = ax_wd st := by
  intro st
  induction st with
  | nil => rfl
  | cons v r ih =>
    simp only [List.map_cons, List.sum_cons, ih, ax_wd]
    congr 1
    rcases v with v | q
    · cases v <;> rfl
    · rfl
theorem ax_ZW {base : Nat} {s U : State} {H : Heap} {locs : List Loc} (hS : va_S (ax_A base) s.heap H locs) (hU : U.heap = H) (hW : s.WarmedH U.vm) (hZ : ax_Z base s s.heap) : ax_Z base U U.heap := by
  have hk : ∀ a : Nat, a < s.heap.size → ¬ ax_A base a → U.heap[a]? = s.heap[a]? := fun a h1 h2 => by rw [hU]; exact hS.2.1 a h1 h2
  exact ⟨(hZ.1.moved hW.alike).kept hk, (hZ.2.moved hW.alike).kept hk⟩
end AXT
