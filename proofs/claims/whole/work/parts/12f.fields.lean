/-! fields and switches -/
theorem ax_e0 {α : Type} {p : α → Prop} : ∀ q ∈ ([] : List α), p q := fun _ h => absurd h List.not_mem_nil
def ax_fldb (own : String) (q : Nat × Nat × Nat) : Bool := match vwCl[q.2.1]? with
  | some (_, T, N) => decide (q.2.2 < N) && (decide (Cond.fieldLink own q.1 (T q.2.2).1 (T q.2.2).2.1 (T q.2.2).2.2.1 ∈ lw_tbl) && goodWord (Cond.fieldLink own q.1 (T q.2.2).1 (T q.2.2).2.1 (T q.2.2).2.2.1))
  | none => false
theorem ax_fld_of {own : String} {l : List (Nat × Nat × Nat)} (h : l.all (ax_fldb own) = true) : ∀ q ∈ l, ax_FldOk own q := by
  intro q hq
  have h1 := List.all_eq_true.mp h q hq
  unfold ax_fldb at h1
  cases e : vwCl[q.2.1]? with
  | none => rw [e] at h1; cases h1
  | some z =>
    obtain ⟨C, T, N⟩ := z
    rw [e] at h1
    simp only [Bool.and_eq_true, decide_eq_true_eq] at h1
    exact ⟨C, T, N, e, h1.1, ax_inT h1.2⟩
def fl_X9 : List (Nat × Nat × Nat) := [(10, 9, 0), (21, 9, 1), (38, 9, 4), (45, 9, 5), (79, 0, 3), (147, 5, 2), (30, 9, 3), (66, 9, 6), (126, 3, 2), (166, 5, 1), (98, 6, 4), (231, 7, 2), (25, 9, 2), (56, 0, 2), (94, 0, 0), (107, 0, 4), (112, 5, 3), (178, 4, 7), (202, 5, 4), (121, 0, 5), (215, 4, 0), (285, 3, 0), (302, 6, 0), (305, 6, 1), (308, 6, 2), (183, 4, 8), (311, 6, 3), (329, 7, 3), (330, 7, 4)]
theorem flok_X9 : ∀ q ∈ fl_X9, ax_FldOk RX9 q := ax_fld_of (by decide +kernel)
def fl_X0 : List (Nat × Nat × Nat) := [(35, 0, 4), (32, 0, 3), (19, 0, 1), (11, 0, 0), (61, 2, 0), (60, 2, 1), (57, 2, 2), (69, 2, 3), (51, 6, 3), (54, 6, 4), (29, 0, 5), (38, 6, 0), (41, 6, 1), (44, 6, 2), (25, 0, 2)]
theorem flok_X0 : ∀ q ∈ fl_X0, ax_FldOk RX0 q := ax_fld_of (by decide +kernel)
def fl_X1 : List (Nat × Nat × Nat) := [(9, 1, 0), (19, 1, 2), (15, 1, 1)]
theorem flok_X1 : ∀ q ∈ fl_X1, ax_FldOk RX1 q := ax_fld_of (by decide +kernel)
def fl_X3 : List (Nat × Nat × Nat) := [(18, 3, 1), (22, 3, 2), (9, 3, 0), (50, 8, 0), (53, 8, 1), (56, 8, 2), (26, 0, 2), (31, 0, 3)]
theorem flok_X3 : ∀ q ∈ fl_X3, ax_FldOk RX3 q := ax_fld_of (by decide +kernel)
def fl_X4 : List (Nat × Nat × Nat) := [(9, 4, 0), (19, 4, 2), (35, 4, 7), (38, 4, 8), (22, 4, 3), (15, 4, 1), (25, 4, 4), (28, 4, 5), (31, 4, 6)]
theorem flok_X4 : ∀ q ∈ fl_X4, ax_FldOk RX4 q := ax_fld_of (by decide +kernel)
def fl_X5 : List (Nat × Nat × Nat) := [(17, 5, 0), (11, 5, 1), (47, 4, 7), (22, 5, 2), (26, 5, 3), (29, 5, 4), (69, 4, 4), (88, 0, 3), (103, 6, 1), (76, 0, 4), (108, 6, 0), (50, 4, 6), (91, 0, 0), (130, 4, 1), (133, 4, 2), (136, 4, 3), (139, 4, 8), (85, 4, 5)]
theorem flok_X5 : ∀ q ∈ fl_X5, ax_FldOk RX5 q := ax_fld_of (by decide +kernel)
def fl_X7 : List (Nat × Nat × Nat) := [(43, 7, 3), (31, 7, 4), (15, 7, 0), (35, 1, 1), (9, 7, 1), (57, 7, 2), (73, 1, 0), (60, 1, 2), (46, 5, 2), (80, 0, 0), (84, 6, 1)]
theorem flok_X7 : ∀ q ∈ fl_X7, ax_FldOk RX7 q := ax_fld_of (by decide +kernel)
def fl_X8 : List (Nat × Nat × Nat) := [(22, 8, 3), (19, 8, 5), (31, 8, 2), (28, 8, 1), (9, 8, 4), (25, 8, 0)]
theorem flok_X8 : ∀ q ∈ fl_X8, ax_FldOk RX8 q := ax_fld_of (by decide +kernel)
def fl_X10 : List (Nat × Nat × Nat) := [(96, 10, 0), (99, 10, 2), (57, 10, 22), (63, 10, 24), (106, 10, 4), (112, 10, 3), (134, 10, 28), (137, 10, 33), (109, 10, 5), (115, 10, 6), (60, 10, 23), (140, 10, 31), (146, 10, 30), (26, 10, 12), (118, 10, 8), (72, 10, 27), (7, 10, 1), (13, 10, 7), (20, 10, 10), (47, 10, 19), (66, 10, 25), (143, 10, 32), (276, 10, 40), (29, 10, 13), (41, 10, 17), (44, 10, 18), (69, 10, 26), (16, 10, 9), (23, 10, 11), (38, 10, 16), (75, 10, 29), (84, 10, 36), (32, 10, 14), (35, 10, 15), (50, 10, 20), (53, 10, 21), (78, 10, 34), (81, 10, 35), (87, 10, 37), (90, 10, 38), (93, 10, 39)]
theorem flok_X10 : ∀ q ∈ fl_X10, ax_FldOk RX10 q := ax_fld_of (by decide +kernel)
theorem ax_Sw_of {cc : ByteArray} {pc : Nat} {cs : List (Int32 × Nat)} {dt : Nat} (d0 : Int) (offs0 : Array Int) (len0 n : Nat) (hd : decode cc pc = .ok (.tableswitch d0 0 ((n : Int) - 1) offs0, len0)) (h0 : (pc : Int) + d0 = (dt : Int)) (hn : n < 1000) (h1 : cs.map Prod.fst = (List.range n).map nI)
    (h2 : cs.all (fun c => decide (¬ c.1.toInt < 0) && (decide (¬ (n : Int) - 1 < c.1.toInt) && (match offs0[(c.1.toInt - 0).toNat]? with | some off => decide ((pc : Int) + off = (c.2 : Int)) | none => false))) = true) : ax_Sw cc (pc, cs, dt) := by
  intro dflt lo hi offs len h
  rw [hd] at h
  cases h
  refine ⟨h0, fun x hx => ?_, fun c hc => ?_⟩
  · by_cases a : x.toInt < 0
    · exact Or.inl a
    by_cases b : (n : Int) - 1 < x.toInt
    · exact Or.inr b
    exfalso
    have hx0 : ¬ x < 0 := fun q => a (by rw [Int32.lt_iff_toInt_lt, Int32.toInt_zero] at q; exact q)
    obtain ⟨j, hj, rfl⟩ := nI_of hx0
    rw [nI_toInt hj] at b
    have hj2 : j < n := by omega
    have hm : nI j ∈ cs.map Prod.fst := by rw [h1]; exact List.mem_map.mpr ⟨j, List.mem_range.mpr hj2, rfl⟩
    obtain ⟨c, hc, he⟩ := List.mem_map.mp hm
    exact hx c hc he.symm
  · have h3 := List.all_eq_true.mp h2 c hc
    simp only [Bool.and_eq_true, decide_eq_true_eq] at h3
    obtain ⟨a, b, d⟩ := h3
    refine ⟨a, b, ?_⟩
    cases e : offs0[(c.1.toInt - 0).toNat]? with
    | none => rw [e] at d; cases d
    | some off => rw [e] at d; exact ⟨off, rfl, of_decide_eq_true d⟩
