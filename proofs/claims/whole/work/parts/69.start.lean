/-! what holds at the law's entry -/
section BXF
theorem bx_inst {ci : Nat} {C : String} {T : u_T} {N : Nat} (h : vwCl[ci]? = some (C, T, N)) : Cond.instantiable C N ∈ ax_T := by
  match ci, h with
  | 0, h => cases h; exact zn_X0
  | 1, h => cases h; exact zn_X1
  | 2, h => cases h; exact zn_X2
  | 3, h => cases h; exact zn_X3
  | 4, h => cases h; exact zn_X4
  | 5, h => cases h; exact zn_X5
  | 6, h => cases h; exact zn_X6
  | 7, h => cases h; exact zn_X7
  | 8, h => cases h; exact zn_X8
  | 9, h => cases h; exact zn_X9
  | 10, h => cases h; exact zn_X10
  | n + 11, h => cases h
def bx_tyL : List FieldType := [.int, .boolean, .long, .object RX6, .object RX2, .object RX4, .object RX1]
theorem bx_arP {s : State} {args : Array Value} {ty : FieldType} (h : (Cond.arrayClass ty).before args s = true) (hp : ∀ c, va_RA s c ty = (s.vm.findClass ("[" ++ ty.toString) = some c)) : ∃ c : ClassId, ArrOfT s c ty ∧ va_RA s c ty := by
  obtain ⟨c, k, comp, h1, h2, h3⟩ := Cond.arrayClass_spec h
  exact ⟨c, fun n z => ⟨fun k h => (by cases h), k, h2, comp, h3⟩, by rw [hp]; exact h1⟩
theorem bx_arQ {s : State} {C : String} (h : va_AO C s) : ∃ c : ClassId, ArrOfT s c (.object C) ∧ va_RA s c (.object C) := by
  obtain ⟨comp, c, k, h1, -, h3, h4, h5⟩ := Cond.arrayOver_spec h
  exact ⟨c, fun n z => ⟨fun k h => (by cases h), k, h3, comp, h4⟩, k, comp, h3, h4, h1, h5⟩
theorem bx_K {s : State} {args : Array Value} (hts : ∀ w ∈ ax_T, w.before args s = true) (hAO : ∀ t, va_AO (bx_ec t) s) : ∃ (D : va_G) (cA : Nat → ClassId), va_K D vwCl (ax_tys cA) s := by
  have h1 : ∀ ci : Nat, ∃ x : ClassId × (Nat → Nat), ∀ q : vw_C, vwCl[ci]? = some q → u_Kn s q.1 q.2.1 q.2.2 x.1 x.2 := by
    intro ci
    cases e : vwCl[ci]? with
    | none => exact ⟨(0, fun _ => 0), fun q h => by cases h⟩
    | some q =>
      obtain ⟨C, T, N⟩ := q
      obtain ⟨hN, hin, -⟩ := ax_cf e
      obtain ⟨cC, iS, hk⟩ := u_known hts hin (hts _ (bx_inst e))
      exact ⟨(cC, iS), fun q' h => by cases h; exact hk⟩
  have h2 : ∀ t : Nat, ∃ c : ClassId, ∀ ty : FieldType, bx_tyL[t]? = some ty → ArrOfT s c ty ∧ va_RA s c ty := by
    intro t
    match t with
    | 0 => obtain ⟨c, h⟩ := bx_arP (hts _ wa_0) (fun _ => rfl); exact ⟨c, fun ty e => by cases e; exact h⟩
    | 1 => obtain ⟨c, h⟩ := bx_arP (hts _ wa_1) (fun _ => rfl); exact ⟨c, fun ty e => by cases e; exact h⟩
    | 2 => obtain ⟨c, h⟩ := bx_arP (hts _ wa_2) (fun _ => rfl); exact ⟨c, fun ty e => by cases e; exact h⟩
    | 3 => obtain ⟨c, h⟩ := bx_arQ (hAO 3); exact ⟨c, fun ty e => by cases e; exact h⟩
    | 4 => obtain ⟨c, h⟩ := bx_arQ (hAO 4); exact ⟨c, fun ty e => by cases e; exact h⟩
    | 5 => obtain ⟨c, h⟩ := bx_arQ (hAO 5); exact ⟨c, fun ty e => by cases e; exact h⟩
    | 6 => obtain ⟨c, h⟩ := bx_arQ (hAO 6); exact ⟨c, fun ty e => by cases e; exact h⟩
    | t + 7 => exact ⟨0, fun ty e => by cases e⟩
  obtain ⟨F, hF⟩ := Classical.axiomOfChoice h1
  obtain ⟨cA, hA⟩ := Classical.axiomOfChoice h2
  refine ⟨(fun c => (F c).1, fun c => (F c).2), cA, fun c q h => hF c q h, fun k q h => ?_⟩
  match k, h with
  | 0, h => cases h; exact hA 0 _ rfl
  | 1, h => cases h; exact hA 1 _ rfl
  | 2, h => cases h; exact hA 2 _ rfl
  | 3, h => cases h; exact hA 3 _ rfl
  | 4, h => cases h; exact hA 4 _ rfl
  | 5, h => cases h; exact hA 5 _ rfl
  | 6, h => cases h; exact hA 6 _ rfl
  | k + 7, h => cases h
theorem sy_1 : ∀ q ∈ ax_sts, Cond.exactly (.string q.1 q.2.1) "java/lang/String" ∈ flatC (Jvm.Cond.and given_1 narrow_1) := by decide +kernel
theorem sy_2 : ∀ q ∈ ax_sts, Cond.stringRef q.1 q.2.1 q.2.2 ∈ lw_tbl := by decide +kernel
theorem sy_3 : ∀ q ∈ ax_nes, Cond.methodLinkNest q.1 q.2.1 q.2.2.1 q.2.2.2 ∈ lw_tbl := by decide +kernel
theorem sy_4 : ∀ a ∈ [1, 2, 3], ∀ b ∈ [1, 2, 3], a ≠ b → Cond.not (.castable (ax_en a) (ax_en b)) ∈ flatC (Jvm.Cond.and given_1 narrow_1) := by decide +kernel
theorem sy_5 : ∀ q ∈ bx_nes, Cond.methodLinkNest q.1 q.2.1 q.2.2.1 q.2.2.2 ∈ lw_tbl := by decide +kernel
theorem sy_6 : ∀ t ∈ [3, 4, 5, 6], Cond.arrayOver (.object (bx_ec t)) ∈ lw_tbl := by decide +kernel
theorem sy_7 : Cond.laysStatic Bundle.tN "UNASSIGNED_STACK" Bundle.steD ∈ lw_tbl ∧ Cond.laysStatic Bundle.tN "SUPPRESSED_SENTINEL" Bundle.listD ∈ lw_tbl ∧ Cond.initialized Bundle.tN ∈ lw_tbl := by decide +kernel
theorem sy_8 : Cond.isRef (.static Bundle.tN "UNASSIGNED_STACK" Bundle.steD) ∈ flatC (Jvm.Cond.and given_1 narrow_1) ∧ Cond.isRef (.static Bundle.tN "SUPPRESSED_SENTINEL" Bundle.listD) ∈ flatC (Jvm.Cond.and given_1 narrow_1) := by decide +kernel
theorem ax_en_3 (a : Nat) : ∃ a' ∈ [1, 2, 3], ax_en a = ax_en a' := by
  match a with
  | 0 => exact ⟨3, by decide, rfl⟩
  | 1 => exact ⟨1, by decide, rfl⟩
  | 2 => exact ⟨2, by decide, rfl⟩
  | n + 3 => exact ⟨3, by decide, rfl⟩
theorem bx_ec_3 (t : Nat) : ∃ t' ∈ [3, 4, 5, 6], bx_ec t = bx_ec t' := by
  match t with
  | 0 => exact ⟨6, by decide, rfl⟩
  | 1 => exact ⟨6, by decide, rfl⟩
  | 2 => exact ⟨6, by decide, rfl⟩
  | 3 => exact ⟨3, by decide, rfl⟩
  | 4 => exact ⟨4, by decide, rfl⟩
  | 5 => exact ⟨5, by decide, rfl⟩
  | n + 6 => exact ⟨6, by decide, rfl⟩
theorem first_Y {s : State} {args : Array Value} (hts : ∀ w ∈ lw_tbl, w.before args s = true) (hg : (Jvm.Cond.and given_1 narrow_1).before args s = true) : ax_Y ax_sts ax_nes s ∧ bx_Y s ∧ ax_Z s.heap.size s s.heap := by
  have hs := flat_of_before _ hg
  refine ⟨⟨fun q hq => ?_, fun q hq => va_Nw.of rfl (hts _ (sy_3 q hq)), fun a b h => va_Nw.of rfl (hts _ h), fun a b hab => ?_, fun x h => va_Nw.of rfl (hts _ h)⟩, ⟨fun q hq => va_Nw.of rfl (hts _ (sy_5 q hq)), fun t => ?_⟩, ?_, ?_⟩
  · obtain ⟨a, c, cell, k, q1, -⟩ := Cond.exactly_spec (args := args) (first := s) (o := none) (s := s) (idx := []) (hs _ (sy_1 q hq))
    exact ⟨a, vk_R.of (hts _ (sy_2 q hq)) q1⟩
  · obtain ⟨a', ha', ea⟩ := ax_en_3 a
    obtain ⟨b', hb', eb⟩ := ax_en_3 b
    rw [ea, eb] at hab ⊢
    exact va_Nc.of (hs _ (sy_4 a' ha' b' hb' (fun z => hab (by rw [z]))))
  · obtain ⟨t', ht', et⟩ := bx_ec_3 t
    rw [et]
    exact va_AO.of (hts _ (sy_6 t' ht'))
  · exact vx_Zqof (hts _ sy_7.1) (hts _ sy_7.2.2) (hs _ sy_8.1) (fun a h => Nat.not_le.mpr h)
  · exact vx_Zqof (hts _ sy_7.2.1) (hts _ sy_7.2.2) (hs _ sy_8.2) (fun a h => Nat.not_le.mpr h)
end BXF
