/-! the class's sets and the reference's -/
section AXZ
theorem orf_bt (n : Nat) (P : Nat → Prop) [DecidablePred P] (F : Nat → Int32) (k : Nat) : bt (ax_it n (fun i a => if P i then a ||| F i else a) 0) k = true ↔ ∃ i, i < n ∧ P i ∧ bt (F i) k = true := by
  induction n with
  | zero =>
    rw [ax_it_0, b_0]
    exact ⟨fun q => absurd q (by decide), fun ⟨i, h, _⟩ => absurd h (by omega)⟩
  | succ n ih =>
    rw [ax_it_s]
    by_cases h : P n
    · rw [if_pos h, b_or, Bool.or_eq_true, ih]
      constructor
      · rintro (⟨i, h1, h2⟩ | h1)
        · exact ⟨i, by omega, h2⟩
        · exact ⟨n, by omega, h, h1⟩
      · rintro ⟨i, h1, h2⟩
        by_cases q : i = n
        · subst q; exact Or.inr h2.2
        · exact Or.inl ⟨i, by omega, h2⟩
    · rw [if_neg h, ih]
      constructor
      · rintro ⟨i, h1, h2⟩; exact ⟨i, by omega, h2⟩
      · rintro ⟨i, h1, h2⟩
        by_cases q : i = n
        · subst q; exact absurd h2.1 h
        · exact ⟨i, by omega, h2⟩
theorem bit_bt' : ∀ i, i < 32 → ∀ k, k < 32 → bt ((1 : Int32) <<< (nI i &&& 31)) k = decide (k = i) := by decide +kernel
theorem bit_bt {i : Nat} (hi : i < 32) (k : Nat) : bt ((1 : Int32) <<< (nI i &&& 31)) k = decide (k = i) := by
  by_cases h : k < 32
  · exact bit_bt' i hi k h
  · rw [b_big (by omega), decide_eq_false (by omega)]
theorem bx {x y : Int32} (h : ∀ k, k < 32 → (bt x k = true ↔ bt y k = true)) : x = y := b_ext (fun k hk => by
  have := h k hk
  cases hx : bt x k <;> cases hy : bt y k <;> simp_all)
/-- the packages' closures, as the class keeps them -/
def CLI (f : ax_F) (np : Nat) : Prop := ∀ p, p < np → f 31 0 p = f 3 p 2 ∧ (∀ i, p ≤ i → i < 32 → bt (f 3 p 2) i = false) ∧ f 3 p 3 = xcl f p (f 3 p 2) ||| ((1 : Int32) <<< (nI p &&& 31))
theorem xcl_bt (f : ax_F) {n : Nat} (hn : n ≤ 12) (set : Int32) (k : Nat) : bt (xcl f n set) k = true ↔ ∃ i, i < n ∧ bt set i = true ∧ bt (f 3 i 3) k = true := by
  unfold xcl
  rw [orf_bt n (fun i => hs set (nI i) = true) (fun i => f 3 i 3) k]
  constructor
  · rintro ⟨i, h1, h2, h3⟩; exact ⟨i, h1, by rw [← hs_bt (by omega)]; exact h2, h3⟩
  · rintro ⟨i, h1, h2, h3⟩; exact ⟨i, h1, by rw [hs_bt (by omega)]; exact h2, h3⟩
theorem C_le {f np} (h12 : np ≤ 12) (h : CLI f np) : ∀ p, p < np → ∀ k, bt (f 3 p 3) k = true → k ≤ p := by
  intro p
  induction p using Nat.strongRecOn with
  | ind p ih =>
    intro hp k hk
    rw [(h p hp).2.2, b_or, Bool.or_eq_true, xcl_bt f (by omega), bit_bt (by omega), decide_eq_true_eq] at hk
    rcases hk with ⟨i, h1, h2, h3⟩ | h1
    · have := ih i h1 (by omega) k h3; omega
    · omega
theorem C_self {f np} (h12 : np ≤ 12) (h : CLI f np) {p : Nat} (hp : p < np) : bt (f 3 p 3) p = true := by
  rw [(h p hp).2.2, b_or, bit_bt (by omega), decide_eq_true rfl, Bool.or_true]
theorem xcl_in {f np} (h12 : np ≤ 12) (h : CLI f np) (set : Int32) (k : Nat) (hk : bt (xcl f np set) k = true) : k < np := by
  obtain ⟨i, h1, h2, h3⟩ := (xcl_bt f h12 set k).mp hk
  have := C_le h12 h i h1 k h3
  omega
/-- downward -/
def Uc (f : ax_F) (n : Nat) (a : Int32) : Int32 := match n with
  | 0 => a
  | n + 1 => Uc f n (if hs a (nI n) = true then a ||| f 31 0 n else a)
theorem mcl_U (f : ax_F) (np : Nat) (set : Int32) : mcl f np set = Uc f np set := by
  have key : ∀ k, k ≤ np → Uc f (np - k) (ax_it k (fun i a => if hs a (nI (np - 1 - i)) = true then a ||| f 31 0 (np - 1 - i) else a) set) = Uc f np set := by
    intro k
    induction k with
    | zero => intro _; rfl
    | succ k ih =>
      intro hk
      rw [← ih (by omega), ax_it_s]
      obtain ⟨n, hn⟩ : ∃ n, np - k = n + 1 := ⟨np - k - 1, by omega⟩
      rw [hn, show np - (k + 1) = n from by omega, show np - 1 - k = n from by omega]
      rfl
  have := key np (Nat.le_refl _)
  rw [Nat.sub_self] at this
  exact this
theorem U_eq {f np} (h12 : np ≤ 12) (h : CLI f np) : ∀ n, n ≤ np → ∀ a, Uc f n a = a ||| xcl f n a := by
  intro n
  induction n with
  | zero => intro _ a; show a = a ||| 0; rw [Int32.or_zero]
  | succ n ih =>
    intro hn a
    show Uc f n (if hs a (nI n) = true then a ||| f 31 0 n else a) = _
    rw [ih (by omega), (h n (by omega)).1]
    obtain ⟨-, h2, h3⟩ := h n (by omega)
    refine bx (fun k hk => ?_)
    by_cases c : bt a n = true
    · rw [if_pos (by rw [hs_bt (by omega)]; exact c), b_or, b_or, b_or, Bool.or_eq_true, Bool.or_eq_true, Bool.or_eq_true, xcl_bt f (by omega), xcl_bt f (by omega)]
      constructor
      · rintro ((q | q) | ⟨i, q1, q2, q3⟩)
        · exact Or.inl q
        · refine Or.inr ⟨n, by omega, c, ?_⟩
          rw [h3, b_or, Bool.or_eq_true, xcl_bt f (by omega)]
          have hkn : k < n := by
            rcases Nat.lt_or_ge k n with w | w
            · exact w
            · rw [h2 k w hk] at q; cases q
          exact Or.inl ⟨k, hkn, q, C_self h12 h (by omega)⟩
        · rw [b_or, Bool.or_eq_true] at q2
          rcases q2 with q2 | q2
          · exact Or.inr ⟨i, by omega, q2, q3⟩
          · refine Or.inr ⟨n, by omega, c, ?_⟩
            rw [h3, b_or, Bool.or_eq_true, xcl_bt f (by omega)]
            exact Or.inl ⟨i, q1, q2, q3⟩
      · rintro (q | ⟨i, q1, q2, q3⟩)
        · exact Or.inl (Or.inl q)
        · by_cases e : i = n
          · subst e
            rw [h3, b_or, Bool.or_eq_true, xcl_bt f (by omega), bit_bt (by omega), decide_eq_true_eq] at q3
            rcases q3 with ⟨i', w1, w2, w3⟩ | w
            · exact Or.inr ⟨i', w1, by rw [b_or, w2, Bool.or_true], w3⟩
            · subst w; exact Or.inl (Or.inl c)
          · exact Or.inr ⟨i, by omega, by rw [b_or, q2, Bool.true_or], q3⟩
    · rw [if_neg (by rw [hs_bt (by omega)]; exact c), b_or, b_or, Bool.or_eq_true, Bool.or_eq_true, xcl_bt f (by omega), xcl_bt f (by omega)]
      constructor
      · rintro (q | ⟨i, q1, q2⟩)
        · exact Or.inl q
        · exact Or.inr ⟨i, by omega, q2⟩
      · rintro (q | ⟨i, q1, q2⟩)
        · exact Or.inl q
        · by_cases e : i = n
          · subst e; exact absurd q2.1 c
          · exact Or.inr ⟨i, by omega, q2⟩
theorem mcl_xcl {f np} (h12 : np ≤ 12) (h : CLI f np) {set : Int32} (hs : ∀ k, np ≤ k → k < 32 → bt set k = false) : mcl f np set = xcl f np set := by
  rw [mcl_U, U_eq h12 h np (Nat.le_refl _)]
  refine bx (fun k hk => ?_)
  rw [b_or, Bool.or_eq_true]
  constructor
  · rintro (q | q)
    · rcases Nat.lt_or_ge k np with w | w
      · exact (xcl_bt f h12 set k).mpr ⟨k, w, q, C_self h12 h w⟩
      · rw [hs k w hk] at q; cases q
    · exact q
  · exact fun q => Or.inr q
theorem mcl_one {f np} (h12 : np ≤ 12) (h : CLI f np) {p : Nat} (hp : p < np) : mcl f np ((1 : Int32) <<< (nI p &&& 31)) = f 3 p 3 := by
  rw [mcl_xcl h12 h (fun k h1 h2 => by rw [bit_bt (by omega), decide_eq_false (by omega)])]
  refine bx (fun k hk => ?_)
  rw [xcl_bt f h12]
  constructor
  · rintro ⟨i, q1, q2, q3⟩
    rw [bit_bt (by omega), decide_eq_true_eq] at q2
    subst q2; exact q3
  · exact fun q => ⟨p, hp, by rw [bit_bt (by omega), decide_eq_true rfl], q⟩
/-- installed sets -/
theorem ins_np {F G : Nat → Int32} {np : Nat} (h12 : np ≤ 12) (h : ∀ p, p < np → F p = G p) (h0 : ∀ p, np ≤ p → p < 12 → F p ≤ 0) : ins 12 F = ins np G := by
  have key : ∀ d, np + d ≤ 12 → ins (np + d) F = ins np G := by
    intro d
    induction d with
    | zero => intro _; exact ax_it_congr np 0 (fun i x hi => by rw [h i hi])
    | succ d ih =>
      intro hd
      show (if F (np + d) ≤ 0 then ins (np + d) F else _) = _
      rw [if_pos (h0 _ (by omega) (by omega))]
      exact ih (by omega)
  have := key (12 - np) (by omega)
  rw [show np + (12 - np) = 12 from by omega] at this
  exact this
theorem ins_bt {n : Nat} (hn : n ≤ 12) (F : Nat → Int32) (k : Nat) (hk : bt (ins n F) k = true) : k < n := by
  have e : ins n F = ax_it n (fun i a => if ¬ F i ≤ 0 then a ||| ((1 : Int32) <<< (nI i &&& 31)) else a) 0 := ax_it_congr n 0 (fun i x _ => by
    by_cases c : F i ≤ 0
    · rw [if_pos c, if_neg (fun q => q c)]
    · rw [if_neg c, if_pos c])
  rw [e, orf_bt n (fun i => ¬ F i ≤ 0) (fun i => (1 : Int32) <<< (nI i &&& 31)) k] at hk
  obtain ⟨i, h1, h2, h3⟩ := hk
  rw [bit_bt (by omega), decide_eq_true_eq] at h3
  omega
/-! mirrors together -/
theorem andf (n : Nat) (P : Nat → Bool) : ax_it n (fun p a => a && P p) true = true ↔ ∀ p, p < n → P p = true := by
  induction n with
  | zero => exact ⟨fun _ p h => absurd h (by omega), fun _ => rfl⟩
  | succ n ih =>
    rw [ax_it_s, Bool.and_eq_true, ih]
    constructor
    · rintro ⟨h1, h2⟩ p hp
      by_cases q : p = n
      · subst q; exact h2
      · exact h1 p (by omega)
    · exact fun h => ⟨fun p hp => h p (by omega), h n (by omega)⟩
theorem fnd_bt {E S} {m j : Nat} {w : Int32} (hE : EW E) (k : Nat) : bt (fnd E S m j w) k = true ↔ k < eNp E ∧ bt w k = true ∧ hf (sFl S m k) (eTol E j k) = true := by
  have h12 := hE.1
  unfold fnd
  rw [orf_bt (eNp E) (fun i => hs w (nI i) = true ∧ hf (sFl S m i) (eTol E j i) = true) (fun i => (1 : Int32) <<< (nI i &&& 31)) k]
  constructor
  · rintro ⟨i, h1, ⟨h2, h3⟩, h4⟩
    rw [bit_bt (by omega), decide_eq_true_eq] at h4
    subst h4
    exact ⟨h1, by rw [← hs_bt (by omega)]; exact h2, h3⟩
  · rintro ⟨h1, h2, h3⟩
    exact ⟨k, h1, ⟨by rw [hs_bt (by omega)]; exact h2, h3⟩, by rw [bit_bt (by omega), decide_eq_true rfl]⟩
theorem tog_hav {E S} {uses set w : Int32} {j : Nat} (hE : EW E) (hS : SW E S) (hw : ∀ k, bt w k = true → k < eNp E) (hsub : ∀ m, m < eNm E → bt set m = true → bt uses m = true) : tog (fdn E S uses j w) set = w ↔ hav E S set w j = true := by
  have h12 := hE.1
  have h6 := hE.2.1
  have tb : ∀ k, bt (tog (fdn E S uses j w) set) k = true ↔ k < eNp E ∧ bt w k = true ∧ ∃ m, m < eNm E ∧ bt set m = true ∧ hf (sFl S m k) (eTol E j k) = true := by
    intro k
    unfold tog
    rw [orf_bt 6 (fun i => hs set (nI i) = true) (fun i => fdn E S uses j w i) k]
    constructor
    · rintro ⟨i, h1, h2, h3⟩
      rw [hs_bt (by omega)] at h2
      unfold fdn at h3
      by_cases c : i < eNm E ∧ hs uses (nI i) = true
      · rw [if_pos c, fnd_bt hE] at h3
        exact ⟨h3.1, h3.2.1, i, c.1, h2, h3.2.2⟩
      · rw [if_neg c, b_0] at h3; cases h3
    · rintro ⟨h1, h2, m, h3, h4, h5⟩
      refine ⟨m, by omega, by rw [hs_bt (by omega)]; exact h4, ?_⟩
      unfold fdn
      rw [if_pos ⟨h3, by rw [hs_bt (by omega)]; exact hsub m h3 h4⟩, fnd_bt hE]
      exact ⟨h1, h2, h5⟩
  have th : ∀ k, k < eNp E → (hs (thr E S set k) (eTol E j k) = true ↔ ∃ m, m < eNm E ∧ bt set m = true ∧ hf (sFl S m k) (eTol E j k) = true) := by
    intro k hk
    obtain ⟨v, hv, e⟩ := hE.2.2.2.2 j k
    rw [e, hs_bt (by omega)]
    unfold thr
    rw [orf_bt (eNm E) (fun m => hs set (nI m) = true) (fun m => sFl S m k) v]
    constructor
    · rintro ⟨m, h1, h2, h3⟩
      exact ⟨m, h1, by rw [← hs_bt (by omega)]; exact h2, by rw [hf_hs hv (hS.2.1 m h1 k), hs_bt (by omega)]; exact h3⟩
    · rintro ⟨m, h1, h2, h3⟩
      exact ⟨m, h1, by rw [hs_bt (by omega)]; exact h2, by rw [← hs_bt (by omega), ← hf_hs hv (hS.2.1 m h1 k)]; exact h3⟩
  unfold hav
  rw [andf]
  constructor
  · intro e p hp
    rw [hs_bt (by omega), Bool.or_eq_true]
    cases c : bt w p
    · exact Or.inl rfl
    · right
      rw [th p hp]
      rw [← e] at c
      exact ((tb p).mp c).2.2
  · intro h
    refine bx (fun k hk => ?_)
    rw [tb]
    constructor
    · exact fun q => q.2.1
    · intro q
      have hk' := hw k q
      have := h k hk'
      rw [hs_bt (by omega), q, Bool.or_eq_true] at this
      rcases this with z | z
      · cases z
      · exact ⟨hk', q, (th k hk').mp z⟩
theorem rsn_eq {E S} {uses lat w : Int32} {j k : Nat} (hE : EW E) (hS : SW E S) (hw : ∀ k, bt w k = true → k < eNp E) (hk : j ≠ 0 → k ≤ 12 ∧ ∀ p, p < 12 → (0 < eTol E j p ↔ p < k)) : rsn j lat k w (tog (fdn E S uses j w) uses) = rsM E S uses lat j w := by
  have h12 := hE.1
  unfold rsn rsM
  by_cases h0 : j = 0
  · rw [if_pos h0, if_pos h0]
  rw [if_neg h0, if_neg h0]
  obtain ⟨k12, hk⟩ := hk h0
  by_cases h1 : ¬ lat ≤ nI j
  · rw [if_pos h1, if_pos h1]
  rw [if_neg h1, if_neg h1]
  have e3 : hbf w k = true ↔ tldA E w j = false := by
    have a1 : tldA E w j = true ↔ us k w = 0 := by
      rw [us_bt (by omega)]
      unfold tldA
      rw [andf]
      constructor
      · intro h i h1 h2
        cases c : bt w i
        · rfl
        · have hi := hw i c
          have := h i hi
          rw [hs_bt (by omega), c, Bool.or_eq_true] at this
          rcases this with z | z
          · cases z
          · have := (hk i (by omega)).mp (of_decide_eq_true z); omega
      · intro h p hp
        rw [hs_bt (by omega), Bool.or_eq_true]
        cases c : bt w p
        · exact Or.inl rfl
        · right
          refine decide_eq_true ((hk p (by omega)).mpr ?_)
          rcases Nat.lt_or_ge p k with z | z
          · exact z
          · rw [h p z (by omega)] at c; cases c
    unfold hbf
    rw [decide_eq_true_eq, ← a1]
    cases tldA E w j <;> simp
  by_cases h3 : hbf w k = true
  · rw [if_pos h3, if_pos (e3.mp h3)]
  rw [if_neg h3, if_neg (fun q => h3 (e3.mpr q))]
  have e4 := tog_hav (set := uses) (uses := uses) (j := j) hE hS hw (fun _ _ q => q)
  by_cases h4 : hav E S uses w j = true
  · rw [if_pos h4, if_pos (e4.mpr h4)]
  · rw [if_neg h4, if_neg (fun q => h4 (e4.mp q))]
theorem sub_bt {s : Nat} {uses : Int32} (h : (nI s &&& (uses ^^^ (-1))) = 0) (m : Nat) (hm : m < 32) (hb : bt (nI s) m = true) : bt uses m = true := by
  have h1 : bt (nI s &&& (uses ^^^ (-1))) m = false := by rw [h]; exact b_0 m
  rw [b_and, hb, b_xor, b_m1 m hm] at h1
  cases q : bt uses m
  · rw [q] at h1; cases h1
  · rfl
theorem bts_6 : ∀ s, s < 64 → bts (nI s) = 6 ∨ bts (nI s) < 6 := by decide +kernel
theorem bit_hi : ∀ n, n ≤ 6 → ∀ s, s < 64 → 2 ^ n ≤ s → ∃ m, m < 6 ∧ n ≤ m ∧ bt (nI s) m = true := by decide +kernel
theorem bt_lo : ∀ n, n ≤ 6 → ∀ s, s < 64 → (∀ m, m < 6 → n ≤ m → bt (nI s) m = false) → s < 2 ^ n := by
  intro n hn s hs h
  rcases Nat.lt_or_ge s (2 ^ n) with q | q
  · exact q
  · obtain ⟨m, h1, h2, h3⟩ := bit_hi n hn s hs q
    rw [h m h1 h2] at h3; cases h3
theorem few_eq {E S} {w : Int32} {j u : Nat} (hE : EW E) (hS : SW E S) (hw : ∀ k, bt w k = true → k < eNp E) (hu : u < 2 ^ eNm E) (hh : hav E S (nI u) w j = true) : few (fdn E S (nI u) j w) (nI u) w 64 6 = fwM E S (nI u) w j (2 ^ eNm E) 7 := by
  have h6 := hE.2.1
  have hp : 2 ^ eNm E ≤ 64 := Nat.pow_le_pow_right (by decide) h6 (n := 2)
  -- the steps are the same
  have st : ∀ N, N ≤ 64 → ∀ b, few (fdn E S (nI u) j w) (nI u) w N b = fwM E S (nI u) w j N b := by
    intro N hN b
    refine ax_it_congr N b (fun s a hs => ?_)
    by_cases c1 : (nI s &&& (nI u ^^^ (-1))) = 0
    · have e := tog_hav (set := nI s) (uses := nI u) (j := j) hE hS hw (fun m hm q => sub_bt c1 m (by omega) q)
      by_cases c2 : hav E S (nI s) w j = true
      · rw [if_pos ⟨c1, e.mpr c2⟩]
        unfold mnI
        by_cases c3 : bts (nI s) < a
        · rw [if_pos c3, if_pos ⟨c1, c3, c2⟩]
        · rw [if_neg c3, if_neg (fun q => c3 q.2.1)]
      · rw [if_neg (fun q => c2 (e.mp q.2)), if_neg (fun q => c2 q.2.2)]
    · rw [if_neg (fun q => c1 q.1), if_neg (fun q => c1 q.1)]
  rw [st 64 (Nat.le_refl _)]
  -- no set beyond the mirrors
  have ext : ∀ d, 2 ^ eNm E + d ≤ 64 → fwM E S (nI u) w j (2 ^ eNm E + d) 6 = fwM E S (nI u) w j (2 ^ eNm E) 6 := by
    intro d
    induction d with
    | zero => intro _; rfl
    | succ d ih =>
      intro hd
      rw [← ih (by omega)]
      show (if _ then _ else fwM E S (nI u) w j (2 ^ eNm E + d) 6) = _
      refine if_neg (fun q => ?_)
      obtain ⟨m, m1, m2, m3⟩ := bit_hi (eNm E) h6 (2 ^ eNm E + d) (by omega) (by omega)
      have hb := sub_bt q.1 m (by omega) m3
      have : bt (nI u) m = false := by
        have hlt : (nI u).toBitVec.toNat < 2 ^ m := by
          rw [pk_tn (by omega)]
          exact Nat.lt_of_lt_of_le hu (Nat.pow_le_pow_right (by decide) m2)
        unfold bt
        rw [BitVec.getLsbD, Nat.testBit_lt_two_pow hlt]
      rw [this] at hb; cases hb
  have e64 := ext (64 - 2 ^ eNm E) (by omega)
  rw [show 2 ^ eNm E + (64 - 2 ^ eNm E) = 64 from by omega] at e64
  rw [e64]
  -- 6 or 7 to begin with
  have sub_u : (nI u &&& (nI u ^^^ (-1))) = 0 := b_ext (fun k hk => by
    rw [b_and, b_xor, b_m1 k hk, b_0]
    cases bt (nI u) k <;> rfl)
  have key : ∀ N, N ≤ 2 ^ eNm E → (fwM E S (nI u) w j N 6 = fwM E S (nI u) w j N 7) ∨ (N ≤ u ∧ fwM E S (nI u) w j N 6 = 6 ∧ fwM E S (nI u) w j N 7 = 7) := by
    intro N
    induction N with
    | zero => intro _; exact Or.inr ⟨Nat.zero_le _, rfl, rfl⟩
    | succ N ih =>
      intro hN
      have s6 : fwM E S (nI u) w j (N + 1) 6 = if (nI N &&& (nI u ^^^ (-1))) = 0 ∧ bts (nI N) < fwM E S (nI u) w j N 6 ∧ hav E S (nI N) w j = true then bts (nI N) else fwM E S (nI u) w j N 6 := rfl
      have s7 : fwM E S (nI u) w j (N + 1) 7 = if (nI N &&& (nI u ^^^ (-1))) = 0 ∧ bts (nI N) < fwM E S (nI u) w j N 7 ∧ hav E S (nI N) w j = true then bts (nI N) else fwM E S (nI u) w j N 7 := rfl
      rcases ih (by omega) with q | ⟨q0, q1, q2⟩
      · left; rw [s6, s7, q]
      · rw [s6, s7, q1, q2]
        have b7 : bts (nI N) < 7 := by
          rcases bts_6 N (by omega) with z | z
          · rw [z]; decide +kernel
          · rw [i_lt] at z ⊢
            have : (6 : Int32).toInt = 6 := rfl
            have : (7 : Int32).toInt = 7 := rfl
            omega
        by_cases c : (nI N &&& (nI u ^^^ (-1))) = 0 ∧ hav E S (nI N) w j = true
        · left
          rw [if_pos (show _ ∧ _ ∧ _ from ⟨c.1, b7, c.2⟩)]
          rcases bts_6 N (by omega) with z | z
          · rw [z, if_neg (fun w => absurd w.2.1 (by decide +kernel))]
          · rw [if_pos ⟨c.1, z, c.2⟩]
        · right
          refine ⟨?_, if_neg (fun w => c ⟨w.1, w.2.2⟩), if_neg (fun w => c ⟨w.1, w.2.2⟩)⟩
          rcases Nat.eq_or_lt_of_le q0 with z | z
          · subst z; exact absurd ⟨sub_u, hh⟩ c
          · exact z
  rcases key (2 ^ eNm E) (Nat.le_refl _) with q | q
  · exact q
  · omega
theorem sum_np {F G : Nat → Int32} {np : Nat} (h12 : np ≤ 12) (h : ∀ p, p < np → F p = G p) (h0 : ∀ p, np ≤ p → p < 12 → F p = 0) : ax_sum 12 F = ax_sum np G := by
  have key : ∀ d, np + d ≤ 12 → ax_sum (np + d) F = ax_sum np G := by
    intro d
    induction d with
    | zero => intro _; exact ax_sum_congr h
    | succ d ih =>
      intro hd
      show ax_sum (np + d) F + F (np + d) = _
      rw [h0 _ (by omega) (by omega), Int32.add_zero]
      exact ih (by omega)
  have := key (12 - np) (by omega)
  rw [show np + (12 - np) = 12 from by omega] at this
  exact this
end AXZ
