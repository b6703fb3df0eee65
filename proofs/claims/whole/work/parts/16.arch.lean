/-! the class: Archive and Client -/
section AXA
theorem sm31 {n : Nat} (h : n ≤ 1000) : n < 2 ^ 31 := Nat.lt_of_le_of_lt h (by decide)
/-- told version of package p in index j -/
def tv (f : ax_F) (j p : Nat) : Int32 := if j = 0 then 0 else f 6 (j - 1) p
theorem x0_restart (a f g) : s_X0_restart [.inr (1, 0), .inl (.int a)] f g = rV (ax_up (ax_up (ax_up (ax_up f 1 0 2 a) 1 0 3 0) 1 0 4 0) 1 0 5 60) g := by
  rw [e_X0_restart, g_X0_restart_0]
theorem nI_lt1 : nI 0 < 1 := by decide +kernel
theorem nI_nlt1 {j : Nat} (h : j ≠ 0) (hj : j ≤ 1000) : ¬ nI j < 1 := fun q => by
  have := (nI_ltI (sm31 hj) (by decide)).mp (show nI j < nI 1 from q)
  omega
theorem x0_hasIndex (f g) {ni j : Nat} (hi : f 1 0 4 = nI ni) (h20 : ni ≤ 20) (hj : j ≤ ni) : s_X0_hasIndex [.inr (1, 0), .inl (.int (nI j))] f g = rI (if j = 0 then 0 else 1) f g := by
  rw [e_X0_hasIndex, g_X0_hasIndex_0]
  by_cases h : j = 0
  · subst h; rw [if_pos nI_lt1, if_pos rfl]
  · rw [if_neg (nI_nlt1 h (by omega)), if_neg h, hi, if_neg (nI_nlt hj (sm31 (by omega)))]
theorem nI_sub1 {j : Nat} (h : j ≠ 0) : nI j - 1 = nI (j - 1) := by
  obtain ⟨k, rfl⟩ : ∃ k, j = k + 1 := ⟨j - 1, by omega⟩
  exact nI_pred k
theorem x0_releaseTime (f g) {ni j : Nat} (hi : f 1 0 4 = nI ni) (h20 : ni ≤ 20) (hj : j ≤ ni) : s_X0_releaseTime [.inr (1, 0), .inl (.int (nI j))] f g = rI (if j = 0 then 0 else f 5 (j - 1) 2) f g := by
  rw [e_X0_releaseTime, g_X0_releaseTime_0, x0_hasIndex f g hi h20 hj, cali_r]
  by_cases h : j = 0
  · simp only [if_pos h, if_true]
  · rw [if_neg h, if_neg h, if_neg one_ne, nI_sub1 h, bd_n (by omega) (by decide)]
theorem x0_packsIn (f g) {ni j : Nat} (hi : f 1 0 4 = nI ni) (h20 : ni ≤ 20) (hj : j ≤ ni) : s_X0_packsIn [.inr (1, 0), .inl (.int (nI j))] f g = rI (if j = 0 then 0 else f 5 (j - 1) 1) f g := by
  rw [e_X0_packsIn, g_X0_packsIn_0, x0_hasIndex f g hi h20 hj, cali_r]
  by_cases h : j = 0
  · simp only [if_pos h, if_true]
  · rw [if_neg h, if_neg h, if_neg one_ne, nI_sub1 h, bd_n (by omega) (by decide)]
theorem x0_signatureOf (f g) {ni j : Nat} (hi : f 1 0 4 = nI ni) (h20 : ni ≤ 20) (hj : j ≤ ni) : s_X0_signatureOf [.inr (1, 0), .inl (.int (nI j))] f g = rI (if j = 0 then 0 else f 5 (j - 1) 3) f g := by
  rw [e_X0_signatureOf, g_X0_signatureOf_0, x0_hasIndex f g hi h20 hj, cali_r]
  by_cases h : j = 0
  · simp only [if_pos h, if_true]
  · rw [if_neg h, if_neg h, if_neg one_ne, nI_sub1 h, bd_n (by omega) (by decide)]
theorem x0_isFresh (f g) (t : Int32) {ni j : Nat} (hi : f 1 0 4 = nI ni) (h20 : ni ≤ 20) (hj : j ≤ ni) : s_X0_isFresh [.inr (1, 0), .inl (.int (nI j)), .inl (.int t)] f g = rI (if j ≠ 0 ∧ ¬ f 1 0 5 < t - f 5 (j - 1) 2 then 1 else 0) f g := by
  rw [e_X0_isFresh, g_X0_isFresh_0, x0_hasIndex f g hi h20 hj, cali_r]
  by_cases h : j = 0
  · rw [if_pos h, if_pos rfl, if_neg (fun q => q.1 h)]
  · rw [if_neg h, if_neg one_ne, nI_sub1 h, bd_n (by omega) (by decide)]
    by_cases c : f 1 0 5 < t - f 5 (j - 1) 2
    · rw [if_pos c, if_neg (fun q => q.2 c)]
    · rw [if_neg c, if_pos ⟨h, c⟩]
theorem x0_versionIn (f g) {ni j p : Nat} (hi : f 1 0 4 = nI ni) (h20 : ni ≤ 20) (hj : j ≤ ni) (hp : p < 12) : s_X0_versionIn [.inr (1, 0), .inl (.int (nI j)), .inl (.int (nI p))] f g = rI (tv f j p) f g := by
  rw [e_X0_versionIn, g_X0_versionIn_0]
  unfold tv
  by_cases h : j = 0
  · subst h; rw [if_pos nI_lt1, if_pos rfl]
  · rw [if_neg (nI_nlt1 h (by omega)), if_neg h, hi, if_neg (nI_nlt hj (sm31 (by omega))), if_neg (nI_pos (sm31 (by omega))), if_pos (show nI p < (12 : Int32) from nI_lt hp (by decide)), nI_sub1 h, bd_n (by omega) (by decide), bd_n hp (by decide)]
/-- the closure of a set, out of the packages' own -/
def xcl (f : ax_F) (np : Nat) (set : Int32) : Int32 := ax_it np (fun i a => if hs set (nI i) = true then a ||| f 3 i 3 else a) 0
theorem x0_closureOf (f g) {np : Nat} (set : Int32) (hn : f 1 0 3 = nI np) (h12 : np ≤ 12) : s_X0_closureOf [.inr (1, 0), .inl (.int set)] f g = rI (xcl f np set) f g := by
  rw [e_X0_closureOf, g_X0_closureOf_0]
  refine (ax_lp (fun i a => ax_run P_X0_closureOf 4 [some (.inr (1, 0)), some (.inl (.int set)), some (.inl (.int a)), some (.inl (.int (nI i)))] [] f g 0 0) (fun i a => if hs set (nI i) = true then a ||| f 3 i 3 else a) np 0 (fun i hi => ?_)).trans ?_
  · show ax_run _ _ [_, _, _, some (.inl (.int (nI i)))] _ _ _ _ _ = _
    rw [g_X0_closureOf_4, hn, if_neg (nI_ge hi (sm31 (by omega))), nI_1]
    by_cases c : ((set >>> (nI i &&& 31)) &&& 1) = 0
    · rw [if_pos c, if_neg (fun q => by rw [hs_f.mpr c] at q; cases q)]
    · rw [if_neg c, if_pos (hs_t.mpr c), bd_n (by omega) (by decide)]
  · show ax_run _ _ [_, _, _, some (.inl (.int (nI np)))] _ _ _ _ _ = _
    rw [g_X0_closureOf_4, hn, if_pos (nI_le (Nat.le_refl _) (sm31 (by omega)))]
    rfl
def xpk (f : ax_F) (np : Nat) (a b c : Int32) : ax_F := ax_up (ax_up (ax_up (ax_up (ax_up (ax_up f 3 np 0 a) 3 np 1 b) 3 np 2 c) 3 np 3 (xcl f np c ||| ((1 : Int32) <<< (nI np &&& 31)))) 3 np 4 1) 1 0 3 (nI (np + 1))
theorem xcl_congr {f f' : ax_F} {np : Nat} (set : Int32) (h : ∀ i, i < np → f' 3 i 3 = f 3 i 3) : xcl f' np set = xcl f np set := ax_it_congr np 0 (fun i x hi => by rw [h i hi])
theorem x0_addPack (f g) {np : Nat} (a b c : Int32) (hn : f 1 0 3 = nI np) (h12 : np < 12) : s_X0_addPack [.inr (1, 0), .inl (.int a), .inl (.int b), .inl (.int c)] f g = rI (nI np) (xpk f np a b c) g := by
  rw [e_X0_addPack, g_X0_addPack_0, hn, if_pos (nI_lt h12 (by decide)), bd_n h12 (by decide)]
  rw [x0_closureOf (np := np) _ g c (by simp [ax_up_ap, hn]) (by omega), cali_r]
  rw [xcl_congr (f := f) c (fun i hi => by simp [ax_up_ap])]
  unfold xpk
  simp only [ax_up_ap, hn, nI_1]
  simp [hn, nI_1]
/-- remainder by 65521 -/
def rm (x : Int32) : Int32 := x - x / 65521 * 65521
theorem n65 : ¬ (65521 : Int32) = 0 := by decide +kernel
def xsg (f : ax_F) (r n : Nat) : Int32 := ax_it n (fun i a => rm (31 * a + f 6 r i)) 17
theorem x0_sign (f g) {r n : Nat} (x : Int32) (hn : f 5 r 1 = nI n) (h12 : n ≤ 12) : s_X0_sign [.inr (5, r), .inl (.int x)] f g = rI (rm (2003 * xsg f r n + x)) f g := by
  rw [e_X0_sign, g_X0_sign_0]
  refine (ax_lp (fun i a => ax_run P_X0_sign 5 [some (.inr (5, r)), some (.inl (.int x)), some (.inl (.int a)), some (.inl (.int (nI i)))] [] f g 0 0) (fun i a => rm (31 * a + f 6 r i)) n 17 (fun i hi => ?_)).trans ?_
  · show ax_run _ _ [_, _, _, some (.inl (.int (nI i)))] _ _ _ _ _ = _
    rw [g_X0_sign_5, hn, if_neg (nI_ge hi (sm31 (by omega))), bd_n (by omega) (by decide), if_neg n65, nI_1]
    rfl
  · show ax_run _ _ [_, _, _, some (.inl (.int (nI n)))] _ _ _ _ _ = _
    rw [g_X0_sign_5, hn, if_pos (nI_le (Nat.le_refl _) (sm31 (by omega))), if_neg n65]
    rfl
/-- an index more -/
def xix (f : ax_F) (np ni : Nat) (t : Int32) : ax_F := ax_row1 (ax_up (ax_up (ax_up f 1 0 4 (nI (ni + 1))) 5 ni 2 t) 5 ni 1 (nI np)) 6 ni (fun p => if p < 12 then (if p < np then f 3 p 4 else 0) else f 6 ni p)
theorem x0_addIndex (f g) {np ni : Nat} (t : Int32) (hn : f 1 0 3 = nI np) (h12 : np ≤ 12) (hi : f 1 0 4 = nI ni) (h20 : ni < 20) : s_X0_addIndex [.inr (1, 0), .inl (.int t)] f g = rI (nI (ni + 1)) (ax_up (xix f np ni t) 5 ni 3 (rm (2003 * xsg (xix f np ni t) ni np + nI (ni + 1)))) g := by
  rw [e_X0_addIndex, g_X0_addIndex_0, hi, if_pos (nI_lt h20 (by decide)), bd_n h20 (by decide), nI_1]
  have e1 : (ax_up (ax_up f 1 0 4 (nI (ni + 1))) 5 ni 2 t) 1 0 3 = nI np := by simp [ax_up_ap, hn]
  rw [e1]
  have hloop := ax_lp (fun i h => ax_run P_X0_addIndex 49 [some (.inr (1, 0)), some (.inl (.int t)), some (.inr (5, ni)), some (.inl (.int (nI i)))] [] h g 0 0) (fun j h => ax_up h 6 ni j (if j < np then f 3 j 4 else 0)) 12 (ax_up (ax_up (ax_up f 1 0 4 (nI (ni + 1))) 5 ni 2 t) 5 ni 1 (nI np)) (fun i hlt => ?_)
  · refine hloop.trans ?_
    rw [row1_lp]
    have e2 : (ax_row1 (ax_up (ax_up (ax_up f 1 0 4 (nI (ni + 1))) 5 ni 2 t) 5 ni 1 (nI np)) 6 ni fun j => if j < 12 then if j < np then f 3 j 4 else 0 else (ax_up (ax_up (ax_up f 1 0 4 (nI (ni + 1))) 5 ni 2 t) 5 ni 1 (nI np)) 6 ni j) = xix f np ni t := by
      unfold xix
      congr 1
    rw [e2]
    show ax_run _ _ [_, _, _, some (.inl (.int (nI 12)))] _ _ _ _ _ = _
    rw [g_X0_addIndex_49, if_pos (nI_le (Nat.le_refl _) (by decide))]
    have e3 : xix f np ni t 1 0 4 = nI (ni + 1) := by simp [xix, row1_ap, ax_up_ap]
    have e4 : xix f np ni t 5 ni 1 = nI np := by simp [xix, row1_ap, ax_up_ap]
    rw [x0_sign (n := np) _ g _ e4 h12, cali_r, e3]
    simp [ax_up_ap, e3]
  · rw [row1_lp]
    show ax_run _ _ [_, _, _, some (.inl (.int (nI i)))] _ _ _ _ _ = _
    rw [g_X0_addIndex_49, if_neg (nI_ge hlt (by decide)), nI_1]
    have e5 : ∀ F : Nat → Int32, (ax_row1 (ax_up (ax_up (ax_up f 1 0 4 (nI (ni + 1))) 5 ni 2 t) 5 ni 1 (nI np)) 6 ni F) 1 0 3 = nI np := fun F => by simp [row1_ap, ax_up_ap, hn]
    have e6 : ∀ F : Nat → Int32, (ax_row1 (ax_up (ax_up (ax_up f 1 0 4 (nI (ni + 1))) 5 ni 2 t) 5 ni 1 (nI np)) 6 ni F) 3 i 4 = f 3 i 4 := fun F => by simp [row1_ap, ax_up_ap]
    rw [e5]
    by_cases c : i < np
    · rw [if_neg (nI_ge c (sm31 (by omega))), bd_n hlt (by decide), bd_n hlt (by decide), e6, if_pos c]
    · rw [if_pos (nI_le (by omega) (sm31 (by omega))), bd_n hlt (by decide), if_neg c]
/-! clients -/
theorem x1_restart (f g) (r : Nat) (x : Int32) : s_X1_restart [.inr (12, r), .inl (.int x)] f g = rV (ax_row1 (ax_up (ax_up f 12 r 1 x) 12 r 2 0) 13 r (fun j => if j < 12 then 0 else f 13 r j)) g := by
  rw [e_X1_restart, g_X1_restart_0]
  refine (ax_lp (fun i h => ax_run P_X1_restart 12 [some (.inr (12, r)), some (.inl (.int x)), some (.inl (.int (nI i)))] [] h g 0 0) (fun j h => ax_up h 13 r j 0) 12 (ax_up (ax_up f 12 r 1 x) 12 r 2 0) (fun i hlt => ?_)).trans ?_
  · show ax_run _ _ [_, _, some (.inl (.int (nI i)))] _ _ _ _ _ = _
    rw [g_X1_restart_12, if_neg (nI_ge hlt (by decide)), nI_1, bd_n hlt (by decide)]
  · rw [row1_lp _ 13 r (fun _ => 0)]
    show ax_run _ _ [_, _, some (.inl (.int (nI 12)))] _ _ _ _ _ = _
    rw [g_X1_restart_12, if_pos (nI_le (Nat.le_refl _) (by decide))]
    have : (fun j => if j < 12 then (0 : Int32) else (ax_up (ax_up f 12 r 1 x) 12 r 2 0) 13 r j) = (fun j => if j < 12 then 0 else f 13 r j) := by
      funext j; simp [ax_up_ap]
    rw [this]
/-- what is installed, as a set -/
def ins (n : Nat) (F : Nat → Int32) : Int32 := ax_it n (fun i a => if F i ≤ 0 then a else a ||| ((1 : Int32) <<< (nI i &&& 31))) 0
theorem x1_installedSet (f g) (r : Nat) : s_X1_installedSet [.inr (12, r)] f g = rI (ins 12 (f 13 r)) f g := by
  rw [e_X1_installedSet, g_X1_installedSet_0]
  refine (ax_lp (fun i a => ax_run P_X1_installedSet 4 [some (.inr (12, r)), some (.inl (.int a)), some (.inl (.int (nI i)))] [] f g 0 0) (fun i a => if f 13 r i ≤ 0 then a else a ||| ((1 : Int32) <<< (nI i &&& 31))) 12 0 (fun i hlt => ?_)).trans ?_
  · show ax_run _ _ [_, _, some (.inl (.int (nI i)))] _ _ _ _ _ = _
    rw [g_X1_installedSet_4, if_neg (nI_ge hlt (by decide)), nI_1, bd_n hlt (by decide)]
    by_cases c : f 13 r i ≤ 0
    · rw [if_pos c, if_pos c]
    · rw [if_neg c, if_neg c]
  · show ax_run _ _ [_, _, some (.inl (.int (nI 12)))] _ _ _ _ _ = _
    rw [g_X1_installedSet_4, if_pos (nI_le (Nat.le_refl _) (by decide))]
    rfl
theorem x1_versionOf (f g) (r : Nat) {p : Nat} (hp : p < 12) : s_X1_versionOf [.inr (12, r), .inl (.int (nI p))] f g = rI (f 13 r p) f g := by
  rw [e_X1_versionOf, g_X1_versionOf_0, if_neg (nI_pos (sm31 (by omega))), if_neg (nI_ge hp (by decide)), bd_n hp (by decide)]
/-- a client's property -/
def xcp (f : ax_F) (r w : Nat) : Int32 := if w = 0 then f 12 r 1 else if w = 1 then f 12 r 2 else if w = 2 then ins 12 (f 13 r) else f 13 r (w - 3)
theorem nI_ne {a b : Nat} (h : a ≠ b) (ha : a ≤ 1000) (hb : b ≤ 1000) : ¬ nI a = nI b := fun q => h (nI_inj (sm31 ha) (sm31 hb) q)
theorem nI_neL {a : Nat} (b : Nat) (h : a ≠ b) (ha : a ≤ 1000) (hb : b ≤ 1000) : ¬ nI a = (OfNat.ofNat b : Int32) := nI_ne h ha hb
theorem x1_property (f g) (r : Nat) {w : Nat} (hw : w < 15) : s_X1_property [.inr (12, r), .inl (.int (nI w))] f g = rI (xcp f r w) f g := by
  rw [e_X1_property, g_X1_property_0]
  unfold xcp
  by_cases h0 : w = 0
  · subst h0; rfl
  rw [if_neg (nI_neL 0 h0 (by omega) (by decide)), if_neg h0]
  by_cases h1 : w = 1
  · subst h1; rfl
  rw [if_neg (nI_neL 1 h1 (by omega) (by decide)), if_neg h1]
  by_cases h2 : w = 2
  · subst h2; rw [if_pos rfl, x1_installedSet, cali_r]; rfl
  rw [if_neg (nI_neL 2 h2 (by omega) (by decide)), if_neg h2]
  have e : nI w - (3 : Int32) = nI (w - 3) := pk_sub (a := w) (b := 3) (by omega)
  rw [e, x1_versionOf f g r (by omega), cali_r]
end AXA
