/-! the network as mathematics, and the class's mirrors -/
section AXN
def b2 (b : Bool) : Int32 := if b = true then 1 else 0
theorem b2_0 (b : Bool) : b2 b = 0 ↔ b = false := by cases b <;> simp [b2, one_ne]
theorem b2_01 (b : Bool) : b2 b = 0 ∨ b2 b = 1 := by cases b <;> simp [b2]
/-- section, size, told, carries, capacity, interval, offset, upstream, careful; how many packages, mirrors, indexes -/
abbrev Ev : Type := (Nat → Int32) × (Nat → Int32) × (Nat → Nat → Int32) × (Nat → Int32) × (Nat → Int32) × (Nat → Nat) × (Nat → Nat) × (Nat → Option Nat) × (Nat → Bool) × Nat × Nat × Nat
def eSec (E : Ev) : Nat → Int32 := E.1
def eSz (E : Ev) : Nat → Int32 := E.2.1
def eTol (E : Ev) : Nat → Nat → Int32 := E.2.2.1
def eCar (E : Ev) : Nat → Int32 := E.2.2.2.1
def eCap (E : Ev) : Nat → Int32 := E.2.2.2.2.1
def eItv (E : Ev) : Nat → Nat := E.2.2.2.2.2.1
def eOfs (E : Ev) : Nat → Nat := E.2.2.2.2.2.2.1
def eUps (E : Ev) : Nat → Option Nat := E.2.2.2.2.2.2.2.1
def eCrf (E : Ev) : Nat → Bool := E.2.2.2.2.2.2.2.2.1
def eNp (E : Ev) : Nat := E.2.2.2.2.2.2.2.2.2.1
def eNm (E : Ev) : Nat := E.2.2.2.2.2.2.2.2.2.2.1
def eNi (E : Ev) : Nat := E.2.2.2.2.2.2.2.2.2.2.2
/-- own index, wrong, files, time, copied -/
abbrev St : Type := (Nat → Nat) × (Nat → Bool) × (Nat → Nat → Int32) × Nat × Int32
def sOwn (S : St) : Nat → Nat := S.1
def sWr (S : St) : Nat → Bool := S.2.1
def sFl (S : St) : Nat → Nat → Int32 := S.2.2.1
def sTm (S : St) : Nat := S.2.2.2.1
def sCp (S : St) : Int32 := S.2.2.2.2
def up1 {α : Type} (F : Nat → α) (m : Nat) (x : α) : Nat → α := fun i => if i = m then x else F i
theorem up1_s {α : Type} (F : Nat → α) (m : Nat) (x : α) : up1 F m x m = x := if_pos rfl
theorem up1_n {α : Type} (F : Nat → α) {m i : Nat} (x : α) (h : i ≠ m) : up1 F m x i = F i := if_neg h
/-- a file that should be there and isn't -/
def lk (c s x v : Int32) : Bool := decide (0 < v) && (hs c s && !hs x v)
def gud (S : St) (m : Nat) : Bool := decide (0 < sOwn S m) && !sWr S m
def offr (E : Ev) (S : St) (m : Nat) : Nat := match eUps E m with
  | none => eNi E
  | some u => if gud S u = true then sOwn S u else 0
def ther (E : Ev) (S : St) (m j p : Nat) : Bool := match eUps E m with
  | none => true
  | some u => hs (sFl S u p) (eTol E j p)
def cp1 (E : Ev) (S : St) (m j p : Nat) (a : (Nat → Int32) × Int32 × Int32) : (Nat → Int32) × Int32 × Int32 :=
  if ther E S m j p = true ∧ eSz E p ≤ a.2.1 ∧ lk (eCar E m) (eSec E p) (a.1 p) (eTol E j p) = true then (upd a.1 p (a.1 p ||| ((1 : Int32) <<< (eTol E j p &&& 31))), a.2.1 - eSz E p, a.2.2 + 1) else a
def cpy (E : Ev) (S : St) (m j : Nat) : (Nat → Int32) × Int32 × Int32 := ax_it (eNp E) (cp1 E S m j) (sFl S m, eCap E m, 0)
def mis (E : Ev) (S : St) (m j : Nat) : Int32 := ax_sum (eNp E) (fun p => if lk (eCar E m) (eSec E p) (sFl S m p) (eTol E j p) = true then 1 else 0)
def drp (x v : Int32) : Int32 := if 0 < v then x &&& ((1 : Int32) <<< (v &&& 31)) else 0
def sCpd (E : Ev) (S : St) (m j : Nat) : St := (sOwn S, sWr S, up1 (sFl S) m (cpy E S m j).1, sTm S, sCp S + (cpy E S m j).2.2)
def sDrp (E : Ev) (S : St) (m j : Nat) : St := (sOwn S, sWr S, up1 (sFl S) m (fun p => if p < eNp E then drp (sFl S m p) (eTol E j p) else sFl S m p), sTm S, sCp S)
def sTak (S : St) (m j : Nat) : St := (up1 (sOwn S) m j, up1 (sWr S) m false, sFl S, sTm S, sCp S)
/-- a pull -/
def pul (E : Ev) (S : St) (m : Nat) : St :=
  if offr E S m = 0 then S
  else if eCrf E m = false ∨ mis E (sCpd E S m (offr E S m)) m (offr E S m) = 0 then
    (if sOwn S m = offr E S m then sTak (sCpd E S m (offr E S m)) m (offr E S m) else sDrp E (sTak (sCpd E S m (offr E S m)) m (offr E S m)) m (offr E S m))
  else sCpd E S m (offr E S m)
def sTick (S : St) : St := (sOwn S, sWr S, sFl S, sTm S + 1, sCp S)
def mnt (E : Ev) (S : St) : St := ax_it (eNm E) (fun m T => if sTm T % eItv E m = eOfs E m then pul E T m else T) (sTick S)
/-- well made -/
def EW (E : Ev) : Prop := eNp E ≤ 12 ∧ eNm E ≤ 6 ∧ eNi E ≤ 20 ∧ (∀ m, m < eNm E → 1 ≤ eItv E m ∧ eItv E m ≤ 60 ∧ eOfs E m < eItv E m ∧ ∀ u, eUps E m = some u → u < m) ∧ ∀ j p, ∃ w, w ≤ 30 ∧ eTol E j p = nI w
def SW (E : Ev) (S : St) : Prop := (∀ m, m < eNm E → sOwn S m ≤ eNi E) ∧ (∀ m, m < eNm E → ∀ p, sFl S m p &&& (-2147483647) = 0) ∧ (∀ m, m < eNm E → ∀ p, eNp E ≤ p → sFl S m p = 0) ∧ sTm S < 2 ^ 30
theorem tol_v {E : Ev} (hE : EW E) (j p : Nat) : ¬ 30 < eTol E j p ∧ (¬ eTol E j p < 1 ↔ 0 < eTol E j p) := by
  obtain ⟨w, hw, e⟩ := hE.2.2.2.2 j p
  rw [e]
  refine ⟨fun q => ?_, ?_⟩
  · have := (nI_ltI (a := 30) (b := w) (by decide) (sm31 (by omega))).mp q
    omega
  · have a1 : (nI w < 1) ↔ w < 1 := nI_ltI (a := w) (b := 1) (sm31 (by omega)) (by decide)
    have a2 : ((0 : Int32) < nI w) ↔ 0 < w := nI_ltI (a := 0) (b := w) (by decide) (sm31 (by omega))
    rw [a1, a2]
    omega
/-! the class's mirrors -/
theorem x4_hasFile (f g) (a : Nat) {p : Nat} (v : Int32) (hp : p < 12) : s_X4_hasFile [.inr (9, a), .inl (.int (nI p)), .inl (.int v)] f g = rI (if ¬ v < 1 ∧ ¬ 30 < v ∧ hs (f 10 a p) v = true then 1 else 0) f g := by
  rw [e_X4_hasFile, g_X4_hasFile_0, if_neg (nI_pos (sm31 (by omega))), if_neg (nI_ge hp (by decide)), bd_n hp (by decide)]
  by_cases h1 : v < 1
  · rw [if_pos h1, if_neg (fun q => q.1 h1)]
  rw [if_neg h1]
  by_cases h2 : 30 < v
  · rw [if_pos h2, if_neg (fun q => q.2.1 h2)]
  rw [if_neg h2]
  by_cases c : ((f 10 a p >>> (v &&& 31)) &&& 1) = 0
  · rw [if_pos c, if_neg (fun q => by rw [hs_f.mpr c] at q; cases q.2.2)]
  · rw [if_neg c, if_pos ⟨h1, h2, hs_t.mpr c⟩]
theorem x4_lacks (f g) (a : Nat) {p : Nat} (s v : Int32) (hp : p < 12) : s_X4_lacks [.inr (9, a), .inl (.int s), .inl (.int (nI p)), .inl (.int v)] f g = rI (if ¬ v < 1 ∧ ¬ 30 < v ∧ hs (f 9 a 1) s = true ∧ hs (f 10 a p) v = false then 1 else 0) f g := by
  rw [e_X4_lacks, g_X4_lacks_0, if_neg (nI_pos (sm31 (by omega))), if_neg (nI_ge hp (by decide)), bd_n hp (by decide)]
  by_cases h1 : v < 1
  · rw [if_pos h1, if_neg (fun q => q.1 h1)]
  rw [if_neg h1]
  by_cases h2 : 30 < v
  · rw [if_pos h2, if_neg (fun q => q.2.1 h2)]
  rw [if_neg h2]
  by_cases d : ((f 9 a 1 >>> (s &&& 31)) &&& 1) = 0
  · rw [if_pos d, if_neg (fun q => by rw [hs_f.mpr d] at q; cases q.2.2.1)]
  rw [if_neg d]
  by_cases c : ((f 10 a p >>> (v &&& 31)) &&& 1) = 0
  · rw [if_pos c, if_pos ⟨h1, h2, hs_t.mpr d, hs_f.mpr c⟩]
  · rw [if_neg c, if_neg (fun q => by rw [hs_t.mpr c] at q; cases q.2.2.2)]
theorem x4_addFile (f g) (a : Nat) {p : Nat} (v : Int32) (hp : p < 12) : s_X4_addFile [.inr (9, a), .inl (.int (nI p)), .inl (.int v)] f g = rV (ax_up f 10 a p (f 10 a p ||| ((1 : Int32) <<< (v &&& 31)))) g := by
  rw [e_X4_addFile, g_X4_addFile_0, if_neg (nI_pos (sm31 (by omega))), if_neg (nI_ge hp (by decide)), bd_n hp (by decide), bd_n hp (by decide)]
theorem x4_dropFile (f g) (a : Nat) {p : Nat} (v : Int32) (hp : p < 12) : s_X4_dropFile [.inr (9, a), .inl (.int (nI p)), .inl (.int v)] f g = rV (ax_up f 10 a p (f 10 a p &&& (((1 : Int32) <<< (v &&& 31)) ^^^ (-1)))) g := by
  rw [e_X4_dropFile, g_X4_dropFile_0, if_neg (nI_pos (sm31 (by omega))), if_neg (nI_ge hp (by decide)), bd_n hp (by decide), bd_n hp (by decide)]
theorem x4_dropOther (f g) (a : Nat) {p : Nat} (v : Int32) (hp : p < 12) : s_X4_dropOtherVersions [.inr (9, a), .inl (.int (nI p)), .inl (.int v)] f g = rV (ax_up f 10 a p (f 10 a p &&& ((1 : Int32) <<< (v &&& 31)))) g := by
  rw [e_X4_dropOtherVersions, g_X4_dropOtherVersions_0, if_neg (nI_pos (sm31 (by omega))), if_neg (nI_ge hp (by decide)), bd_n hp (by decide), bd_n hp (by decide)]
theorem x4_hasGood (f g) (a : Nat) {o : Nat} {w : Bool} (h7 : f 9 a 7 = nI o) (ho : o ≤ 1000) (h8 : f 9 a 8 = b2 w) : s_X4_hasGoodIndex [.inr (9, a)] f g = rI (b2 (decide (0 < o) && !w)) f g := by
  rw [e_X4_hasGoodIndex, g_X4_hasGoodIndex_0, h7, h8]
  by_cases h : o = 0
  · subst h; rw [if_pos (show nI 0 ≤ 0 by decide +kernel)]; rfl
  · rw [if_neg (nI_nle (by omega) (sm31 ho))]
    have hd : decide (0 < o) = true := decide_eq_true (by omega)
    cases w
    · rw [if_pos (by decide +kernel), hd]; rfl
    · rw [if_neg (by decide +kernel), hd]; rfl
theorem x4_takeIndex (f g) (a : Nat) (x : Int32) : s_X4_takeIndex [.inr (9, a), .inl (.int x)] f g = rV (ax_up (ax_up f 9 a 7 x) 9 a 8 0) g := by
  rw [e_X4_takeIndex, g_X4_takeIndex_0]
theorem x4_pullsAt (f g) (a : Nat) {t d o : Nat} (h2 : f 9 a 2 = nI d) (h3 : f 9 a 3 = nI o) (hd : 1 ≤ d ∧ d ≤ 60) (ho : o < d) (ht : t < 2 ^ 30 + 1) : s_X4_pullsAt [.inr (9, a), .inl (.int (nI t))] f g = rI (if t % d = o then 1 else 0) f g := by
  rw [e_X4_pullsAt, g_X4_pullsAt_0, h2, h3, if_neg (nI_nle (by omega) (sm31 (by omega))), if_neg (nI_ne0 (by omega) (sm31 (by omega))), pk_rem (by omega) (by omega) (sm31 (by omega))]
  have hm : t % d < d := Nat.mod_lt _ (by omega)
  by_cases h : t % d = o
  · rw [if_pos h, if_pos (by rw [h])]
  · rw [if_neg h, if_neg (fun q => h (nI_inj (sm31 (by omega)) (sm31 (by omega)) q))]
end AXN
