/-! Integer.bitCount, on what isn't negative -/
section AXC
/-- the bits of a set, as the reference counts them -/
def bts (x : Int32) : Int32 := ax_sum 31 (fun k => (x >>> (nI k &&& 31)) &&& 1)
def us (k : Nat) (x : Int32) : Int32 := (x.toUInt32 >>> ((nI k).toUInt32 &&& Int32.toUInt32 31)).toInt32
def bc1 (x : Int32) : Int32 := x - (us 1 x &&& 1431655765)
def bc2 (x : Int32) : Int32 := (x &&& 858993459) + (us 2 x &&& 858993459)
def bc3 (x : Int32) : Int32 := (x + us 4 x) &&& 252645135
def bc4 (x : Int32) : Int32 := x + us 8 x
def bc5 (x : Int32) : Int32 := x + us 16 x
theorem J6_bc (x : Int32) (f g) : s_J6_bitCount [.inl (.int x)] f g = rI (bc5 (bc4 (bc3 (bc2 (bc1 x)))) &&& 63) f g := by
  rw [e_J6_bitCount, g_J6_bitCount_0]
  rfl
theorem us_n {n k : Nat} (hk : k < 32) (hn : n < 2 ^ 32) : us k (nI n) = nI (n / 2 ^ k) := pk_ushrN hn (nI k) k (s_u k hk)
theorem nI_sum (n : Nat) (h : Nat → Nat) : ax_sum n (fun k => nI (h k)) = nI (ax_it n (fun i a => a + h i) 0) := by
  unfold ax_sum
  induction n with
  | zero => rfl
  | succ n ih => rw [ax_it_s, ax_it_s, ih, nI_add]
theorem bts_n {n : Nat} (hn : n < 2 ^ 31) : bts (nI n) = nI (ax_it 31 (fun k a => a + n / 2 ^ k % 2) 0) := by
  unfold bts
  rw [← nI_sum]
  refine ax_sum_congr (fun k hk => ?_)
  rw [pk_shrN hn (nI k &&& 31) k (s_l k (by omega)), pk_andN (Nat.lt_of_le_of_lt (Nat.div_le_self n (2 ^ k)) (Nat.lt_trans hn (by decide))) 1 (by decide)]
theorem bt_b0 (n j : Nat) (hj : j ≤ 7) : n % 256 / 2 ^ j % 2 = n / 2 ^ j % 2 := by
  have : j = 0 ∨ j = 1 ∨ j = 2 ∨ j = 3 ∨ j = 4 ∨ j = 5 ∨ j = 6 ∨ j = 7 := by omega
  rcases this with rfl | rfl | rfl | rfl | rfl | rfl | rfl | rfl <;> omega
theorem bt_b (n i j : Nat) (hj : j ≤ 7) : n / 2 ^ i % 256 / 2 ^ j % 2 = n / 2 ^ (i + j) % 2 := by
  rw [bt_b0 _ j hj, Nat.div_div_eq_div_mul, Nat.pow_add]
theorem bt_8 (i n : Nat) : pp3 (pp2 (pp1 (n / 2 ^ i % 256))) = n / 2 ^ (i + 0) % 2 + n / 2 ^ (i + 1) % 2 + n / 2 ^ (i + 2) % 2 + n / 2 ^ (i + 3) % 2 + n / 2 ^ (i + 4) % 2 + n / 2 ^ (i + 5) % 2 + n / 2 ^ (i + 6) % 2 + n / 2 ^ (i + 7) % 2 := by
  rw [pp_t5 _ (Nat.mod_lt _ (by decide)), ← bt_b n i 0 (by decide), ← bt_b n i 1 (by decide), ← bt_b n i 2 (by decide), ← bt_b n i 3 (by decide), ← bt_b n i 4 (by decide), ← bt_b n i 5 (by decide), ← bt_b n i 6 (by decide), ← bt_b n i 7 (by decide)]
  simp only [Nat.pow_zero, Nat.div_one]
theorem bc_e {n i1 i2 i3 : Nat} (hn : n < 2 ^ 31) (h1 : i1 = n - (n / 2 &&& 1431655765)) (h2 : i2 = (i1 &&& 858993459) + (i1 / 4 &&& 858993459)) (h3 : i3 = (i2 + i2 / 16) &&& 252645135) (l1 : (n / 2 &&& 1431655765) ≤ n) (l2 : i2 < 4294967296) (l3 : i2 + i2 / 16 < 4294967296) (l4 : i3 + i3 / 256 < 4294967296) (l5 : i3 + i3 / 256 + (i3 + i3 / 256) / 65536 < 4294967296) : bc5 (bc4 (bc3 (bc2 (bc1 (nI n))))) &&& 63 = nI ((i3 + i3 / 256 + (i3 + i3 / 256) / 65536) % 64) := by
  have b1 : i1 < 4294967296 := by omega
  have b3 : i3 < 4294967296 := by omega
  have e1 : bc1 (nI n) = nI i1 := by
    unfold bc1
    rw [us_n (by decide) (by omega), show (1431655765 : Int32) = nI 1431655765 from rfl, nx_and, pk_sub l1, h1]
  have e2 : bc2 (nI i1) = nI i2 := by
    unfold bc2
    rw [us_n (by decide) (by omega), show (858993459 : Int32) = nI 858993459 from rfl, nx_and, nx_and, nI_add, h2]
  have e3 : bc3 (nI i2) = nI i3 := by
    unfold bc3
    rw [us_n (by decide) (by omega), show (252645135 : Int32) = nI 252645135 from rfl, nI_add, nx_and, h3]
  have e4 : bc4 (nI i3) = nI (i3 + i3 / 256) := by
    unfold bc4
    rw [us_n (by decide) (by omega), nI_add]
  have e5 : bc5 (nI (i3 + i3 / 256)) = nI (i3 + i3 / 256 + (i3 + i3 / 256) / 65536) := by
    unfold bc5
    rw [us_n (by decide) (by omega), nI_add]
  rw [e1, e2, e3, e4, e5]
  exact pk_andN (m := 63) l5 6 (by decide)
theorem bc_n {n : Nat} (hn : n < 2 ^ 31) : bc5 (bc4 (bc3 (bc2 (bc1 (nI n))))) &&& 63 = bts (nI n) := by
  have hb : n = n / 2 ^ 0 % 256 + 256 * (n / 2 ^ 8 % 256) + 65536 * (n / 2 ^ 16 % 256) + 16777216 * (n / 2 ^ 24 % 256) := by omega
  obtain ⟨i1, h1⟩ : ∃ i1, i1 = n - (n / 2 &&& 1431655765) := ⟨_, rfl⟩
  obtain ⟨i2, h2⟩ : ∃ i2, i2 = (i1 &&& 858993459) + (i1 / 4 &&& 858993459) := ⟨_, rfl⟩
  obtain ⟨i3, h3⟩ : ∃ i3, i3 = (i2 + i2 / 16) &&& 252645135 := ⟨_, rfl⟩
  have m := fun x : Nat => Nat.mod_lt x (show 0 < 256 by decide)
  obtain ⟨l1, l2, l3, l4, l5, l6⟩ := pp_all (n / 2 ^ 0 % 256) (n / 2 ^ 8 % 256) (n / 2 ^ 16 % 256) (n / 2 ^ 24 % 256) (m _) (m _) (m _) (m _) n i1 i2 i3 (i3 + i3 / 256) (i3 + i3 / 256 + (i3 + i3 / 256) / 65536) hb h1 h2 h3 rfl rfl
  rw [bc_e hn h1 h2 h3 l1 l2 l3 l4 l5, l6, bt_8, bt_8, bt_8, bt_8, bts_n hn]
  have h31 : n / 2 ^ 31 % 2 = 0 := by omega
  simp only [ax_it_s, ax_it_0, Nat.reduceAdd, h31, Nat.zero_add, Nat.add_zero]
  simp only [Nat.add_assoc]
theorem J6_bitCount {x : Int32} (hx : ¬ x < 0) (f g) : s_J6_bitCount [.inl (.int x)] f g = rI (bts x) f g := by
  obtain ⟨n, hn, rfl⟩ := nI_of hx
  rw [J6_bc, bc_n hn]
end AXC
