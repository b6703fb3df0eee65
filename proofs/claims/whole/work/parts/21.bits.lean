/-! Integer.bitCount counts the bits -/
section AXB
theorem and_split (n x y : Nat) : x &&& y = 2 ^ n * ((x / 2 ^ n) &&& (y / 2 ^ n)) + ((x % 2 ^ n) &&& (y % 2 ^ n)) := by
  have h := (Nat.div_add_mod (x &&& y) (2 ^ n)).symm
  rw [Nat.and_div_two_pow, Nat.and_mod_two_pow] at h
  exact h
set_option maxRecDepth 100000 in
theorem and4 (u0 u1 u2 u3 m : Nat) (h0 : u0 < 256) (h1 : u1 < 256) (h2 : u2 < 256) (hm : m < 256) : (u0 + 256 * u1 + 65536 * u2 + 16777216 * u3) &&& (m * 16843009) = (u0 &&& m) + 256 * (u1 &&& m) + 65536 * (u2 &&& m) + 16777216 * (u3 &&& m) := by
  rw [and_split 16 (u0 + 256 * u1 + 65536 * u2 + 16777216 * u3) (m * 16843009)]
  have a1 : (u0 + 256 * u1 + 65536 * u2 + 16777216 * u3) / 2 ^ 16 = u2 + 256 * u3 := by omega
  have a2 : (u0 + 256 * u1 + 65536 * u2 + 16777216 * u3) % 2 ^ 16 = u0 + 256 * u1 := by omega
  have a3 : (m * 16843009) / 2 ^ 16 = m * 257 := by omega
  have a4 : (m * 16843009) % 2 ^ 16 = m * 257 := by omega
  rw [a1, a2, a3, a4, and_split 8 (u2 + 256 * u3) (m * 257), and_split 8 (u0 + 256 * u1) (m * 257)]
  have c1 : (u2 + 256 * u3) / 2 ^ 8 = u3 := by omega
  have c2 : (u2 + 256 * u3) % 2 ^ 8 = u2 := by omega
  have c3 : (m * 257) / 2 ^ 8 = m := by omega
  have c4 : (m * 257) % 2 ^ 8 = m := by omega
  have c5 : (u0 + 256 * u1) / 2 ^ 8 = u1 := by omega
  have c6 : (u0 + 256 * u1) % 2 ^ 8 = u0 := by omega
  rw [c1, c2, c3, c4, c5, c6]
  omega
def pp1 (b : Nat) : Nat := b - (b / 2 &&& 85)
def pp2 (b : Nat) : Nat := (b &&& 51) + (b / 4 &&& 51)
def pp3 (b : Nat) : Nat := (b + b / 16) &&& 15
theorem pp_t1 : ∀ b, b < 256 → (b / 2 &&& 85) ≤ b ∧ pp1 b < 256 ∧ (b / 2 + 128 * 0 &&& 85) = (b / 2 &&& 85) ∧ (b / 2 + 128 * 1 &&& 85) = (b / 2 &&& 85) := by decide +kernel
theorem pp_t2 : ∀ b, b < 256 → pp2 (pp1 b) < 256 ∧ (pp1 b / 4 + 64 * 0 &&& 51) = (pp1 b / 4 &&& 51) ∧ (pp1 b / 4 + 64 * 1 &&& 51) = (pp1 b / 4 &&& 51) ∧ (pp1 b / 4 + 64 * 2 &&& 51) = (pp1 b / 4 &&& 51) ∧ (pp1 b / 4 + 64 * 3 &&& 51) = (pp1 b / 4 &&& 51) := by decide +kernel
theorem pp_t3 : ∀ b, b < 256 → pp2 (pp1 b) % 16 ≤ 4 ∧ pp2 (pp1 b) / 16 ≤ 4 ∧ pp3 (pp2 (pp1 b)) ≤ 8 := by decide +kernel
theorem pp_t4 : ∀ b, b < 256 → ∀ t, t < 5 → (pp2 (pp1 b) + pp2 (pp1 b) / 16 + 16 * t &&& 15) = pp3 (pp2 (pp1 b)) := by decide +kernel
theorem pp_t5 : ∀ b, b < 256 → pp3 (pp2 (pp1 b)) = b % 2 + b / 2 % 2 + b / 4 % 2 + b / 8 % 2 + b / 16 % 2 + b / 32 % 2 + b / 64 % 2 + b / 128 % 2 := by decide +kernel
/-- the five lines of bitCount, in natural numbers -/
theorem pp_all (b0 b1 b2 b3 : Nat) (h0 : b0 < 256) (h1 : b1 < 256) (h2 : b2 < 256) (h3 : b3 < 256) (n i1 i2 i3 i4 i5 : Nat) (hn : n = b0 + 256 * b1 + 65536 * b2 + 16777216 * b3) (e1 : i1 = n - (n / 2 &&& 1431655765)) (e2 : i2 = (i1 &&& 858993459) + (i1 / 4 &&& 858993459)) (e3 : i3 = (i2 + i2 / 16) &&& 252645135) (e4 : i4 = i3 + i3 / 256) (e5 : i5 = i4 + i4 / 65536) :
    (n / 2 &&& 1431655765) ≤ n ∧ i2 < 4294967296 ∧ i2 + i2 / 16 < 4294967296 ∧ i4 < 4294967296 ∧ i5 < 4294967296 ∧ i5 % 64 = pp3 (pp2 (pp1 b0)) + pp3 (pp2 (pp1 b1)) + pp3 (pp2 (pp1 b2)) + pp3 (pp2 (pp1 b3)) := by
  have par : ∀ b : Nat, b % 2 = 0 ∨ b % 2 = 1 := fun b => by omega
  obtain ⟨t01, t02, t03, t04⟩ := pp_t1 b0 h0
  obtain ⟨t11, t12, t13, t14⟩ := pp_t1 b1 h1
  obtain ⟨t21, t22, t23, t24⟩ := pp_t1 b2 h2
  obtain ⟨t31, t32, t33, t34⟩ := pp_t1 b3 h3
  have q1 : n / 2 &&& 1431655765 = (b0 / 2 &&& 85) + 256 * (b1 / 2 &&& 85) + 65536 * (b2 / 2 &&& 85) + 16777216 * (b3 / 2 &&& 85) := by
    have : n / 2 = (b0 / 2 + 128 * (b1 % 2)) + 256 * (b1 / 2 + 128 * (b2 % 2)) + 65536 * (b2 / 2 + 128 * (b3 % 2)) + 16777216 * (b3 / 2) := by omega
    rw [this, show (1431655765 : Nat) = 85 * 16843009 from rfl, and4 _ _ _ _ 85 (by omega) (by omega) (by omega) (by decide)]
    have w0 : (b0 / 2 + 128 * (b1 % 2) &&& 85) = (b0 / 2 &&& 85) := by rcases par b1 with q | q <;> rw [q] <;> assumption
    have w1 : (b1 / 2 + 128 * (b2 % 2) &&& 85) = (b1 / 2 &&& 85) := by rcases par b2 with q | q <;> rw [q] <;> assumption
    have w2 : (b2 / 2 + 128 * (b3 % 2) &&& 85) = (b2 / 2 &&& 85) := by rcases par b3 with q | q <;> rw [q] <;> assumption
    rw [w0, w1, w2]
  have p1 : i1 = pp1 b0 + 256 * pp1 b1 + 65536 * pp1 b2 + 16777216 * pp1 b3 := by
    rw [e1, q1, hn]
    unfold pp1
    omega
  have hle : (n / 2 &&& 1431655765) ≤ n := by rw [q1, hn]; omega
  clear q1
  obtain ⟨c0, c1, c2, c3, cc0, cc1, cc2, cc3⟩ : ∃ c0 c1 c2 c3, pp1 b0 = c0 ∧ pp1 b1 = c1 ∧ pp1 b2 = c2 ∧ pp1 b3 = c3 := ⟨_, _, _, _, rfl, rfl, rfl, rfl⟩
  obtain ⟨s01, s02, s03, s04, s05⟩ := pp_t2 b0 h0
  obtain ⟨s11, s12, s13, s14, s15⟩ := pp_t2 b1 h1
  obtain ⟨s21, s22, s23, s24, s25⟩ := pp_t2 b2 h2
  obtain ⟨s31, -⟩ := pp_t2 b3 h3
  have par4 : ∀ b : Nat, b % 4 = 0 ∨ b % 4 = 1 ∨ b % 4 = 2 ∨ b % 4 = 3 := fun b => by omega
  have p2 : i2 = pp2 (pp1 b0) + 256 * pp2 (pp1 b1) + 65536 * pp2 (pp1 b2) + 16777216 * pp2 (pp1 b3) := by
    rw [e2, p1]
    have : (pp1 b0 + 256 * pp1 b1 + 65536 * pp1 b2 + 16777216 * pp1 b3) / 4 = (pp1 b0 / 4 + 64 * (pp1 b1 % 4)) + 256 * (pp1 b1 / 4 + 64 * (pp1 b2 % 4)) + 65536 * (pp1 b2 / 4 + 64 * (pp1 b3 % 4)) + 16777216 * (pp1 b3 / 4) := by omega
    rw [this, show (858993459 : Nat) = 51 * 16843009 from rfl, and4 _ _ _ _ 51 (by omega) (by omega) (by omega) (by decide), and4 _ _ _ _ 51 (by omega) (by omega) (by omega) (by decide)]
    have w0 : (pp1 b0 / 4 + 64 * (pp1 b1 % 4) &&& 51) = (pp1 b0 / 4 &&& 51) := by rcases par4 (pp1 b1) with q | q | q | q <;> rw [q] <;> assumption
    have w1 : (pp1 b1 / 4 + 64 * (pp1 b2 % 4) &&& 51) = (pp1 b1 / 4 &&& 51) := by rcases par4 (pp1 b2) with q | q | q | q <;> rw [q] <;> assumption
    have w2 : (pp1 b2 / 4 + 64 * (pp1 b3 % 4) &&& 51) = (pp1 b2 / 4 &&& 51) := by rcases par4 (pp1 b3) with q | q | q | q <;> rw [q] <;> assumption
    rw [w0, w1, w2]
    unfold pp2
    omega
  obtain ⟨r01, r02, r03⟩ := pp_t3 b0 h0
  obtain ⟨r11, r12, r13⟩ := pp_t3 b1 h1
  obtain ⟨r21, r22, r23⟩ := pp_t3 b2 h2
  obtain ⟨r31, r32, r33⟩ := pp_t3 b3 h3
  have p3 : i3 = pp3 (pp2 (pp1 b0)) + 256 * pp3 (pp2 (pp1 b1)) + 65536 * pp3 (pp2 (pp1 b2)) + 16777216 * pp3 (pp2 (pp1 b3)) := by
    have : i2 + i2 / 16 = (pp2 (pp1 b0) + pp2 (pp1 b0) / 16 + 16 * (pp2 (pp1 b1) % 16)) + 256 * (pp2 (pp1 b1) + pp2 (pp1 b1) / 16 + 16 * (pp2 (pp1 b2) % 16)) + 65536 * (pp2 (pp1 b2) + pp2 (pp1 b2) / 16 + 16 * (pp2 (pp1 b3) % 16)) + 16777216 * (pp2 (pp1 b3) + pp2 (pp1 b3) / 16) := by rw [p2]; omega
    rw [e3, this, show (252645135 : Nat) = 15 * 16843009 from rfl, and4 _ _ _ _ 15 (by omega) (by omega) (by omega) (by decide), pp_t4 b0 h0 _ (by omega), pp_t4 b1 h1 _ (by omega), pp_t4 b2 h2 _ (by omega)]
    have := pp_t4 b3 h3 0 (by decide)
    rw [Nat.mul_zero, Nat.add_zero] at this
    rw [this]
  have bnd2 : i2 < 4294967296 ∧ i2 + i2 / 16 < 4294967296 := ⟨by rw [p2]; omega, by rw [p2]; omega⟩
  clear e1 e2 e3 p1 p2 hn t01 t02 t03 t04 t11 t12 t13 t14 t21 t22 t23 t24 t31 t32 t33 t34 s01 s02 s03 s04 s05 s11 s12 s13 s14 s15 s21 s22 s23 s24 s25 s31 r01 r02 r11 r12 r21 r22 r31 r32
  generalize pp3 (pp2 (pp1 b0)) = E0 at *
  generalize pp3 (pp2 (pp1 b1)) = E1 at *
  generalize pp3 (pp2 (pp1 b2)) = E2 at *
  generalize pp3 (pp2 (pp1 b3)) = E3 at *
  have d1 : i3 / 256 = E1 + 256 * E2 + 65536 * E3 := by rw [p3]; omega
  have p4 : i4 = (E0 + E1) + 256 * (E1 + E2) + 65536 * (E2 + E3) + 16777216 * E3 := by rw [e4, d1, p3]; omega
  have d2 : i4 / 65536 = (E2 + E3) + 256 * E3 := by rw [p4]; omega
  have p5 : i5 = (E0 + E1 + E2 + E3) + 64 * (4 * (E1 + E2 + E3) + 1024 * (E2 + E3) + 262144 * E3) := by rw [e5, d2, p4]; omega
  refine ⟨hle, bnd2.1, bnd2.2, by rw [p4]; omega, by rw [p5]; omega, ?_⟩
  rw [p5, Nat.add_mul_mod_self_left]
  omega
end AXB
