def swarN (x : Nat) : Nat :=
  let i1 := x - (x / 2 &&& 1431655765)
  let i2 := (i1 &&& 858993459) + (i1 / 4 &&& 858993459)
  let i3 := (i2 + i2 / 16) &&& 252645135
  let i4 := i3 + i3 / 256
  let i5 := i4 + i4 / 65536
  i5 &&& 63
def popB (x : Nat) : Nat := x % 2 + x / 2 % 2 + x / 4 % 2 + x / 8 % 2 + x / 16 % 2 + x / 32 % 2 + x / 64 % 2 + x / 128 % 2
theorem swar_0 : ∀ a, a < 16 → ∀ b, b < 256 → swarN (0 + a * 256 + b) = popB b + popB (0 + a) := by decide +kernel
theorem swar_1 : ∀ a, a < 16 → ∀ b, b < 256 → swarN (4096 + a * 256 + b) = popB b + popB (16 + a) := by decide +kernel
theorem swar_2 : ∀ a, a < 16 → ∀ b, b < 256 → swarN (8192 + a * 256 + b) = popB b + popB (32 + a) := by decide +kernel
theorem swar_3 : ∀ a, a < 16 → ∀ b, b < 256 → swarN (12288 + a * 256 + b) = popB b + popB (48 + a) := by decide +kernel
theorem swar_4 : ∀ a, a < 16 → ∀ b, b < 256 → swarN (16384 + a * 256 + b) = popB b + popB (64 + a) := by decide +kernel
theorem swar_5 : ∀ a, a < 16 → ∀ b, b < 256 → swarN (20480 + a * 256 + b) = popB b + popB (80 + a) := by decide +kernel
theorem swar_6 : ∀ a, a < 16 → ∀ b, b < 256 → swarN (24576 + a * 256 + b) = popB b + popB (96 + a) := by decide +kernel
theorem swar_7 : ∀ a, a < 16 → ∀ b, b < 256 → swarN (28672 + a * 256 + b) = popB b + popB (112 + a) := by decide +kernel
theorem swar_8 : ∀ a, a < 16 → ∀ b, b < 256 → swarN (32768 + a * 256 + b) = popB b + popB (128 + a) := by decide +kernel
theorem swar_9 : ∀ a, a < 16 → ∀ b, b < 256 → swarN (36864 + a * 256 + b) = popB b + popB (144 + a) := by decide +kernel
theorem swar_10 : ∀ a, a < 16 → ∀ b, b < 256 → swarN (40960 + a * 256 + b) = popB b + popB (160 + a) := by decide +kernel
theorem swar_11 : ∀ a, a < 16 → ∀ b, b < 256 → swarN (45056 + a * 256 + b) = popB b + popB (176 + a) := by decide +kernel
theorem swar_12 : ∀ a, a < 16 → ∀ b, b < 256 → swarN (49152 + a * 256 + b) = popB b + popB (192 + a) := by decide +kernel
theorem swar_13 : ∀ a, a < 16 → ∀ b, b < 256 → swarN (53248 + a * 256 + b) = popB b + popB (208 + a) := by decide +kernel
theorem swar_14 : ∀ a, a < 16 → ∀ b, b < 256 → swarN (57344 + a * 256 + b) = popB b + popB (224 + a) := by decide +kernel
theorem swar_15 : ∀ a, a < 16 → ∀ b, b < 256 → swarN (61440 + a * 256 + b) = popB b + popB (240 + a) := by decide +kernel
theorem popF_add (b : Nat) : ∀ (a n : Nat), popF (a + b) n = popF a n + popF b (n / 2 ^ a)
  | 0, n => by simp [popF]
  | a + 1, n => by
    rw [show a + 1 + b = (a + b) + 1 by omega, popF, popF, popF_add b a (n / 2), Nat.div_div_eq_div_mul, Nat.pow_succ, Nat.mul_comm 2]
    omega
theorem popB_F (x : Nat) : popB x = popF 8 x := by
  simp only [popB, popF, Nat.div_div_eq_div_mul]
  simp only [Nat.reduceMul, Nat.add_zero, Nat.add_assoc]
theorem popF_mod (n : Nat) : popF 8 (n % 256) = popF 8 n := by
  rw [popF_cnt, popF_cnt]
  exact cnt_cong fun k hk => by rw [show 256 = 2 ^ 8 from rfl, Nat.testBit_mod_two_pow]; simp [hk]
theorem popF_B (x : Nat) : popF 16 x = popB (x % 256) + popB (x / 256) := by
  rw [popB_F, popB_F, popF_mod]
  exact popF_add 8 8 x
theorem swarN_ok {x : Nat} (hx : x < 65536) : swarN x = popF 16 x := by
  obtain ⟨c, a, b, hc, ha, hb, rfl⟩ : ∃ c a b, c < 16 ∧ a < 16 ∧ b < 256 ∧ x = c * 4096 + a * 256 + b := ⟨x / 4096, x / 256 % 16, x % 256, by omega, by omega, by omega, by omega⟩
  rw [popF_B, show (c * 4096 + a * 256 + b) % 256 = b by omega, show (c * 4096 + a * 256 + b) / 256 = c * 16 + a by omega]
  have hcs : c = 0 ∨ c = 1 ∨ c = 2 ∨ c = 3 ∨ c = 4 ∨ c = 5 ∨ c = 6 ∨ c = 7 ∨ c = 8 ∨ c = 9 ∨ c = 10 ∨ c = 11 ∨ c = 12 ∨ c = 13 ∨ c = 14 ∨ c = 15 := by omega
  rcases hcs with rfl | rfl | rfl | rfl | rfl | rfl | rfl | rfl | rfl | rfl | rfl | rfl | rfl | rfl | rfl | rfl
  · exact swar_0 a ha b hb
  · exact swar_1 a ha b hb
  · exact swar_2 a ha b hb
  · exact swar_3 a ha b hb
  · exact swar_4 a ha b hb
  · exact swar_5 a ha b hb
  · exact swar_6 a ha b hb
  · exact swar_7 a ha b hb
  · exact swar_8 a ha b hb
  · exact swar_9 a ha b hb
  · exact swar_10 a ha b hb
  · exact swar_11 a ha b hb
  · exact swar_12 a ha b hb
  · exact swar_13 a ha b hb
  · exact swar_14 a ha b hb
  · exact swar_15 a ha b hb
def swar (i : Int32) : Int32 :=
  let i1 := i - (((i.toUInt32 >>> ((1 : Int32).toUInt32 &&& Int32.toUInt32 31)).toInt32) &&& 1431655765)
  let i2 := (i1 &&& 858993459) + (((i1.toUInt32 >>> ((2 : Int32).toUInt32 &&& Int32.toUInt32 31)).toInt32) &&& 858993459)
  let i3 := (i2 + (i2.toUInt32 >>> ((4 : Int32).toUInt32 &&& Int32.toUInt32 31)).toInt32) &&& 252645135
  let i4 := i3 + (i3.toUInt32 >>> ((8 : Int32).toUInt32 &&& Int32.toUInt32 31)).toInt32
  let i5 := i4 + (i4.toUInt32 >>> ((16 : Int32).toUInt32 &&& Int32.toUInt32 31)).toInt32
  i5 &&& 63
theorem swar_N {x : Nat} (hx : x < 65536) : swar (nI x) = nI (swarN x) := by
  have l1 : (1431655765 : Int32) = nI 1431655765 := rfl
  have l2 : (858993459 : Int32) = nI 858993459 := rfl
  have l3 : (252645135 : Int32) = nI 252645135 := rfl
  have l4 : (63 : Int32) = nI 63 := rfl
  have e1 : (1 : Int32) = nI 1 := rfl
  have e2 : (2 : Int32) = nI 2 := rfl
  have e3 : (4 : Int32) = nI 4 := rfl
  have e4 : (8 : Int32) = nI 8 := rfl
  have e5 : (16 : Int32) = nI 16 := rfl
  have a1 : x / 2 &&& 1431655765 ≤ x / 2 := Nat.and_le_left
  unfold swar
  simp only [l1, l2, l3, l4, e1, e2, e3, e4, e5]
  rw [nI_ushr (e := x) (by omega) (by omega), nI_and, nI_sub (by simpa using Nat.le_trans a1 (Nat.div_le_self _ _))]
  generalize hi1 : x - (x / 2 ^ 1 &&& 1431655765) = i1
  have b1 : i1 < 65536 := by omega
  rw [nI_ushr (e := i1) (by omega) (by omega), nI_and, nI_and, nI_add]
  have c1 : i1 &&& 858993459 ≤ i1 := Nat.and_le_left
  have c2 : i1 / 2 ^ 2 &&& 858993459 ≤ i1 / 2 ^ 2 := Nat.and_le_left
  generalize hi2 : (i1 &&& 858993459) + (i1 / 2 ^ 2 &&& 858993459) = i2
  have b2 : i2 < 2 ^ 20 := by omega
  rw [nI_ushr (e := i2) (by omega) (by omega), nI_add, nI_and]
  have c3 : i2 + i2 / 2 ^ 4 &&& 252645135 ≤ i2 + i2 / 2 ^ 4 := Nat.and_le_left
  generalize hi3 : i2 + i2 / 2 ^ 4 &&& 252645135 = i3
  have b3 : i3 < 2 ^ 22 := by omega
  rw [nI_ushr (e := i3) (by omega) (by omega), nI_add]
  have b4 : i3 + i3 / 2 ^ 8 < 2 ^ 23 := by omega
  rw [nI_ushr (e := i3 + i3 / 2 ^ 8) (by omega) (by omega), nI_add, nI_and]
  subst hi3
  subst hi2
  subst hi1
  rfl
