/-! the determinant over the integers: linear in its rows, positive over the vertices, bounded by its columns -/
def ps_d4 (a0 a1 a2 a3 b0 b1 b2 b3 c0 c1 c2 c3 d0 d1 d2 d3 : Int) : Int :=
  (a0 * b1 - a1 * b0) * (c2 * d3 - c3 * d2) - (a0 * b2 - a2 * b0) * (c1 * d3 - c3 * d1) + (a0 * b3 - a3 * b0) * (c1 * d2 - c2 * d1) + (a1 * b2 - a2 * b1) * (c0 * d3 - c3 * d0) - (a1 * b3 - a3 * b1) * (c0 * d2 - c2 * d0) + (a2 * b3 - a3 * b2) * (c0 * d1 - c1 * d0)
def ps_P (a b c d : Nat → Int) : Int :=
  ps_d4 (8 - a 0) (0 - a 1) (0 - a 2) (0 - a 3) (0 - b 0) (8 - b 1) (0 - b 2) (0 - b 3) (0 - c 0) (0 - c 1) (8 - c 2) (0 - c 3) (0 - d 0) (0 - d 1) (0 - d 2) (8 - d 3)
def ps_v (j t : Nat) : Int := if j = t then 4 else 0
theorem ps_r0 (a0 a1 a2 a3 b0 b1 b2 b3 c0 c1 c2 c3 d0 d1 d2 d3 : Int) : ps_d4 a0 a1 a2 a3 b0 b1 b2 b3 c0 c1 c2 c3 d0 d1 d2 d3 = a0 * ps_d4 1 0 0 0 b0 b1 b2 b3 c0 c1 c2 c3 d0 d1 d2 d3 + a1 * ps_d4 0 1 0 0 b0 b1 b2 b3 c0 c1 c2 c3 d0 d1 d2 d3 + a2 * ps_d4 0 0 1 0 b0 b1 b2 b3 c0 c1 c2 c3 d0 d1 d2 d3 + a3 * ps_d4 0 0 0 1 b0 b1 b2 b3 c0 c1 c2 c3 d0 d1 d2 d3 := by
  simp only [ps_d4]
  grind
theorem ps_r1 (a0 a1 a2 a3 b0 b1 b2 b3 c0 c1 c2 c3 d0 d1 d2 d3 : Int) : ps_d4 a0 a1 a2 a3 b0 b1 b2 b3 c0 c1 c2 c3 d0 d1 d2 d3 = b0 * ps_d4 a0 a1 a2 a3 1 0 0 0 c0 c1 c2 c3 d0 d1 d2 d3 + b1 * ps_d4 a0 a1 a2 a3 0 1 0 0 c0 c1 c2 c3 d0 d1 d2 d3 + b2 * ps_d4 a0 a1 a2 a3 0 0 1 0 c0 c1 c2 c3 d0 d1 d2 d3 + b3 * ps_d4 a0 a1 a2 a3 0 0 0 1 c0 c1 c2 c3 d0 d1 d2 d3 := by
  simp only [ps_d4]
  grind
theorem ps_r2 (a0 a1 a2 a3 b0 b1 b2 b3 c0 c1 c2 c3 d0 d1 d2 d3 : Int) : ps_d4 a0 a1 a2 a3 b0 b1 b2 b3 c0 c1 c2 c3 d0 d1 d2 d3 = c0 * ps_d4 a0 a1 a2 a3 b0 b1 b2 b3 1 0 0 0 d0 d1 d2 d3 + c1 * ps_d4 a0 a1 a2 a3 b0 b1 b2 b3 0 1 0 0 d0 d1 d2 d3 + c2 * ps_d4 a0 a1 a2 a3 b0 b1 b2 b3 0 0 1 0 d0 d1 d2 d3 + c3 * ps_d4 a0 a1 a2 a3 b0 b1 b2 b3 0 0 0 1 d0 d1 d2 d3 := by
  simp only [ps_d4]
  grind
theorem ps_r3 (a0 a1 a2 a3 b0 b1 b2 b3 c0 c1 c2 c3 d0 d1 d2 d3 : Int) : ps_d4 a0 a1 a2 a3 b0 b1 b2 b3 c0 c1 c2 c3 d0 d1 d2 d3 = d0 * ps_d4 a0 a1 a2 a3 b0 b1 b2 b3 c0 c1 c2 c3 1 0 0 0 + d1 * ps_d4 a0 a1 a2 a3 b0 b1 b2 b3 c0 c1 c2 c3 0 1 0 0 + d2 * ps_d4 a0 a1 a2 a3 b0 b1 b2 b3 c0 c1 c2 c3 0 0 1 0 + d3 * ps_d4 a0 a1 a2 a3 b0 b1 b2 b3 c0 c1 c2 c3 0 0 0 1 := by
  simp only [ps_d4]
  grind
theorem ps_cv {D x0 x1 x2 x3 d0 d1 d2 d3 : Int} (h : 4 * D = x0 * d0 + x1 * d1 + x2 * d2 + x3 * d3) (hs : x0 + x1 + x2 + x3 = 4) (n0 : 0 ≤ x0) (n1 : 0 ≤ x1) (n2 : 0 ≤ x2) (n3 : 0 ≤ x3) (h0 : 1 ≤ d0) (h1 : 1 ≤ d1) (h2 : 1 ≤ d2) (h3 : 1 ≤ d3) : 1 ≤ D := by
  have e0 := Int.mul_le_mul_of_nonneg_left h0 n0
  have e1 := Int.mul_le_mul_of_nonneg_left h1 n1
  have e2 := Int.mul_le_mul_of_nonneg_left h2 n2
  have e3 := Int.mul_le_mul_of_nonneg_left h3 n3
  rw [Int.mul_one] at e0 e1 e2 e3
  omega
theorem ps_k0 (x b c d : Nat → Int) : ps_P x b c d = (8 - x 0) * (ps_d4 1 0 0 0 (0 - b 0) (8 - b 1) (0 - b 2) (0 - b 3) (0 - c 0) (0 - c 1) (8 - c 2) (0 - c 3) (0 - d 0) (0 - d 1) (0 - d 2) (8 - d 3)) + (0 - x 1) * (ps_d4 0 1 0 0 (0 - b 0) (8 - b 1) (0 - b 2) (0 - b 3) (0 - c 0) (0 - c 1) (8 - c 2) (0 - c 3) (0 - d 0) (0 - d 1) (0 - d 2) (8 - d 3)) + (0 - x 2) * (ps_d4 0 0 1 0 (0 - b 0) (8 - b 1) (0 - b 2) (0 - b 3) (0 - c 0) (0 - c 1) (8 - c 2) (0 - c 3) (0 - d 0) (0 - d 1) (0 - d 2) (8 - d 3)) + (0 - x 3) * (ps_d4 0 0 0 1 (0 - b 0) (8 - b 1) (0 - b 2) (0 - b 3) (0 - c 0) (0 - c 1) (8 - c 2) (0 - c 3) (0 - d 0) (0 - d 1) (0 - d 2) (8 - d 3)) := by
  rw [ps_P, ps_r0]
theorem ps_P0 (x b c d : Nat → Int) (hs : x 0 + x 1 + x 2 + x 3 = 4) : 4 * ps_P x b c d = x 0 * ps_P (ps_v 0) b c d + x 1 * ps_P (ps_v 1) b c d + x 2 * ps_P (ps_v 2) b c d + x 3 * ps_P (ps_v 3) b c d := by
  have hk := fun y => ps_k0 y b c d
  generalize ps_d4 1 0 0 0 (0 - b 0) (8 - b 1) (0 - b 2) (0 - b 3) (0 - c 0) (0 - c 1) (8 - c 2) (0 - c 3) (0 - d 0) (0 - d 1) (0 - d 2) (8 - d 3) = k0 at hk
  generalize ps_d4 0 1 0 0 (0 - b 0) (8 - b 1) (0 - b 2) (0 - b 3) (0 - c 0) (0 - c 1) (8 - c 2) (0 - c 3) (0 - d 0) (0 - d 1) (0 - d 2) (8 - d 3) = k1 at hk
  generalize ps_d4 0 0 1 0 (0 - b 0) (8 - b 1) (0 - b 2) (0 - b 3) (0 - c 0) (0 - c 1) (8 - c 2) (0 - c 3) (0 - d 0) (0 - d 1) (0 - d 2) (8 - d 3) = k2 at hk
  generalize ps_d4 0 0 0 1 (0 - b 0) (8 - b 1) (0 - b 2) (0 - b 3) (0 - c 0) (0 - c 1) (8 - c 2) (0 - c 3) (0 - d 0) (0 - d 1) (0 - d 2) (8 - d 3) = k3 at hk
  rw [hk x, hk (ps_v 0), hk (ps_v 1), hk (ps_v 2), hk (ps_v 3)]
  simp only [show ps_v 0 0 = 4 from rfl, show ps_v 0 1 = 0 from rfl, show ps_v 0 2 = 0 from rfl, show ps_v 0 3 = 0 from rfl, show ps_v 1 0 = 0 from rfl, show ps_v 1 1 = 4 from rfl, show ps_v 1 2 = 0 from rfl, show ps_v 1 3 = 0 from rfl, show ps_v 2 0 = 0 from rfl, show ps_v 2 1 = 0 from rfl, show ps_v 2 2 = 4 from rfl, show ps_v 2 3 = 0 from rfl, show ps_v 3 0 = 0 from rfl, show ps_v 3 1 = 0 from rfl, show ps_v 3 2 = 0 from rfl, show ps_v 3 3 = 4 from rfl]
  generalize x 0 = x0 at hs ⊢
  generalize x 1 = x1 at hs ⊢
  generalize x 2 = x2 at hs ⊢
  generalize x 3 = x3 at hs ⊢
  have hx : x0 = 4 - x1 - x2 - x3 := by omega
  subst hx
  grind
theorem ps_k1 (x a c d : Nat → Int) : ps_P a x c d = (0 - x 0) * (ps_d4 (8 - a 0) (0 - a 1) (0 - a 2) (0 - a 3) 1 0 0 0 (0 - c 0) (0 - c 1) (8 - c 2) (0 - c 3) (0 - d 0) (0 - d 1) (0 - d 2) (8 - d 3)) + (8 - x 1) * (ps_d4 (8 - a 0) (0 - a 1) (0 - a 2) (0 - a 3) 0 1 0 0 (0 - c 0) (0 - c 1) (8 - c 2) (0 - c 3) (0 - d 0) (0 - d 1) (0 - d 2) (8 - d 3)) + (0 - x 2) * (ps_d4 (8 - a 0) (0 - a 1) (0 - a 2) (0 - a 3) 0 0 1 0 (0 - c 0) (0 - c 1) (8 - c 2) (0 - c 3) (0 - d 0) (0 - d 1) (0 - d 2) (8 - d 3)) + (0 - x 3) * (ps_d4 (8 - a 0) (0 - a 1) (0 - a 2) (0 - a 3) 0 0 0 1 (0 - c 0) (0 - c 1) (8 - c 2) (0 - c 3) (0 - d 0) (0 - d 1) (0 - d 2) (8 - d 3)) := by
  rw [ps_P, ps_r1]
theorem ps_P1 (x a c d : Nat → Int) (hs : x 0 + x 1 + x 2 + x 3 = 4) : 4 * ps_P a x c d = x 0 * ps_P a (ps_v 0) c d + x 1 * ps_P a (ps_v 1) c d + x 2 * ps_P a (ps_v 2) c d + x 3 * ps_P a (ps_v 3) c d := by
  have hk := fun y => ps_k1 y a c d
  generalize ps_d4 (8 - a 0) (0 - a 1) (0 - a 2) (0 - a 3) 1 0 0 0 (0 - c 0) (0 - c 1) (8 - c 2) (0 - c 3) (0 - d 0) (0 - d 1) (0 - d 2) (8 - d 3) = k0 at hk
  generalize ps_d4 (8 - a 0) (0 - a 1) (0 - a 2) (0 - a 3) 0 1 0 0 (0 - c 0) (0 - c 1) (8 - c 2) (0 - c 3) (0 - d 0) (0 - d 1) (0 - d 2) (8 - d 3) = k1 at hk
  generalize ps_d4 (8 - a 0) (0 - a 1) (0 - a 2) (0 - a 3) 0 0 1 0 (0 - c 0) (0 - c 1) (8 - c 2) (0 - c 3) (0 - d 0) (0 - d 1) (0 - d 2) (8 - d 3) = k2 at hk
  generalize ps_d4 (8 - a 0) (0 - a 1) (0 - a 2) (0 - a 3) 0 0 0 1 (0 - c 0) (0 - c 1) (8 - c 2) (0 - c 3) (0 - d 0) (0 - d 1) (0 - d 2) (8 - d 3) = k3 at hk
  rw [hk x, hk (ps_v 0), hk (ps_v 1), hk (ps_v 2), hk (ps_v 3)]
  simp only [show ps_v 0 0 = 4 from rfl, show ps_v 0 1 = 0 from rfl, show ps_v 0 2 = 0 from rfl, show ps_v 0 3 = 0 from rfl, show ps_v 1 0 = 0 from rfl, show ps_v 1 1 = 4 from rfl, show ps_v 1 2 = 0 from rfl, show ps_v 1 3 = 0 from rfl, show ps_v 2 0 = 0 from rfl, show ps_v 2 1 = 0 from rfl, show ps_v 2 2 = 4 from rfl, show ps_v 2 3 = 0 from rfl, show ps_v 3 0 = 0 from rfl, show ps_v 3 1 = 0 from rfl, show ps_v 3 2 = 0 from rfl, show ps_v 3 3 = 4 from rfl]
  generalize x 0 = x0 at hs ⊢
  generalize x 1 = x1 at hs ⊢
  generalize x 2 = x2 at hs ⊢
  generalize x 3 = x3 at hs ⊢
  have hx : x0 = 4 - x1 - x2 - x3 := by omega
  subst hx
  grind
theorem ps_k2 (x a b d : Nat → Int) : ps_P a b x d = (0 - x 0) * (ps_d4 (8 - a 0) (0 - a 1) (0 - a 2) (0 - a 3) (0 - b 0) (8 - b 1) (0 - b 2) (0 - b 3) 1 0 0 0 (0 - d 0) (0 - d 1) (0 - d 2) (8 - d 3)) + (0 - x 1) * (ps_d4 (8 - a 0) (0 - a 1) (0 - a 2) (0 - a 3) (0 - b 0) (8 - b 1) (0 - b 2) (0 - b 3) 0 1 0 0 (0 - d 0) (0 - d 1) (0 - d 2) (8 - d 3)) + (8 - x 2) * (ps_d4 (8 - a 0) (0 - a 1) (0 - a 2) (0 - a 3) (0 - b 0) (8 - b 1) (0 - b 2) (0 - b 3) 0 0 1 0 (0 - d 0) (0 - d 1) (0 - d 2) (8 - d 3)) + (0 - x 3) * (ps_d4 (8 - a 0) (0 - a 1) (0 - a 2) (0 - a 3) (0 - b 0) (8 - b 1) (0 - b 2) (0 - b 3) 0 0 0 1 (0 - d 0) (0 - d 1) (0 - d 2) (8 - d 3)) := by
  rw [ps_P, ps_r2]
theorem ps_P2 (x a b d : Nat → Int) (hs : x 0 + x 1 + x 2 + x 3 = 4) : 4 * ps_P a b x d = x 0 * ps_P a b (ps_v 0) d + x 1 * ps_P a b (ps_v 1) d + x 2 * ps_P a b (ps_v 2) d + x 3 * ps_P a b (ps_v 3) d := by
  have hk := fun y => ps_k2 y a b d
  generalize ps_d4 (8 - a 0) (0 - a 1) (0 - a 2) (0 - a 3) (0 - b 0) (8 - b 1) (0 - b 2) (0 - b 3) 1 0 0 0 (0 - d 0) (0 - d 1) (0 - d 2) (8 - d 3) = k0 at hk
  generalize ps_d4 (8 - a 0) (0 - a 1) (0 - a 2) (0 - a 3) (0 - b 0) (8 - b 1) (0 - b 2) (0 - b 3) 0 1 0 0 (0 - d 0) (0 - d 1) (0 - d 2) (8 - d 3) = k1 at hk
  generalize ps_d4 (8 - a 0) (0 - a 1) (0 - a 2) (0 - a 3) (0 - b 0) (8 - b 1) (0 - b 2) (0 - b 3) 0 0 1 0 (0 - d 0) (0 - d 1) (0 - d 2) (8 - d 3) = k2 at hk
  generalize ps_d4 (8 - a 0) (0 - a 1) (0 - a 2) (0 - a 3) (0 - b 0) (8 - b 1) (0 - b 2) (0 - b 3) 0 0 0 1 (0 - d 0) (0 - d 1) (0 - d 2) (8 - d 3) = k3 at hk
  rw [hk x, hk (ps_v 0), hk (ps_v 1), hk (ps_v 2), hk (ps_v 3)]
  simp only [show ps_v 0 0 = 4 from rfl, show ps_v 0 1 = 0 from rfl, show ps_v 0 2 = 0 from rfl, show ps_v 0 3 = 0 from rfl, show ps_v 1 0 = 0 from rfl, show ps_v 1 1 = 4 from rfl, show ps_v 1 2 = 0 from rfl, show ps_v 1 3 = 0 from rfl, show ps_v 2 0 = 0 from rfl, show ps_v 2 1 = 0 from rfl, show ps_v 2 2 = 4 from rfl, show ps_v 2 3 = 0 from rfl, show ps_v 3 0 = 0 from rfl, show ps_v 3 1 = 0 from rfl, show ps_v 3 2 = 0 from rfl, show ps_v 3 3 = 4 from rfl]
  generalize x 0 = x0 at hs ⊢
  generalize x 1 = x1 at hs ⊢
  generalize x 2 = x2 at hs ⊢
  generalize x 3 = x3 at hs ⊢
  have hx : x0 = 4 - x1 - x2 - x3 := by omega
  subst hx
  grind
theorem ps_k3 (x a b c : Nat → Int) : ps_P a b c x = (0 - x 0) * (ps_d4 (8 - a 0) (0 - a 1) (0 - a 2) (0 - a 3) (0 - b 0) (8 - b 1) (0 - b 2) (0 - b 3) (0 - c 0) (0 - c 1) (8 - c 2) (0 - c 3) 1 0 0 0) + (0 - x 1) * (ps_d4 (8 - a 0) (0 - a 1) (0 - a 2) (0 - a 3) (0 - b 0) (8 - b 1) (0 - b 2) (0 - b 3) (0 - c 0) (0 - c 1) (8 - c 2) (0 - c 3) 0 1 0 0) + (0 - x 2) * (ps_d4 (8 - a 0) (0 - a 1) (0 - a 2) (0 - a 3) (0 - b 0) (8 - b 1) (0 - b 2) (0 - b 3) (0 - c 0) (0 - c 1) (8 - c 2) (0 - c 3) 0 0 1 0) + (8 - x 3) * (ps_d4 (8 - a 0) (0 - a 1) (0 - a 2) (0 - a 3) (0 - b 0) (8 - b 1) (0 - b 2) (0 - b 3) (0 - c 0) (0 - c 1) (8 - c 2) (0 - c 3) 0 0 0 1) := by
  rw [ps_P, ps_r3]
theorem ps_P3 (x a b c : Nat → Int) (hs : x 0 + x 1 + x 2 + x 3 = 4) : 4 * ps_P a b c x = x 0 * ps_P a b c (ps_v 0) + x 1 * ps_P a b c (ps_v 1) + x 2 * ps_P a b c (ps_v 2) + x 3 * ps_P a b c (ps_v 3) := by
  have hk := fun y => ps_k3 y a b c
  generalize ps_d4 (8 - a 0) (0 - a 1) (0 - a 2) (0 - a 3) (0 - b 0) (8 - b 1) (0 - b 2) (0 - b 3) (0 - c 0) (0 - c 1) (8 - c 2) (0 - c 3) 1 0 0 0 = k0 at hk
  generalize ps_d4 (8 - a 0) (0 - a 1) (0 - a 2) (0 - a 3) (0 - b 0) (8 - b 1) (0 - b 2) (0 - b 3) (0 - c 0) (0 - c 1) (8 - c 2) (0 - c 3) 0 1 0 0 = k1 at hk
  generalize ps_d4 (8 - a 0) (0 - a 1) (0 - a 2) (0 - a 3) (0 - b 0) (8 - b 1) (0 - b 2) (0 - b 3) (0 - c 0) (0 - c 1) (8 - c 2) (0 - c 3) 0 0 1 0 = k2 at hk
  generalize ps_d4 (8 - a 0) (0 - a 1) (0 - a 2) (0 - a 3) (0 - b 0) (8 - b 1) (0 - b 2) (0 - b 3) (0 - c 0) (0 - c 1) (8 - c 2) (0 - c 3) 0 0 0 1 = k3 at hk
  rw [hk x, hk (ps_v 0), hk (ps_v 1), hk (ps_v 2), hk (ps_v 3)]
  simp only [show ps_v 0 0 = 4 from rfl, show ps_v 0 1 = 0 from rfl, show ps_v 0 2 = 0 from rfl, show ps_v 0 3 = 0 from rfl, show ps_v 1 0 = 0 from rfl, show ps_v 1 1 = 4 from rfl, show ps_v 1 2 = 0 from rfl, show ps_v 1 3 = 0 from rfl, show ps_v 2 0 = 0 from rfl, show ps_v 2 1 = 0 from rfl, show ps_v 2 2 = 4 from rfl, show ps_v 2 3 = 0 from rfl, show ps_v 3 0 = 0 from rfl, show ps_v 3 1 = 0 from rfl, show ps_v 3 2 = 0 from rfl, show ps_v 3 3 = 4 from rfl]
  generalize x 0 = x0 at hs ⊢
  generalize x 1 = x1 at hs ⊢
  generalize x 2 = x2 at hs ⊢
  generalize x 3 = x3 at hs ⊢
  have hx : x0 = 4 - x1 - x2 - x3 := by omega
  subst hx
  grind
def ps_ok (x : Nat → Int) : Prop := 0 ≤ x 0 ∧ 0 ≤ x 1 ∧ 0 ≤ x 2 ∧ 0 ≤ x 3 ∧ x 0 + x 1 + x 2 + x 3 = 4
theorem ps_L0 : ∀ i, i < 4 → ∀ j, j < 4 → ∀ k, k < 4 → ∀ l, l < 4 → 1 ≤ ps_P (ps_v i) (ps_v j) (ps_v k) (ps_v l) := by decide +kernel
theorem ps_L1 {i j k : Nat} (hi : i < 4) (hj : j < 4) (hk : k < 4) {d : Nat → Int} (h : ps_ok d) : 1 ≤ ps_P (ps_v i) (ps_v j) (ps_v k) d :=
  ps_cv (ps_P3 d _ _ _ h.2.2.2.2) h.2.2.2.2 h.1 h.2.1 h.2.2.1 h.2.2.2.1 (ps_L0 i hi j hj k hk 0 (by decide)) (ps_L0 i hi j hj k hk 1 (by decide)) (ps_L0 i hi j hj k hk 2 (by decide)) (ps_L0 i hi j hj k hk 3 (by decide))
theorem ps_L2 {i j : Nat} (hi : i < 4) (hj : j < 4) {c d : Nat → Int} (h : ps_ok c) (hd : ps_ok d) : 1 ≤ ps_P (ps_v i) (ps_v j) c d :=
  ps_cv (ps_P2 c _ _ _ h.2.2.2.2) h.2.2.2.2 h.1 h.2.1 h.2.2.1 h.2.2.2.1 (ps_L1 hi hj (by decide) hd) (ps_L1 hi hj (by decide) hd) (ps_L1 hi hj (by decide) hd) (ps_L1 hi hj (by decide) hd)
theorem ps_L3 {i : Nat} (hi : i < 4) {b c d : Nat → Int} (h : ps_ok b) (hc : ps_ok c) (hd : ps_ok d) : 1 ≤ ps_P (ps_v i) b c d :=
  ps_cv (ps_P1 b _ _ _ h.2.2.2.2) h.2.2.2.2 h.1 h.2.1 h.2.2.1 h.2.2.2.1 (ps_L2 hi (by decide) hc hd) (ps_L2 hi (by decide) hc hd) (ps_L2 hi (by decide) hc hd) (ps_L2 hi (by decide) hc hd)
theorem ps_L4 {a b c d : Nat → Int} (h : ps_ok a) (hb : ps_ok b) (hc : ps_ok c) (hd : ps_ok d) : 1 ≤ ps_P a b c d :=
  ps_cv (ps_P0 a _ _ _ h.2.2.2.2) h.2.2.2.2 h.1 h.2.1 h.2.2.1 h.2.2.2.1 (ps_L3 (by decide) hb hc hd) (ps_L3 (by decide) hb hc hd) (ps_L3 (by decide) hb hc hd) (ps_L3 (by decide) hb hc hd)
theorem ps_m2 {x y z w : Int} {a b : Nat} (hx : x.natAbs ≤ a) (hy : y.natAbs ≤ b) (hz : z.natAbs ≤ b) (hw : w.natAbs ≤ a) : (x * y - z * w).natAbs ≤ 2 * (a * b) := by
  have h1 : (x * y).natAbs ≤ a * b := by rw [Int.natAbs_mul]; exact Nat.mul_le_mul hx hy
  have h2 : (z * w).natAbs ≤ a * b := by rw [Int.natAbs_mul, Nat.mul_comm a b]; exact Nat.mul_le_mul hz hw
  generalize x * y = p at h1 ⊢
  generalize z * w = q at h2 ⊢
  generalize a * b = r at h1 h2 ⊢
  omega
theorem ps_m3 {x y : Int} {a b c d m : Nat} (hx : x.natAbs ≤ 2 * (a * b)) (hy : y.natAbs ≤ 2 * (c * d)) (hm : a * b * (c * d) = m) : (x * y).natAbs ≤ 4 * m := by
  rw [Int.natAbs_mul]
  have h := Nat.mul_le_mul hx hy
  have e : 2 * (a * b) * (2 * (c * d)) = 4 * m := by
    rw [← hm, Nat.mul_assoc, Nat.mul_left_comm (a * b) 2, ← Nat.mul_assoc 2 2]
  omega
theorem ps_bd {a0 a1 a2 a3 b0 b1 b2 b3 c0 c1 c2 c3 d0 d1 d2 d3 : Int} {p q r s m : Nat} (hm : p * q * (r * s) = m)
    (A0 : a0.natAbs ≤ p) (A1 : a1.natAbs ≤ q) (A2 : a2.natAbs ≤ r) (A3 : a3.natAbs ≤ s) (B0 : b0.natAbs ≤ p) (B1 : b1.natAbs ≤ q) (B2 : b2.natAbs ≤ r) (B3 : b3.natAbs ≤ s)
    (C0 : c0.natAbs ≤ p) (C1 : c1.natAbs ≤ q) (C2 : c2.natAbs ≤ r) (C3 : c3.natAbs ≤ s) (D0 : d0.natAbs ≤ p) (D1 : d1.natAbs ≤ q) (D2 : d2.natAbs ≤ r) (D3 : d3.natAbs ≤ s) :
    (ps_d4 a0 a1 a2 a3 b0 b1 b2 b3 c0 c1 c2 c3 d0 d1 d2 d3).natAbs ≤ 24 * m := by
  have h1 := ps_m3 (m := m) (ps_m2 A0 B1 A1 B0) (ps_m2 C2 D3 C3 D2) hm
  have h2 := ps_m3 (m := m) (ps_m2 A0 B2 A2 B0) (ps_m2 C1 D3 C3 D1) (by rw [← hm]; grind)
  have h3 := ps_m3 (m := m) (ps_m2 A0 B3 A3 B0) (ps_m2 C1 D2 C2 D1) (by rw [← hm]; grind)
  have h4 := ps_m3 (m := m) (ps_m2 A1 B2 A2 B1) (ps_m2 C0 D3 C3 D0) (by rw [← hm]; grind)
  have h5 := ps_m3 (m := m) (ps_m2 A1 B3 A3 B1) (ps_m2 C0 D2 C2 D0) (by rw [← hm]; grind)
  have h6 := ps_m3 (m := m) (ps_m2 A2 B3 A3 B2) (ps_m2 C0 D1 C1 D0) (by rw [← hm]; grind)
  unfold ps_d4
  generalize (a0 * b1 - a1 * b0) * (c2 * d3 - c3 * d2) = t1 at h1 ⊢
  generalize (a0 * b2 - a2 * b0) * (c1 * d3 - c3 * d1) = t2 at h2 ⊢
  generalize (a0 * b3 - a3 * b0) * (c1 * d2 - c2 * d1) = t3 at h3 ⊢
  generalize (a1 * b2 - a2 * b1) * (c0 * d3 - c3 * d0) = t4 at h4 ⊢
  generalize (a1 * b3 - a3 * b1) * (c0 * d2 - c2 * d0) = t5 at h5 ⊢
  generalize (a2 * b3 - a3 * b2) * (c0 * d1 - c1 * d0) = t6 at h6 ⊢
  clear hm A0 A1 A2 A3 B0 B1 B2 B3 C0 C1 C2 C3 D0 D1 D2 D3
  omega
/-- the expansion by the first row, as the reference reckons it -/
theorem ps_lap (a0 a1 a2 a3 b0 b1 b2 b3 c0 c1 c2 c3 d0 d1 d2 d3 : Int) :
    0 + a0 * (b1 * (c2 * d3 - c3 * d2) - b2 * (c1 * d3 - c3 * d1) + b3 * (c1 * d2 - c2 * d1)) + -(a1 * (b0 * (c2 * d3 - c3 * d2) - b2 * (c0 * d3 - c3 * d0) + b3 * (c0 * d2 - c2 * d0))) + a2 * (b0 * (c1 * d3 - c3 * d1) - b1 * (c0 * d3 - c3 * d0) + b3 * (c0 * d1 - c1 * d0)) + -(a3 * (b0 * (c1 * d2 - c2 * d1) - b1 * (c0 * d2 - c2 * d0) + b2 * (c0 * d1 - c1 * d0))) = ps_d4 a0 a1 a2 a3 b0 b1 b2 b3 c0 c1 c2 c3 d0 d1 d2 d3 := by
  simp only [ps_d4]
  grind
