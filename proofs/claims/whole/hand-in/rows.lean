section
theorem pk_us {f : Nat → Int32} {k : Nat} {x : Int32} : upd f k x k = x := if_pos rfl
theorem pk_un {f : Nat → Int32} {k j : Nat} {x : Int32} (h : j ≠ k) : upd f k x j = f j := if_neg h
theorem pk_uLs {f : Nat → Int64} {k : Nat} {x : Int64} : vp_updL f k x k = x := if_pos rfl
theorem pk_uLn {f : Nat → Int64} {k j : Nat} {x : Int64} (h : j ≠ k) : vp_updL f k x j = f j := if_neg h
theorem pk_sub {a b : Nat} (h : b ≤ a) : nI a - nI b = nI (a - b) := by
  obtain ⟨c, rfl⟩ : ∃ c, a = c + b := ⟨a - b, by omega⟩
  rw [← nI_add, Int32.add_sub_cancel, Nat.add_sub_cancel]
theorem pk_m1 (n : Nat) : nI (n + 1) + (-1) = nI n := by
  rw [← nI_1, Int32.add_assoc, show (1 : Int32) + (-1) = 0 from rfl, Int32.add_zero]
theorem pk_mul (a b : Nat) : nI a * nI b = nI (a * b) := (Int32.ofNat_mul a b).symm
theorem pk_div {a d : Nat} (ha : a < 2 ^ 31) (h0 : 0 < d) (hd : d < 2 ^ 31) : nI a / nI d = nI (a / d) := by
  apply Int32.toInt_inj.mp
  rw [lg_idiv_nonneg (by rw [nI_toInt ha]; omega) (by rw [nI_toInt hd]; omega), nI_toInt ha, nI_toInt hd, nI_toInt (Nat.lt_of_le_of_lt (Nat.div_le_self a d) ha)]
  first | rfl | exact (Int.natCast_ediv _ _).symm
theorem pk_rem {a d : Nat} (ha : a < 2 ^ 31) (h0 : 0 < d) (hd : d < 2 ^ 31) : nI a - nI a / nI d * nI d = nI (a % d) := by
  rw [pk_div ha h0 hd, pk_mul, pk_sub (Nat.div_mul_le_self a d)]
  exact congrArg nI (by have := Nat.div_add_mod' a d; omega)
theorem pk_ix (x : Int32) {n : Nat} (hn : n < 2 ^ 31) : x < 0 ∨ nI n ≤ x ∨ ∃ j : Nat, j < n ∧ x = nI j := by
  by_cases h : x < 0
  · exact Or.inl h
  · obtain ⟨j, hj, rfl⟩ := nI_of h
    by_cases h2 : j < n
    · exact Or.inr (Or.inr ⟨j, h2, rfl⟩)
    · exact Or.inr (Or.inl (nI_le (by omega) hj))
theorem pk_le {x y : Int32} {A B : Prop} (a b : Nat) (f : a ≤ b → A) (g : b < a → B) (hx : x = nI a := by rfl) (hy : y = nI b := by rfl) (ha : a < 2 ^ 31 := by omega) (hb : b < 2 ^ 31 := by omega) : (x ≤ y → A) ∧ (¬ x ≤ y → B) := by
  subst hx hy
  rw [nI_leI ha hb]
  exact ⟨f, fun z => g (by omega)⟩
theorem pk_lt {x y : Int32} {A B : Prop} (a b : Nat) (f : a < b → A) (g : b ≤ a → B) (hx : x = nI a := by rfl) (hy : y = nI b := by rfl) (ha : a < 2 ^ 31 := by omega) (hb : b < 2 ^ 31 := by omega) : (x < y → A) ∧ (¬ x < y → B) := by
  subst hx hy
  rw [nI_ltI ha hb]
  exact ⟨f, fun z => g (by omega)⟩
theorem pk_eq {x y : Int32} {A B : Prop} (a b : Nat) (f : a = b → A) (g : a ≠ b → B) (hx : x = nI a := by rfl) (hy : y = nI b := by rfl) (ha : a < 2 ^ 31 := by omega) (hb : b < 2 ^ 31 := by omega) : (x = y → A) ∧ (¬ x = y → B) := by
  subst hx hy
  rw [nI_eq ha hb]
  exact ⟨f, g⟩
theorem pk_in {x : Int32} (n N : Nat) (h : n < N) (hx : x = nI n := by rfl) (hN : N < 2 ^ 31 := by omega) : vp_in x N := by
  subst hx
  exact vp_in_nI h hN
theorem pk_cl {x : Int32} (n : Nat) (hx : x = nI n := by rfl) (h : n < 2 ^ 31 := by omega) : x.toNatClampNeg = n := by
  subst hx
  exact nI_clamp h
theorem pk_lT {n : Nat} (h : n < 2 ^ 63) : (lN n).toInt = (n : Int) := lg_ofNat_toInt h
theorem pk_lLT {a b : Nat} (ha : a < 2 ^ 63) (hb : b < 2 ^ 63) : lN a < lN b ↔ a < b := by
  rw [Int64.lt_iff_toInt_lt, pk_lT ha, pk_lT hb]; omega
theorem pk_lLE {a b : Nat} (ha : a < 2 ^ 63) (hb : b < 2 ^ 63) : lN a ≤ lN b ↔ a ≤ b := by
  rw [Int64.le_iff_toInt_le, pk_lT ha, pk_lT hb]; omega
theorem pk_lEQ {a b : Nat} (ha : a < 2 ^ 63) (hb : b < 2 ^ 63) : lN a = lN b ↔ a = b := by
  rw [← Int64.toInt_inj, pk_lT ha, pk_lT hb]; omega
theorem pk_lOf {x : Int64} (h : ¬ x < 0) : ∃ k : Nat, k < 2 ^ 63 ∧ x = lN k := by
  rw [Int64.lt_iff_toInt_lt] at h
  have h0 : (0 : Int64).toInt = 0 := by decide
  have hx := Int64.toInt_lt x
  refine ⟨x.toInt.toNat, by omega, Int64.toInt_inj.mp ?_⟩
  rw [pk_lT (by omega)]
  omega
theorem pk_lDiv {a b : Nat} (ha : a < 2 ^ 63) (h0 : 0 < b) (hb : b < 2 ^ 63) : lN a / lN b = lN (a / b) := by
  apply Int64.toInt_inj.mp
  rw [lg_ldiv_nonneg (by rw [pk_lT ha]; omega) (by rw [pk_lT hb]; omega), pk_lT ha, pk_lT hb, pk_lT (Nat.lt_of_le_of_lt (Nat.div_le_self a b) ha)]
  rfl
theorem pk_lRem {a b : Nat} (ha : a < 2 ^ 63) (h0 : 0 < b) (hb : b < 2 ^ 63) : lN a - lN a / lN b * lN b = lN (a % b) := by
  rw [pk_lDiv ha h0 hb, lN_mul, lN_sub (Nat.div_mul_le_self a b)]
  exact congrArg lN (by have := Nat.div_add_mod' a b; omega)
theorem pk_loop {σ : Type} (W : Nat → Nat → σ → Prop) (I : Nat → σ → Prop) (e i0 : Nat) (s : σ) (hi : i0 ≤ e) (h0 : I i0 s) (hx : ∀ n s, I e s → W (n + 1) e s)
    (hs : ∀ n i s, i < e → I i s → (∀ s', I (i + 1) s' → W n (i + 1) s') → W (n + 1) i s) : ∃ n, W n i0 s :=
  ⟨e + 1, loop_i W I e hx hs (e + 1) i0 s hi (by omega) h0⟩
theorem ek_if {c d A B : Prop} (e : c ↔ d) (f : d → A) (g : ¬ d → B) : (c → A) ∧ (¬ c → B) :=
  ⟨fun z => f (e.mp z), fun z => g (fun y => z (e.mpr y))⟩
theorem ek_v {α : Sort _} {P : α → Prop} {a b : α} (e : a = b) (h : P b) : P a := e ▸ h
theorem co_4 {P : Nat → Prop} (h0 : P 0) (h1 : P 1) (h2 : P 2) (h3 : P 3) {i : Nat} (hi : i < 4) : P i :=
  match i, hi with
  | 0, _ => h0
  | 1, _ => h1
  | 2, _ => h2
  | 3, _ => h3
end
section
/-! the determinant over the integers: linear in its rows, positive over the vertices, bounded by its columns -/
def ps_d4 (a0 a1 a2 a3 b0 b1 b2 b3 c0 c1 c2 c3 d0 d1 d2 d3 : Int) : Int :=
  (a0 * b1 - a1 * b0) * (c2 * d3 - c3 * d2) - (a0 * b2 - a2 * b0) * (c1 * d3 - c3 * d1) + (a0 * b3 - a3 * b0) * (c1 * d2 - c2 * d1) + (a1 * b2 - a2 * b1) * (c0 * d3 - c3 * d0) - (a1 * b3 - a3 * b1) * (c0 * d2 - c2 * d0) + (a2 * b3 - a3 * b2) * (c0 * d1 - c1 * d0)
def ps_P (a b c d : Nat → Int) : Int :=
  ps_d4 (8 - a 0) (0 - a 1) (0 - a 2) (0 - a 3) (0 - b 0) (8 - b 1) (0 - b 2) (0 - b 3) (0 - c 0) (0 - c 1) (8 - c 2) (0 - c 3) (0 - d 0) (0 - d 1) (0 - d 2) (8 - d 3)
def ps_v (j t : Nat) : Int := if j = t then 4 else 0
theorem ps_r0 (a0 a1 a2 a3 b0 b1 b2 b3 c0 c1 c2 c3 d0 d1 d2 d3 : Int) : ps_d4 a0 a1 a2 a3 b0 b1 b2 b3 c0 c1 c2 c3 d0 d1 d2 d3 = a0 * ps_d4 1 0 0 0 b0 b1 b2 b3 c0 c1 c2 c3 d0 d1 d2 d3 + a1 * ps_d4 0 1 0 0 b0 b1 b2 b3 c0 c1 c2 c3 d0 d1 d2 d3 + a2 * ps_d4 0 0 1 0 b0 b1 b2 b3 c0 c1 c2 c3 d0 d1 d2 d3 + a3 * ps_d4 0 0 0 1 b0 b1 b2 b3 c0 c1 c2 c3 d0 d1 d2 d3 := by
  simp only [ps_d4]
  grind
theorem ps_r1 (a0 a1 a2 a3 b0 b1 b2 b3 c0 c1 c2 c3 d0 d1 d2 d3 : Int) : ps_d4 a0 a1 a2 a3 b0 b1 b2 b3 c0 c1 c2 c3 d0 d1 d2 d3 = b0 * ps_d4 a0 a1 a2 a3 1 0 0 0 c0 c1 c2 c3 d0 d1 d2 d3 + b1 * ps_d4 a0 a1 a2 a3 0 1 0 0 c0 c1 c2 c3 d0 d1 d2 d3 + b2 * ps_d4 a0 a1 a2 a3 0 0 1 0 c0 c1 c2 c3 d0 d1 d2 d3 + b3 * ps_d4 a0 a1 a2 a3 0 0 0 1 c0 c1 c2 c3 d0 d1 d2 d3 := by
  simp only [ps_d4]
  grind
theorem ps_r2 (a0 a1 a2 a3 b0 b1 b2 b3 c0 c1 c2 c3 d0 d1 d2 d3 : Int) : ps_d4 a0 a1 a2 a3 b0 b1 b2 b3 c0 c1 c2 c3 d0 d1 d2 d3 = c0 * ps_d4 a0 a1 a2 a3 b0 b1 b2 b3 1 0 0 0 d0 d1 d2 d3 + c1 * ps_d4 a0 a1 a2 a3 b0 b1 b2 b3 0 1 0 0 d0 d1 d2 d3 + c2 * ps_d4 a0 a1 a2 a3 b0 b1 b2 b3 0 0 1 0 d0 d1 d2 d3 + c3 * ps_d4 a0 a1 a2 a3 b0 b1 b2 b3 0 0 0 1 d0 d1 d2 d3 := by
  simp only [ps_d4]
  grind
theorem ps_r3 (a0 a1 a2 a3 b0 b1 b2 b3 c0 c1 c2 c3 d0 d1 d2 d3 : Int) : ps_d4 a0 a1 a2 a3 b0 b1 b2 b3 c0 c1 c2 c3 d0 d1 d2 d3 = d0 * ps_d4 a0 a1 a2 a3 b0 b1 b2 b3 c0 c1 c2 c3 1 0 0 0 + d1 * ps_d4 a0 a1 a2 a3 b0 b1 b2 b3 c0 c1 c2 c3 0 1 0 0 + d2 * ps_d4 a0 a1 a2 a3 b0 b1 b2 b3 c0 c1 c2 c3 0 0 1 0 + d3 * ps_d4 a0 a1 a2 a3 b0 b1 b2 b3 c0 c1 c2 c3 0 0 0 1 := by
  simp only [ps_d4]
  grind
theorem ps_cv {D x0 x1 x2 x3 d0 d1 d2 d3 : Int} (h : 4 * D = x0 * d0 + x1 * d1 + x2 * d2 + x3 * d3) (hs : x0 + x1 + x2 + x3 = 4) (n0 : 0 ≤ x0) (n1 : 0 ≤ x1) (n2 : 0 ≤ x2) (n3 : 0 ≤ x3) (h0 : 1 ≤ d0) (h1 : 1 ≤ d1) (h2 : 1 ≤ d2) (h3 : 1 ≤ d3) : 1 ≤ D := by
  have e0 := Int.mul_le_mul_of_nonneg_left h0 n0
  have e1 := Int.mul_le_mul_of_nonneg_left h1 n1
  have e2 := Int.mul_le_mul_of_nonneg_left h2 n2
  have e3 := Int.mul_le_mul_of_nonneg_left h3 n3
  rw [Int.mul_one] at e0 e1 e2 e3
  omega
theorem ps_k0 (x b c d : Nat → Int) : ps_P x b c d = (8 - x 0) * (ps_d4 1 0 0 0 (0 - b 0) (8 - b 1) (0 - b 2) (0 - b 3) (0 - c 0) (0 - c 1) (8 - c 2) (0 - c 3) (0 - d 0) (0 - d 1) (0 - d 2) (8 - d 3)) + (0 - x 1) * (ps_d4 0 1 0 0 (0 - b 0) (8 - b 1) (0 - b 2) (0 - b 3) (0 - c 0) (0 - c 1) (8 - c 2) (0 - c 3) (0 - d 0) (0 - d 1) (0 - d 2) (8 - d 3)) + (0 - x 2) * (ps_d4 0 0 1 0 (0 - b 0) (8 - b 1) (0 - b 2) (0 - b 3) (0 - c 0) (0 - c 1) (8 - c 2) (0 - c 3) (0 - d 0) (0 - d 1) (0 - d 2) (8 - d 3)) + (0 - x 3) * (ps_d4 0 0 0 1 (0 - b 0) (8 - b 1) (0 - b 2) (0 - b 3) (0 - c 0) (0 - c 1) (8 - c 2) (0 - c 3) (0 - d 0) (0 - d 1) (0 - d 2) (8 - d 3)) := by
  rw [ps_P, ps_r0]
theorem ps_P0 (x b c d : Nat → Int) (hs : x 0 + x 1 + x 2 + x 3 = 4) : 4 * ps_P x b c d = x 0 * ps_P (ps_v 0) b c d + x 1 * ps_P (ps_v 1) b c d + x 2 * ps_P (ps_v 2) b c d + x 3 * ps_P (ps_v 3) b c d := by
  have hk := fun y => ps_k0 y b c d
  generalize ps_d4 1 0 0 0 (0 - b 0) (8 - b 1) (0 - b 2) (0 - b 3) (0 - c 0) (0 - c 1) (8 - c 2) (0 - c 3) (0 - d 0) (0 - d 1) (0 - d 2) (8 - d 3) = k0 at hk
  generalize ps_d4 0 1 0 0 (0 - b 0) (8 - b 1) (0 - b 2) (0 - b 3) (0 - c 0) (0 - c 1) (8 - c 2) (0 - c 3) (0 - d 0) (0 - d 1) (0 - d 2) (8 - d 3) = k1 at hk
  generalize ps_d4 0 0 1 0 (0 - b 0) (8 - b 1) (0 - b 2) (0 - b 3) (0 - c 0) (0 - c 1) (8 - c 2) (0 - c 3) (0 - d 0) (0 - d 1) (0 - d 2) (8 - d 3) = k2 at hk
  generalize ps_d4 0 0 0 1 (0 - b 0) (8 - b 1) (0 - b 2) (0 - b 3) (0 - c 0) (0 - c 1) (8 - c 2) (0 - c 3) (0 - d 0) (0 - d 1) (0 - d 2) (8 - d 3) = k3 at hk
  rw [hk x, hk (ps_v 0), hk (ps_v 1), hk (ps_v 2), hk (ps_v 3)]
  simp only [show ps_v 0 0 = 4 from rfl, show ps_v 0 1 = 0 from rfl, show ps_v 0 2 = 0 from rfl, show ps_v 0 3 = 0 from rfl, show ps_v 1 0 = 0 from rfl, show ps_v 1 1 = 4 from rfl, show ps_v 1 2 = 0 from rfl, show ps_v 1 3 = 0 from rfl, show ps_v 2 0 = 0 from rfl, show ps_v 2 1 = 0 from rfl, show ps_v 2 2 = 4 from rfl, show ps_v 2 3 = 0 from rfl, show ps_v 3 0 = 0 from rfl, show ps_v 3 1 = 0 from rfl, show ps_v 3 2 = 0 from rfl, show ps_v 3 3 = 4 from rfl]
  generalize x 0 = x0 at hs ⊢
  generalize x 1 = x1 at hs ⊢
  generalize x 2 = x2 at hs ⊢
  generalize x 3 = x3 at hs ⊢
  have hx : x0 = 4 - x1 - x2 - x3 := by omega
  subst hx
  grind
theorem ps_k1 (x a c d : Nat → Int) : ps_P a x c d = (0 - x 0) * (ps_d4 (8 - a 0) (0 - a 1) (0 - a 2) (0 - a 3) 1 0 0 0 (0 - c 0) (0 - c 1) (8 - c 2) (0 - c 3) (0 - d 0) (0 - d 1) (0 - d 2) (8 - d 3)) + (8 - x 1) * (ps_d4 (8 - a 0) (0 - a 1) (0 - a 2) (0 - a 3) 0 1 0 0 (0 - c 0) (0 - c 1) (8 - c 2) (0 - c 3) (0 - d 0) (0 - d 1) (0 - d 2) (8 - d 3)) + (0 - x 2) * (ps_d4 (8 - a 0) (0 - a 1) (0 - a 2) (0 - a 3) 0 0 1 0 (0 - c 0) (0 - c 1) (8 - c 2) (0 - c 3) (0 - d 0) (0 - d 1) (0 - d 2) (8 - d 3)) + (0 - x 3) * (ps_d4 (8 - a 0) (0 - a 1) (0 - a 2) (0 - a 3) 0 0 0 1 (0 - c 0) (0 - c 1) (8 - c 2) (0 - c 3) (0 - d 0) (0 - d 1) (0 - d 2) (8 - d 3)) := by
  rw [ps_P, ps_r1]
theorem ps_P1 (x a c d : Nat → Int) (hs : x 0 + x 1 + x 2 + x 3 = 4) : 4 * ps_P a x c d = x 0 * ps_P a (ps_v 0) c d + x 1 * ps_P a (ps_v 1) c d + x 2 * ps_P a (ps_v 2) c d + x 3 * ps_P a (ps_v 3) c d := by
  have hk := fun y => ps_k1 y a c d
  generalize ps_d4 (8 - a 0) (0 - a 1) (0 - a 2) (0 - a 3) 1 0 0 0 (0 - c 0) (0 - c 1) (8 - c 2) (0 - c 3) (0 - d 0) (0 - d 1) (0 - d 2) (8 - d 3) = k0 at hk
  generalize ps_d4 (8 - a 0) (0 - a 1) (0 - a 2) (0 - a 3) 0 1 0 0 (0 - c 0) (0 - c 1) (8 - c 2) (0 - c 3) (0 - d 0) (0 - d 1) (0 - d 2) (8 - d 3) = k1 at hk
  generalize ps_d4 (8 - a 0) (0 - a 1) (0 - a 2) (0 - a 3) 0 0 1 0 (0 - c 0) (0 - c 1) (8 - c 2) (0 - c 3) (0 - d 0) (0 - d 1) (0 - d 2) (8 - d 3) = k2 at hk
  generalize ps_d4 (8 - a 0) (0 - a 1) (0 - a 2) (0 - a 3) 0 0 0 1 (0 - c 0) (0 - c 1) (8 - c 2) (0 - c 3) (0 - d 0) (0 - d 1) (0 - d 2) (8 - d 3) = k3 at hk
  rw [hk x, hk (ps_v 0), hk (ps_v 1), hk (ps_v 2), hk (ps_v 3)]
  simp only [show ps_v 0 0 = 4 from rfl, show ps_v 0 1 = 0 from rfl, show ps_v 0 2 = 0 from rfl, show ps_v 0 3 = 0 from rfl, show ps_v 1 0 = 0 from rfl, show ps_v 1 1 = 4 from rfl, show ps_v 1 2 = 0 from rfl, show ps_v 1 3 = 0 from rfl, show ps_v 2 0 = 0 from rfl, show ps_v 2 1 = 0 from rfl, show ps_v 2 2 = 4 from rfl, show ps_v 2 3 = 0 from rfl, show ps_v 3 0 = 0 from rfl, show ps_v 3 1 = 0 from rfl, show ps_v 3 2 = 0 from rfl, show ps_v 3 3 = 4 from rfl]
  generalize x 0 = x0 at hs ⊢
  generalize x 1 = x1 at hs ⊢
  generalize x 2 = x2 at hs ⊢
  generalize x 3 = x3 at hs ⊢
  have hx : x0 = 4 - x1 - x2 - x3 := by omega
  subst hx
  grind
theorem ps_k2 (x a b d : Nat → Int) : ps_P a b x d = (0 - x 0) * (ps_d4 (8 - a 0) (0 - a 1) (0 - a 2) (0 - a 3) (0 - b 0) (8 - b 1) (0 - b 2) (0 - b 3) 1 0 0 0 (0 - d 0) (0 - d 1) (0 - d 2) (8 - d 3)) + (0 - x 1) * (ps_d4 (8 - a 0) (0 - a 1) (0 - a 2) (0 - a 3) (0 - b 0) (8 - b 1) (0 - b 2) (0 - b 3) 0 1 0 0 (0 - d 0) (0 - d 1) (0 - d 2) (8 - d 3)) + (8 - x 2) * (ps_d4 (8 - a 0) (0 - a 1) (0 - a 2) (0 - a 3) (0 - b 0) (8 - b 1) (0 - b 2) (0 - b 3) 0 0 1 0 (0 - d 0) (0 - d 1) (0 - d 2) (8 - d 3)) + (0 - x 3) * (ps_d4 (8 - a 0) (0 - a 1) (0 - a 2) (0 - a 3) (0 - b 0) (8 - b 1) (0 - b 2) (0 - b 3) 0 0 0 1 (0 - d 0) (0 - d 1) (0 - d 2) (8 - d 3)) := by
  rw [ps_P, ps_r2]
theorem ps_P2 (x a b d : Nat → Int) (hs : x 0 + x 1 + x 2 + x 3 = 4) : 4 * ps_P a b x d = x 0 * ps_P a b (ps_v 0) d + x 1 * ps_P a b (ps_v 1) d + x 2 * ps_P a b (ps_v 2) d + x 3 * ps_P a b (ps_v 3) d := by
  have hk := fun y => ps_k2 y a b d
  generalize ps_d4 (8 - a 0) (0 - a 1) (0 - a 2) (0 - a 3) (0 - b 0) (8 - b 1) (0 - b 2) (0 - b 3) 1 0 0 0 (0 - d 0) (0 - d 1) (0 - d 2) (8 - d 3) = k0 at hk
  generalize ps_d4 (8 - a 0) (0 - a 1) (0 - a 2) (0 - a 3) (0 - b 0) (8 - b 1) (0 - b 2) (0 - b 3) 0 1 0 0 (0 - d 0) (0 - d 1) (0 - d 2) (8 - d 3) = k1 at hk
  generalize ps_d4 (8 - a 0) (0 - a 1) (0 - a 2) (0 - a 3) (0 - b 0) (8 - b 1) (0 - b 2) (0 - b 3) 0 0 1 0 (0 - d 0) (0 - d 1) (0 - d 2) (8 - d 3) = k2 at hk
  generalize ps_d4 (8 - a 0) (0 - a 1) (0 - a 2) (0 - a 3) (0 - b 0) (8 - b 1) (0 - b 2) (0 - b 3) 0 0 0 1 (0 - d 0) (0 - d 1) (0 - d 2) (8 - d 3) = k3 at hk
  rw [hk x, hk (ps_v 0), hk (ps_v 1), hk (ps_v 2), hk (ps_v 3)]
  simp only [show ps_v 0 0 = 4 from rfl, show ps_v 0 1 = 0 from rfl, show ps_v 0 2 = 0 from rfl, show ps_v 0 3 = 0 from rfl, show ps_v 1 0 = 0 from rfl, show ps_v 1 1 = 4 from rfl, show ps_v 1 2 = 0 from rfl, show ps_v 1 3 = 0 from rfl, show ps_v 2 0 = 0 from rfl, show ps_v 2 1 = 0 from rfl, show ps_v 2 2 = 4 from rfl, show ps_v 2 3 = 0 from rfl, show ps_v 3 0 = 0 from rfl, show ps_v 3 1 = 0 from rfl, show ps_v 3 2 = 0 from rfl, show ps_v 3 3 = 4 from rfl]
  generalize x 0 = x0 at hs ⊢
  generalize x 1 = x1 at hs ⊢
  generalize x 2 = x2 at hs ⊢
  generalize x 3 = x3 at hs ⊢
  have hx : x0 = 4 - x1 - x2 - x3 := by omega
  subst hx
  grind
theorem ps_k3 (x a b c : Nat → Int) : ps_P a b c x = (0 - x 0) * (ps_d4 (8 - a 0) (0 - a 1) (0 - a 2) (0 - a 3) (0 - b 0) (8 - b 1) (0 - b 2) (0 - b 3) (0 - c 0) (0 - c 1) (8 - c 2) (0 - c 3) 1 0 0 0) + (0 - x 1) * (ps_d4 (8 - a 0) (0 - a 1) (0 - a 2) (0 - a 3) (0 - b 0) (8 - b 1) (0 - b 2) (0 - b 3) (0 - c 0) (0 - c 1) (8 - c 2) (0 - c 3) 0 1 0 0) + (0 - x 2) * (ps_d4 (8 - a 0) (0 - a 1) (0 - a 2) (0 - a 3) (0 - b 0) (8 - b 1) (0 - b 2) (0 - b 3) (0 - c 0) (0 - c 1) (8 - c 2) (0 - c 3) 0 0 1 0) + (8 - x 3) * (ps_d4 (8 - a 0) (0 - a 1) (0 - a 2) (0 - a 3) (0 - b 0) (8 - b 1) (0 - b 2) (0 - b 3) (0 - c 0) (0 - c 1) (8 - c 2) (0 - c 3) 0 0 0 1) := by
  rw [ps_P, ps_r3]
theorem ps_P3 (x a b c : Nat → Int) (hs : x 0 + x 1 + x 2 + x 3 = 4) : 4 * ps_P a b c x = x 0 * ps_P a b c (ps_v 0) + x 1 * ps_P a b c (ps_v 1) + x 2 * ps_P a b c (ps_v 2) + x 3 * ps_P a b c (ps_v 3) := by
  have hk := fun y => ps_k3 y a b c
  generalize ps_d4 (8 - a 0) (0 - a 1) (0 - a 2) (0 - a 3) (0 - b 0) (8 - b 1) (0 - b 2) (0 - b 3) (0 - c 0) (0 - c 1) (8 - c 2) (0 - c 3) 1 0 0 0 = k0 at hk
  generalize ps_d4 (8 - a 0) (0 - a 1) (0 - a 2) (0 - a 3) (0 - b 0) (8 - b 1) (0 - b 2) (0 - b 3) (0 - c 0) (0 - c 1) (8 - c 2) (0 - c 3) 0 1 0 0 = k1 at hk
  generalize ps_d4 (8 - a 0) (0 - a 1) (0 - a 2) (0 - a 3) (0 - b 0) (8 - b 1) (0 - b 2) (0 - b 3) (0 - c 0) (0 - c 1) (8 - c 2) (0 - c 3) 0 0 1 0 = k2 at hk
  generalize ps_d4 (8 - a 0) (0 - a 1) (0 - a 2) (0 - a 3) (0 - b 0) (8 - b 1) (0 - b 2) (0 - b 3) (0 - c 0) (0 - c 1) (8 - c 2) (0 - c 3) 0 0 0 1 = k3 at hk
  rw [hk x, hk (ps_v 0), hk (ps_v 1), hk (ps_v 2), hk (ps_v 3)]
  simp only [show ps_v 0 0 = 4 from rfl, show ps_v 0 1 = 0 from rfl, show ps_v 0 2 = 0 from rfl, show ps_v 0 3 = 0 from rfl, show ps_v 1 0 = 0 from rfl, show ps_v 1 1 = 4 from rfl, show ps_v 1 2 = 0 from rfl, show ps_v 1 3 = 0 from rfl, show ps_v 2 0 = 0 from rfl, show ps_v 2 1 = 0 from rfl, show ps_v 2 2 = 4 from rfl, show ps_v 2 3 = 0 from rfl, show ps_v 3 0 = 0 from rfl, show ps_v 3 1 = 0 from rfl, show ps_v 3 2 = 0 from rfl, show ps_v 3 3 = 4 from rfl]
  generalize x 0 = x0 at hs ⊢
  generalize x 1 = x1 at hs ⊢
  generalize x 2 = x2 at hs ⊢
  generalize x 3 = x3 at hs ⊢
  have hx : x0 = 4 - x1 - x2 - x3 := by omega
  subst hx
  grind
def ps_ok (x : Nat → Int) : Prop := 0 ≤ x 0 ∧ 0 ≤ x 1 ∧ 0 ≤ x 2 ∧ 0 ≤ x 3 ∧ x 0 + x 1 + x 2 + x 3 = 4
theorem ps_L0 : ∀ i, i < 4 → ∀ j, j < 4 → ∀ k, k < 4 → ∀ l, l < 4 → 1 ≤ ps_P (ps_v i) (ps_v j) (ps_v k) (ps_v l) := by decide +kernel
theorem ps_L1 {i j k : Nat} (hi : i < 4) (hj : j < 4) (hk : k < 4) {d : Nat → Int} (h : ps_ok d) : 1 ≤ ps_P (ps_v i) (ps_v j) (ps_v k) d :=
  ps_cv (ps_P3 d _ _ _ h.2.2.2.2) h.2.2.2.2 h.1 h.2.1 h.2.2.1 h.2.2.2.1 (ps_L0 i hi j hj k hk 0 (by decide)) (ps_L0 i hi j hj k hk 1 (by decide)) (ps_L0 i hi j hj k hk 2 (by decide)) (ps_L0 i hi j hj k hk 3 (by decide))
theorem ps_L2 {i j : Nat} (hi : i < 4) (hj : j < 4) {c d : Nat → Int} (h : ps_ok c) (hd : ps_ok d) : 1 ≤ ps_P (ps_v i) (ps_v j) c d :=
  ps_cv (ps_P2 c _ _ _ h.2.2.2.2) h.2.2.2.2 h.1 h.2.1 h.2.2.1 h.2.2.2.1 (ps_L1 hi hj (by decide) hd) (ps_L1 hi hj (by decide) hd) (ps_L1 hi hj (by decide) hd) (ps_L1 hi hj (by decide) hd)
theorem ps_L3 {i : Nat} (hi : i < 4) {b c d : Nat → Int} (h : ps_ok b) (hc : ps_ok c) (hd : ps_ok d) : 1 ≤ ps_P (ps_v i) b c d :=
  ps_cv (ps_P1 b _ _ _ h.2.2.2.2) h.2.2.2.2 h.1 h.2.1 h.2.2.1 h.2.2.2.1 (ps_L2 hi (by decide) hc hd) (ps_L2 hi (by decide) hc hd) (ps_L2 hi (by decide) hc hd) (ps_L2 hi (by decide) hc hd)
theorem ps_L4 {a b c d : Nat → Int} (h : ps_ok a) (hb : ps_ok b) (hc : ps_ok c) (hd : ps_ok d) : 1 ≤ ps_P a b c d :=
  ps_cv (ps_P0 a _ _ _ h.2.2.2.2) h.2.2.2.2 h.1 h.2.1 h.2.2.1 h.2.2.2.1 (ps_L3 (by decide) hb hc hd) (ps_L3 (by decide) hb hc hd) (ps_L3 (by decide) hb hc hd) (ps_L3 (by decide) hb hc hd)
theorem ps_m2 {x y z w : Int} {a b : Nat} (hx : x.natAbs ≤ a) (hy : y.natAbs ≤ b) (hz : z.natAbs ≤ b) (hw : w.natAbs ≤ a) : (x * y - z * w).natAbs ≤ 2 * (a * b) := by
  have h1 : (x * y).natAbs ≤ a * b := by rw [Int.natAbs_mul]; exact Nat.mul_le_mul hx hy
  have h2 : (z * w).natAbs ≤ a * b := by rw [Int.natAbs_mul, Nat.mul_comm a b]; exact Nat.mul_le_mul hz hw
  generalize x * y = p at h1 ⊢
  generalize z * w = q at h2 ⊢
  generalize a * b = r at h1 h2 ⊢
  omega
theorem ps_m3 {x y : Int} {a b c d m : Nat} (hx : x.natAbs ≤ 2 * (a * b)) (hy : y.natAbs ≤ 2 * (c * d)) (hm : a * b * (c * d) = m) : (x * y).natAbs ≤ 4 * m := by
  rw [Int.natAbs_mul]
  have h := Nat.mul_le_mul hx hy
  have e : 2 * (a * b) * (2 * (c * d)) = 4 * m := by
    rw [← hm, Nat.mul_assoc, Nat.mul_left_comm (a * b) 2, ← Nat.mul_assoc 2 2]
  omega
theorem ps_bd {a0 a1 a2 a3 b0 b1 b2 b3 c0 c1 c2 c3 d0 d1 d2 d3 : Int} {p q r s m : Nat} (hm : p * q * (r * s) = m)
    (A0 : a0.natAbs ≤ p) (A1 : a1.natAbs ≤ q) (A2 : a2.natAbs ≤ r) (A3 : a3.natAbs ≤ s) (B0 : b0.natAbs ≤ p) (B1 : b1.natAbs ≤ q) (B2 : b2.natAbs ≤ r) (B3 : b3.natAbs ≤ s)
    (C0 : c0.natAbs ≤ p) (C1 : c1.natAbs ≤ q) (C2 : c2.natAbs ≤ r) (C3 : c3.natAbs ≤ s) (D0 : d0.natAbs ≤ p) (D1 : d1.natAbs ≤ q) (D2 : d2.natAbs ≤ r) (D3 : d3.natAbs ≤ s) :
    (ps_d4 a0 a1 a2 a3 b0 b1 b2 b3 c0 c1 c2 c3 d0 d1 d2 d3).natAbs ≤ 24 * m := by
  have h1 := ps_m3 (m := m) (ps_m2 A0 B1 A1 B0) (ps_m2 C2 D3 C3 D2) hm
  have h2 := ps_m3 (m := m) (ps_m2 A0 B2 A2 B0) (ps_m2 C1 D3 C3 D1) (by rw [← hm]; grind)
  have h3 := ps_m3 (m := m) (ps_m2 A0 B3 A3 B0) (ps_m2 C1 D2 C2 D1) (by rw [← hm]; grind)
  have h4 := ps_m3 (m := m) (ps_m2 A1 B2 A2 B1) (ps_m2 C0 D3 C3 D0) (by rw [← hm]; grind)
  have h5 := ps_m3 (m := m) (ps_m2 A1 B3 A3 B1) (ps_m2 C0 D2 C2 D0) (by rw [← hm]; grind)
  have h6 := ps_m3 (m := m) (ps_m2 A2 B3 A3 B2) (ps_m2 C0 D1 C1 D0) (by rw [← hm]; grind)
  unfold ps_d4
  generalize (a0 * b1 - a1 * b0) * (c2 * d3 - c3 * d2) = t1 at h1 ⊢
  generalize (a0 * b2 - a2 * b0) * (c1 * d3 - c3 * d1) = t2 at h2 ⊢
  generalize (a0 * b3 - a3 * b0) * (c1 * d2 - c2 * d1) = t3 at h3 ⊢
  generalize (a1 * b2 - a2 * b1) * (c0 * d3 - c3 * d0) = t4 at h4 ⊢
  generalize (a1 * b3 - a3 * b1) * (c0 * d2 - c2 * d0) = t5 at h5 ⊢
  generalize (a2 * b3 - a3 * b2) * (c0 * d1 - c1 * d0) = t6 at h6 ⊢
  clear hm A0 A1 A2 A3 B0 B1 B2 B3 C0 C1 C2 C3 D0 D1 D2 D3
  omega
/-- the expansion by the first row, as the reference reckons it -/
theorem ps_lap (a0 a1 a2 a3 b0 b1 b2 b3 c0 c1 c2 c3 d0 d1 d2 d3 : Int) :
    0 + a0 * (b1 * (c2 * d3 - c3 * d2) - b2 * (c1 * d3 - c3 * d1) + b3 * (c1 * d2 - c2 * d1)) + -(a1 * (b0 * (c2 * d3 - c3 * d2) - b2 * (c0 * d3 - c3 * d0) + b3 * (c0 * d2 - c2 * d0))) + a2 * (b0 * (c1 * d3 - c3 * d1) - b1 * (c0 * d3 - c3 * d0) + b3 * (c0 * d1 - c1 * d0)) + -(a3 * (b0 * (c1 * d2 - c2 * d1) - b1 * (c0 * d2 - c2 * d0) + b2 * (c0 * d1 - c1 * d0))) = ps_d4 a0 a1 a2 a3 b0 b1 b2 b3 c0 c1 c2 c3 d0 d1 d2 d3 := by
  simp only [ps_d4]
  grind
end
section
/-! the picture over the integers: the equations of a policy, their determinants, lowest terms, the order -/
def ps_kk (p s : Nat) : Nat := 2 * s + p / 2 ^ s % 2
def ps_e (R S : Nat → Int32) (p s t : Nat) : Int := if t = 4 then 8 * (R (ps_kk p s)).toInt else (if s = t then 8 else 0) - (S (4 * ps_kk p s + t)).toInt
def ps_D (R S : Nat → Int32) (p c0 c1 c2 c3 : Nat) : Int :=
  ps_d4 (ps_e R S p 0 c0) (ps_e R S p 0 c1) (ps_e R S p 0 c2) (ps_e R S p 0 c3) (ps_e R S p 1 c0) (ps_e R S p 1 c1) (ps_e R S p 1 c2) (ps_e R S p 1 c3) (ps_e R S p 2 c0) (ps_e R S p 2 c1) (ps_e R S p 2 c2) (ps_e R S p 2 c3) (ps_e R S p 3 c0) (ps_e R S p 3 c1) (ps_e R S p 3 c2) (ps_e R S p 3 c3)
def ps_cc (s t : Nat) : Nat := if s = t then 4 else t
def ps_top (R S : Nat → Int32) (p s : Nat) : Int := ps_D R S p (ps_cc s 0) (ps_cc s 1) (ps_cc s 2) (ps_cc s 3)
def ps_st (R S : Nat → Int32) : Prop := (∀ k, k < 8 → -20 ≤ (R k).toInt ∧ (R k).toInt ≤ 20) ∧ (∀ k, k < 8 → ps_ok (fun t => (S (4 * k + t)).toInt))
theorem ps_kk_lt (p : Nat) {s : Nat} (hs : s < 4) : ps_kk p s < 8 := by
  unfold ps_kk
  have h := Nat.mod_lt (p / 2 ^ s) (show 2 > 0 by decide)
  omega
theorem ps_pos {R S : Nat → Int32} (h : ps_st R S) (p : Nat) : 1 ≤ ps_top R S p 4 := by
  have e : ps_top R S p 4 = ps_P (fun t => (S (4 * ps_kk p 0 + t)).toInt) (fun t => (S (4 * ps_kk p 1 + t)).toInt) (fun t => (S (4 * ps_kk p 2 + t)).toInt) (fun t => (S (4 * ps_kk p 3 + t)).toInt) := rfl
  rw [e]
  exact ps_L4 (h.2 _ (ps_kk_lt p (by decide))) (h.2 _ (ps_kk_lt p (by decide))) (h.2 _ (ps_kk_lt p (by decide))) (h.2 _ (ps_kk_lt p (by decide)))
theorem ps_sh {R S : Nat → Int32} (h : ps_st R S) {k t : Nat} (hk : k < 8) (ht : t < 4) : 0 ≤ (S (4 * k + t)).toInt ∧ (S (4 * k + t)).toInt ≤ 4 := by
  obtain ⟨h0, h1, h2, h3, h4⟩ := h.2 k hk
  dsimp only at h0 h1 h2 h3 h4
  match t, ht with
  | 0, _ => omega
  | 1, _ => omega
  | 2, _ => omega
  | 3, _ => omega
theorem ps_eb {R S : Nat → Int32} (h : ps_st R S) (p : Nat) {s t : Nat} (hs : s < 4) (ht : t < 4) : (ps_e R S p s t).natAbs ≤ 8 := by
  have hb := ps_sh h (ps_kk_lt p hs) ht
  unfold ps_e
  rw [if_neg (show ¬ t = 4 by omega)]
  generalize (S (4 * ps_kk p s + t)).toInt = x at hb ⊢
  split <;> omega
theorem ps_rb {R S : Nat → Int32} (h : ps_st R S) (p : Nat) {s : Nat} (hs : s < 4) : (ps_e R S p s 4).natAbs ≤ 160 := by
  have hb := h.1 _ (ps_kk_lt p hs)
  unfold ps_e
  rw [if_pos rfl]
  generalize (R (ps_kk p s)).toInt = x at hb ⊢
  omega
def ps_be (c t : Nat) : Nat := if c = t then 160 else 8
theorem ps_cb {R S : Nat → Int32} (h : ps_st R S) (p c : Nat) {s t : Nat} (hs : s < 4) (ht : t < 4) : (ps_e R S p s (ps_cc c t)).natAbs ≤ ps_be c t := by
  unfold ps_cc ps_be
  split
  · exact ps_rb h p hs
  · exact ps_eb h p hs ht
theorem ps_tb {R S : Nat → Int32} (h : ps_st R S) (p c : Nat) : (ps_top R S p c).natAbs ≤ 24 * (ps_be c 0 * ps_be c 1 * (ps_be c 2 * ps_be c 3)) :=
  ps_bd rfl (ps_cb h p c (by decide) (by decide)) (ps_cb h p c (by decide) (by decide)) (ps_cb h p c (by decide) (by decide)) (ps_cb h p c (by decide) (by decide))
    (ps_cb h p c (by decide) (by decide)) (ps_cb h p c (by decide) (by decide)) (ps_cb h p c (by decide) (by decide)) (ps_cb h p c (by decide) (by decide))
    (ps_cb h p c (by decide) (by decide)) (ps_cb h p c (by decide) (by decide)) (ps_cb h p c (by decide) (by decide)) (ps_cb h p c (by decide) (by decide))
    (ps_cb h p c (by decide) (by decide)) (ps_cb h p c (by decide) (by decide)) (ps_cb h p c (by decide) (by decide)) (ps_cb h p c (by decide) (by decide))
theorem ps_bn : ∀ c, c < 4 → 24 * (ps_be c 0 * ps_be c 1 * (ps_be c 2 * ps_be c 3)) = 1966080 := by decide +kernel
theorem ps_bot_b {R S : Nat → Int32} (h : ps_st R S) (p : Nat) : 1 ≤ ps_top R S p 4 ∧ ps_top R S p 4 ≤ 98304 := by
  have h1 := ps_pos h p
  have h2 := ps_tb h p 4
  rw [show 24 * (ps_be 4 0 * ps_be 4 1 * (ps_be 4 2 * ps_be 4 3)) = 98304 by decide] at h2
  omega
theorem ps_top_b {R S : Nat → Int32} (h : ps_st R S) (p : Nat) {s : Nat} (hs : s < 4) : (ps_top R S p s).natAbs ≤ 1966080 := by
  have h2 := ps_tb h p s
  rw [ps_bn s hs] at h2
  exact h2
def ps_tJ (R S : Nat → Int32) (j : Nat) : Int := ps_top R S (j / 4) (j % 4)
def ps_bJ (R S : Nat → Int32) (j : Nat) : Int := ps_top R S (j / 4) 4
def ps_g (R S : Nat → Int32) (j : Nat) : Nat := Nat.gcd (ps_tJ R S j).natAbs (ps_bJ R S j).natAbs
def ps_T (R S : Nat → Int32) (j : Nat) : Int := (ps_tJ R S j).tdiv (ps_g R S j)
def ps_B (R S : Nat → Int32) (j : Nat) : Int := (ps_bJ R S j).tdiv (ps_g R S j)
theorem ps_tJb {R S : Nat → Int32} (h : ps_st R S) (j : Nat) : (ps_tJ R S j).natAbs ≤ 1966080 := ps_top_b h _ (Nat.mod_lt _ (by decide))
theorem ps_bJb {R S : Nat → Int32} (h : ps_st R S) (j : Nat) : 1 ≤ ps_bJ R S j ∧ ps_bJ R S j ≤ 98304 := ps_bot_b h _
theorem ps_gp {R S : Nat → Int32} (h : ps_st R S) (j : Nat) : 1 ≤ ps_g R S j ∧ ps_g R S j ≤ 98304 := by
  have hb := ps_bJb h j
  have h0 : 0 < (ps_bJ R S j).natAbs := by omega
  have h1 : 0 < ps_g R S j := Nat.gcd_pos_of_pos_right _ h0
  have h2 : ps_g R S j ≤ (ps_bJ R S j).natAbs := Nat.gcd_le_right _ h0
  omega
theorem ps_Tg (R S : Nat → Int32) (j : Nat) : ps_T R S j * (ps_g R S j : Int) = ps_tJ R S j :=
  Int.tdiv_mul_cancel (Int.ofNat_dvd_left.mpr (Nat.gcd_dvd_left _ _))
theorem ps_Bg (R S : Nat → Int32) (j : Nat) : ps_B R S j * (ps_g R S j : Int) = ps_bJ R S j :=
  Int.tdiv_mul_cancel (Int.ofNat_dvd_left.mpr (Nat.gcd_dvd_right _ _))
theorem ps_Tb {R S : Nat → Int32} (h : ps_st R S) (j : Nat) : (ps_T R S j).natAbs ≤ 1966080 :=
  Nat.le_trans (Int.natAbs_tdiv_le_natAbs _ _) (ps_tJb h j)
theorem ps_Bb {R S : Nat → Int32} (h : ps_st R S) (j : Nat) : (ps_B R S j).natAbs ≤ 98304 := by
  have h1 := ps_bJb h j
  exact Nat.le_trans (Int.natAbs_tdiv_le_natAbs _ _) (by omega)
def ps_l (R S : Nat → Int32) (p q s : Nat) : Int := ps_top R S p s * ps_top R S q 4
def ps_ord (R S : Nat → Int32) (p q s : Nat) : Int32 := if ps_l R S p q s = ps_l R S q p s then 0 else if ps_l R S p q s < ps_l R S q p s then -1 else 1
noncomputable def ps_i (R S : Nat → Int32) (p : Nat) : Int32 := @ite _ (∀ q, q < 16 → ∀ s, s < 4 → ¬ ps_l R S p q s < ps_l R S q p s) (Classical.propDecidable _) 1 0
theorem ps_jt (R S : Nat → Int32) (p : Nat) {s : Nat} (hs : s < 4) : ps_tJ R S (4 * p + s) = ps_top R S p s := by
  unfold ps_tJ
  rw [show (4 * p + s) / 4 = p by omega, show (4 * p + s) % 4 = s by omega]
theorem ps_jb (R S : Nat → Int32) (p : Nat) {s : Nat} (hs : s < 4) : ps_bJ R S (4 * p + s) = ps_top R S p 4 := by
  unfold ps_bJ
  rw [show (4 * p + s) / 4 = p by omega]
theorem ps_lG (R S : Nat → Int32) (p q : Nat) {s : Nat} (hs : s < 4) : ps_l R S p q s = (ps_T R S (4 * p + s) * ps_B R S (4 * q + s)) * ((ps_g R S (4 * p + s) : Int) * (ps_g R S (4 * q + s) : Int)) := by
  unfold ps_l
  rw [← ps_jt R S p hs, ← ps_jb R S q hs, ← ps_Tg, ← ps_Bg]
  grind
theorem ps_G0 {R S : Nat → Int32} (h : ps_st R S) (i j : Nat) : 0 < (ps_g R S i : Int) * (ps_g R S j : Int) :=
  Int.mul_pos (by have := (ps_gp h i).1; omega) (by have := (ps_gp h j).1; omega)
theorem ps_scL {R S : Nat → Int32} (h : ps_st R S) (p q : Nat) {s : Nat} (hs : s < 4) : ps_T R S (4 * p + s) * ps_B R S (4 * q + s) < ps_T R S (4 * q + s) * ps_B R S (4 * p + s) ↔ ps_l R S p q s < ps_l R S q p s := by
  rw [ps_lG R S p q hs, ps_lG R S q p hs, Int.mul_comm (ps_g R S (4 * q + s) : Int)]
  exact (Int.mul_lt_mul_right (ps_G0 h _ _)).symm
theorem ps_scE {R S : Nat → Int32} (h : ps_st R S) (p q : Nat) {s : Nat} (hs : s < 4) : ps_T R S (4 * p + s) * ps_B R S (4 * q + s) = ps_T R S (4 * q + s) * ps_B R S (4 * p + s) ↔ ps_l R S p q s = ps_l R S q p s := by
  rw [ps_lG R S p q hs, ps_lG R S q p hs, Int.mul_comm (ps_g R S (4 * q + s) : Int)]
  exact (Int.mul_eq_mul_right_iff (Int.ne_of_gt (ps_G0 h _ _))).symm
/-! comparisons and quotients of bounded numbers -/
theorem ps_t32 {x : Int} (hx : x.natAbs < 2147483648) : (Int32.ofInt x).toInt = x := Int32.toInt_ofInt_of_le (by omega) (by omega)
theorem ps_t64 {x : Int} (hx : x.natAbs < 9223372036854775808) : (Int64.ofInt x).toInt = x := Int64.toInt_ofInt_of_le (by omega) (by omega)
theorem ps_lt32 {x y : Int} (hx : x.natAbs < 2147483648) (hy : y.natAbs < 2147483648) : Int32.ofInt x < Int32.ofInt y ↔ x < y := by
  rw [Int32.lt_iff_toInt_lt, ps_t32 hx, ps_t32 hy]
theorem ps_lt64 {x y : Int} (hx : x.natAbs < 9223372036854775808) (hy : y.natAbs < 9223372036854775808) : Int64.ofInt x < Int64.ofInt y ↔ x < y := by
  rw [Int64.lt_iff_toInt_lt, ps_t64 hx, ps_t64 hy]
theorem ps_le64 {x y : Int} (hx : x.natAbs < 9223372036854775808) (hy : y.natAbs < 9223372036854775808) : Int64.ofInt x ≤ Int64.ofInt y ↔ x ≤ y := by
  rw [Int64.le_iff_toInt_le, ps_t64 hx, ps_t64 hy]
theorem ps_eq64 {x y : Int} (hx : x.natAbs < 9223372036854775808) (hy : y.natAbs < 9223372036854775808) : Int64.ofInt x = Int64.ofInt y ↔ x = y := by
  rw [← Int64.toInt_inj, ps_t64 hx, ps_t64 hy]
theorem ps_i64 {x : Int} (hx : x.natAbs < 2147483648) : (Int32.ofInt x).toInt64 = Int64.ofInt x := by
  rw [← Int64.ofInt_int32ToInt, ps_t32 hx]
theorem ps_nI (n : Nat) : Int32.ofInt (n : Int) = nI n := Int32.ofInt_eq_ofNat
theorem ps_lN (n : Nat) : Int64.ofInt (n : Int) = lN n := Int64.ofInt_eq_ofNat
theorem ps_div32 {a b : Int} (ha : a.natAbs < 2147483648) (hb : b.natAbs < 2147483648) : Int32.ofInt a / Int32.ofInt b = Int32.ofInt (a.tdiv b) := by
  have h1 : Int32.minValue.toInt = -2147483648 := by decide
  have h2 : Int32.maxValue.toInt = 2147483647 := by decide
  exact (Int32.ofInt_tdiv (by omega) (by omega) (by omega) (by omega)).symm
theorem ps_div64 {a b : Int} (ha : a.natAbs < 9223372036854775808) (hb : b.natAbs < 9223372036854775808) : Int64.ofInt a / Int64.ofInt b = Int64.ofInt (a.tdiv b) := by
  have h1 : Int64.minValue.toInt = -9223372036854775808 := by decide
  have h2 : Int64.maxValue.toInt = 9223372036854775807 := by decide
  exact (Int64.ofInt_tdiv (by omega) (by omega) (by omega) (by omega)).symm
theorem ps_pb {x y : Int} {a b : Nat} (hx : x.natAbs ≤ a) (hy : y.natAbs ≤ b) : (x * y).natAbs ≤ a * b := by
  rw [Int.natAbs_mul]
  exact Nat.mul_le_mul hx hy
/-- Euclid's steps: from (a, b) the second number is 0 within m steps -/
def ps_eu : Nat → Nat → Nat → Prop
  | 0, _, b => b = 0
  | m + 1, a, b => b = 0 ∨ ps_eu m b (a % b)
theorem ps_eu0 : ∀ m a, ps_eu m a 0
  | 0, _ => rfl
  | _ + 1, _ => Or.inl rfl
theorem ps_eul : ∀ n a b, b < 2 ^ n → ps_eu (2 * n) a b := by
  intro n
  induction n with
  | zero => intro a b h; show b = 0; omega
  | succ n ih =>
    intro a b h
    show b = 0 ∨ (a % b = 0 ∨ ps_eu (2 * n) (a % b) (b % (a % b)))
    by_cases hb : b = 0
    · exact Or.inl hb
    · by_cases hr : a % b = 0
      · exact Or.inr (Or.inl hr)
      · refine Or.inr (Or.inr (ih _ _ ?_))
        have h1 : a % b < b := Nat.mod_lt _ (by omega)
        have h2 : b % (a % b) < a % b := Nat.mod_lt _ (by omega)
        have h3 : b % (a % b) = (b - a % b) % (a % b) := Nat.mod_eq_sub_mod (by omega)
        have h4 := Nat.mod_le (b - a % b) (a % b)
        rw [Nat.pow_succ] at h
        omega
theorem ps_eum : ∀ m k a b, ps_eu m a b → m ≤ k → ps_eu k a b := by
  intro m
  induction m with
  | zero => intro k a b h _; have e : b = 0 := h; rw [e]; exact ps_eu0 k a
  | succ m ih =>
    intro k a b h hk
    obtain ⟨k', rfl⟩ : ∃ k', k = k' + 1 := ⟨k - 1, by omega⟩
    exact h.elim Or.inl (fun h' => Or.inr (ih k' _ _ h' (by omega)))
theorem ps_gs (a b : Nat) : Nat.gcd b (a % b) = Nat.gcd a b := by
  rw [Nat.gcd_comm a b, Nat.gcd_rec b a, Nat.gcd_comm]
theorem ps_bits : ∀ p, p < 16 → ∀ s, s < 4 → (nI p >>> (nI s &&& 31)) &&& 1 = nI (p / 2 ^ s % 2) := by decide +kernel
end
section
/-! what a call does to rewards and shares, and the scans over the policies -/
theorem ps_stR {R S : Nat → Int32} (h : ps_st R S) (k : Nat) {x : Int32} (hx : -20 ≤ x.toInt ∧ x.toInt ≤ 20) : ps_st (upd R k x) S := by
  refine ⟨fun j hj => ?_, h.2⟩
  by_cases e : j = k
  · subst e
    rw [pk_us]
    exact hx
  · rw [pk_un e]
    exact h.1 j hj
theorem ps_okE {x y : Nat → Int} (h : ps_ok x) (e : ∀ t, t < 4 → y t = x t) : ps_ok y := by
  unfold ps_ok at h ⊢
  rw [e 0 (by decide), e 1 (by decide), e 2 (by decide), e 3 (by decide)]
  exact h
theorem ps_stS {R S S' : Nat → Int32} (h : ps_st R S) (k : Nat) (hn : ∀ j, j < 8 → j ≠ k → ∀ t, t < 4 → S' (4 * j + t) = S (4 * j + t)) (ho : ps_ok (fun t => (S' (4 * k + t)).toInt)) : ps_st R S' := by
  refine ⟨h.1, fun j hj => ?_⟩
  by_cases e : j = k
  · subst e
    exact ho
  · exact ps_okE (h.2 j hj) (fun t ht => congrArg Int32.toInt (hn j hj e t ht))
/-- the four digits of a share code, from the place f on -/
def ps_w (S : Nat → Int32) (f c : Nat) : Nat → Int32 := fun j => if j = f then nI (c / 125) else if j = f + 1 then nI (c / 25 % 5) else if j = f + 2 then nI (c / 5 % 5) else if j = f + 3 then nI (c % 5) else S j
theorem ps_wY (S : Nat → Int32) (f c : Nat) : upd (upd (upd (upd S f (nI (c / 125))) (f + 1) (nI (c / 25 % 5))) (f + 2) (nI (c / 5 % 5))) (f + 3) (nI (c % 5)) = ps_w S f c := by
  funext j
  unfold upd ps_w
  by_cases h0 : j = f
  · rw [if_neg (by omega), if_neg (by omega), if_neg (by omega), if_pos h0, if_pos h0]
  · by_cases h1 : j = f + 1
    · rw [if_neg (by omega), if_neg (by omega), if_pos h1, if_neg h0, if_pos h1]
    · by_cases h2 : j = f + 2
      · rw [if_neg (by omega), if_pos h2, if_neg h0, if_neg h1, if_pos h2]
      · by_cases h3 : j = f + 3
        · rw [if_pos h3, if_neg h0, if_neg h1, if_neg h2, if_pos h3]
        · rw [if_neg h3, if_neg h2, if_neg h1, if_neg h0, if_neg h0, if_neg h1, if_neg h2, if_neg h3]
theorem ps_wX (S : Nat → Int32) (f c : Nat) (hc : c < 625) : upd (upd (upd (upd S (f + 3) (nI (c % 5))) (f + 2) (nI (c / 5 % 5))) (f + 1) (nI (c / 5 / 5 % 5))) f (nI (c / 5 / 5 / 5 % 5)) = ps_w S f c := by
  rw [show c / 5 / 5 / 5 % 5 = c / 125 by omega, show c / 5 / 5 % 5 = c / 25 % 5 by omega]
  rfl
theorem ps_stW {R S : Nat → Int32} (h : ps_st R S) {k c : Nat} (hc : c < 625) (hs : c / 125 + c / 25 % 5 + c / 5 % 5 + c % 5 = 4) : ps_st R (ps_w S (4 * k) c) := by
  refine ps_stS h k (fun j hj hn t ht => ?_) ?_
  · unfold ps_w
    rw [if_neg (by omega), if_neg (by omega), if_neg (by omega), if_neg (by omega)]
  · have e0 : ps_w S (4 * k) c (4 * k + 0) = nI (c / 125) := if_pos rfl
    have e1 : ps_w S (4 * k) c (4 * k + 1) = nI (c / 25 % 5) := by unfold ps_w; rw [if_neg (by omega), if_pos rfl]
    have e2 : ps_w S (4 * k) c (4 * k + 2) = nI (c / 5 % 5) := by unfold ps_w; rw [if_neg (by omega), if_neg (by omega), if_pos rfl]
    have e3 : ps_w S (4 * k) c (4 * k + 3) = nI (c % 5) := by unfold ps_w; rw [if_neg (by omega), if_neg (by omega), if_neg (by omega), if_pos rfl]
    unfold ps_ok
    dsimp only
    rw [e0, e1, e2, e3, nI_toInt (by omega), nI_toInt (by omega), nI_toInt (by omega), nI_toInt (by omega)]
    omega
/-- a row copied cell by cell -/
def ps_cS (S : Nat → Int32) (to fr : Nat) : Nat → Nat → Int32
  | 0 => S
  | t + 1 => upd (ps_cS S to fr t) (4 * to + t) (ps_cS S to fr t (4 * fr + t))
theorem ps_cSa (S : Nat → Int32) {to fr : Nat} (hne : fr ≠ to) : ∀ n, n ≤ 4 → ∀ j, ps_cS S to fr n j = if 4 * to ≤ j ∧ j < 4 * to + n then S (4 * fr + (j - 4 * to)) else S j := by
  intro n
  induction n with
  | zero => intro _ j; rw [if_neg (by omega)]; rfl
  | succ n ih =>
    intro hn j
    have ih' := ih (by omega)
    show upd (ps_cS S to fr n) (4 * to + n) (ps_cS S to fr n (4 * fr + n)) j = _
    by_cases e : j = 4 * to + n
    · subst e
      rw [pk_us, ih', if_neg (by omega), if_pos (by omega)]
      congr 1
      omega
    · rw [pk_un e, ih']
      by_cases e2 : 4 * to ≤ j ∧ j < 4 * to + n
      · rw [if_pos e2, if_pos (by omega)]
      · rw [if_neg e2, if_neg (by omega)]
theorem ps_stC {R S : Nat → Int32} (h : ps_st R S) {to fr : Nat} (hf : fr < 8) (hne : fr ≠ to) : ps_st (upd R to (R fr)) (ps_cS S to fr 4) := by
  refine ps_stR (ps_stS h to (fun j hj hn t ht => ?_) ?_) to (h.1 fr hf)
  · rw [ps_cSa S hne 4 (by decide), if_neg (by omega)]
  · refine ps_okE (h.2 fr hf) (fun t ht => congrArg Int32.toInt ?_)
    rw [ps_cSa S hne 4 (by decide), if_pos (by omega)]
    congr 1
    omega
def ps_ot (k : Nat) : Nat := if k % 2 = 0 then k + 1 else k - 1
theorem ps_ot_b {k : Nat} (h : k < 8) : ps_ot k < 8 ∧ ps_ot k ≠ k := by
  unfold ps_ot
  split <;> omega
/-- prune, place by place: those that no best policy names take their neighbour's row -/
def ps_fold (G : Nat → Int32) (R S : Nat → Int32) : Nat → (Nat → Int32) × (Nat → Int32) × Nat
  | 0 => (R, S, 0)
  | k + 1 => if G k = 0 then (upd (ps_fold G R S k).1 k ((ps_fold G R S k).1 (ps_ot k)), ps_cS (ps_fold G R S k).2.1 k (ps_ot k) 4, (ps_fold G R S k).2.2 + 1) else ps_fold G R S k
theorem ps_fold_t {G R S : Nat → Int32} {k : Nat} (h : G k = 0) : ps_fold G R S (k + 1) = (upd (ps_fold G R S k).1 k ((ps_fold G R S k).1 (ps_ot k)), ps_cS (ps_fold G R S k).2.1 k (ps_ot k) 4, (ps_fold G R S k).2.2 + 1) := if_pos h
theorem ps_fold_f {G R S : Nat → Int32} {k : Nat} (h : ¬ G k = 0) : ps_fold G R S (k + 1) = ps_fold G R S k := if_neg h
theorem ps_fold_st {G R S : Nat → Int32} (h : ps_st R S) : ∀ k, k ≤ 8 → ps_st (ps_fold G R S k).1 (ps_fold G R S k).2.1 ∧ (ps_fold G R S k).2.2 ≤ k := by
  intro k
  induction k with
  | zero => intro _; exact ⟨h, Nat.le_refl 0⟩
  | succ k ih =>
    intro hk
    have i := ih (by omega)
    by_cases g : G k = 0
    · rw [ps_fold_t g]
      have hb := ps_ot_b (k := k) (by omega)
      exact ⟨ps_stC i.1 hb.1 hb.2, Nat.succ_le_succ i.2⟩
    · rw [ps_fold_f g]
      exact ⟨i.1, Nat.le_succ_of_le i.2⟩
/-- is the action a named in the state s by a policy that J marks -/
noncomputable def ps_nm (J : Nat → Int32) (s a : Nat) : Int32 := @ite _ (∃ p, p < 16 ∧ (¬ J p = 0 ∧ p / 2 ^ s % 2 = a)) (Classical.propDecidable _) 1 0
/-- the first marked policy from i on, within d places; 0 if there is none -/
def ps_fb (J : Nat → Int32) : Nat → Nat → Nat
  | 0, _ => 0
  | d + 1, i => if J i = 0 then ps_fb J d (i + 1) else i
theorem ps_fb_lt (J : Nat → Int32) : ∀ d i, i + d ≤ 16 → ps_fb J d i < 16 := by
  intro d
  induction d with
  | zero => intro i _; exact (by decide : 0 < 16)
  | succ d ih =>
    intro i h
    show (if J i = 0 then ps_fb J d (i + 1) else i) < 16
    split
    · exact ih (i + 1) (by omega)
    · omega
def ps_cnt (J : Nat → Int32) : Nat → Nat
  | 0 => 0
  | i + 1 => if J i = 0 then ps_cnt J i else ps_cnt J i + 1
theorem ps_cnt_le (J : Nat → Int32) : ∀ i, ps_cnt J i ≤ i := by
  intro i
  induction i with
  | zero => exact Nat.le_refl 0
  | succ i ih =>
    show (if J i = 0 then ps_cnt J i else ps_cnt J i + 1) ≤ i + 1
    split <;> omega
def ps_mk (G : Nat → Int32) : Nat → Nat
  | 0 => 0
  | k + 1 => if G k = 0 then ps_mk G k ||| 2 ^ k else ps_mk G k
theorem ps_mk_lt (G : Nat → Int32) : ∀ k, k ≤ 8 → ps_mk G k < 256 := by
  intro k
  induction k with
  | zero => intro _; exact (by decide : 0 < 256)
  | succ k ih =>
    intro hk
    show (if G k = 0 then ps_mk G k ||| 2 ^ k else ps_mk G k) < 256
    split
    · exact Nat.or_lt_two_pow (n := 8) (ih (by omega)) (Nat.pow_lt_pow_right (by decide) (by omega))
    · exact ih (by omega)
theorem ps_mk_b (G : Nat → Int32) : ∀ n j, (ps_mk G n).testBit j = decide (j < n ∧ G j = 0) := by
  intro n
  induction n with
  | zero => intro j; rw [decide_eq_false (by omega)]; exact Nat.zero_testBit j
  | succ n ih =>
    intro j
    show (if G n = 0 then ps_mk G n ||| 2 ^ n else ps_mk G n).testBit j = _
    by_cases g : G n = 0
    · rw [if_pos g, Nat.testBit_or, ih, Nat.testBit_two_pow, Bool.eq_iff_iff]
      simp only [Bool.or_eq_true, decide_eq_true_eq]
      constructor
      · rintro (⟨a, b⟩ | rfl)
        · exact ⟨by omega, b⟩
        · exact ⟨by omega, g⟩
      · rintro ⟨a, b⟩
        by_cases e : n = j
        · exact Or.inr e
        · exact Or.inl ⟨by omega, b⟩
    · rw [if_neg g, ih, Bool.eq_iff_iff]
      simp only [decide_eq_true_eq]
      constructor
      · rintro ⟨a, b⟩
        exact ⟨by omega, b⟩
      · rintro ⟨a, b⟩
        have e : j ≠ n := fun e => g (e ▸ b)
        exact ⟨by omega, b⟩
theorem ps_mk_q (G : Nat → Int32) {j : Nat} (hj : j < 8) : ps_mk G 8 / 2 ^ j % 2 = if G j = 0 then 1 else 0 := by
  have h := ps_mk_b G 8 j
  rw [Nat.testBit_eq_decide_div_mod_eq, Bool.eq_iff_iff] at h
  simp only [decide_eq_true_eq] at h
  have h2 := Nat.mod_lt (ps_mk G 8 / 2 ^ j) (show 2 > 0 by decide)
  by_cases g : G j = 0
  · rw [if_pos g]
    exact h.mpr ⟨hj, g⟩
  · rw [if_neg g]
    have h3 : ¬ ps_mk G 8 / 2 ^ j % 2 = 1 := fun e => g (h.mp e).2
    omega
theorem ps_or : ∀ m, m < 256 → ∀ k, k < 8 → nI m ||| ((1 : Int32) <<< (nI k &&& 31)) = nI (m ||| 2 ^ k) := by decide +kernel
theorem ps_sh8 : ∀ m, m < 256 → ∀ k, k < 8 → (nI m >>> (nI k &&& 31)) &&& 1 = nI (m / 2 ^ k % 2) := by decide +kernel
/-- the shares of a new object, after k places -/
def ps_ini : Nat → Nat → Int32
  | 0 => fun _ => 0
  | k + 1 => upd (ps_ini k) (4 * k + k / 2) 4
theorem ps_iniS : ∀ k, k < 8 → 0 ≤ (ps_ini 8 (4 * k + 0)).toInt ∧ 0 ≤ (ps_ini 8 (4 * k + 1)).toInt ∧ 0 ≤ (ps_ini 8 (4 * k + 2)).toInt ∧ 0 ≤ (ps_ini 8 (4 * k + 3)).toInt ∧ (ps_ini 8 (4 * k + 0)).toInt + (ps_ini 8 (4 * k + 1)).toInt + (ps_ini 8 (4 * k + 2)).toInt + (ps_ini 8 (4 * k + 3)).toInt = 4 := by decide +kernel
theorem ps_st0 : ps_st (fun _ => 0) (ps_ini 8) := ⟨fun _ _ => show -20 ≤ (0 : Int32).toInt ∧ (0 : Int32).toInt ≤ 20 by decide, fun k hk => ps_iniS k hk⟩
end
section
/-! the class: minors, determinants, Euclid, the equations, solveEquations -/
theorem ps_m2x (n : Nat) : nI n * 2 = nI (2 * n) := by rw [show (2 : Int32) = nI 2 from rfl, pk_mul, Nat.mul_comm]
theorem ps_m4x (n : Nat) : nI n * 4 = nI (4 * n) := by rw [show (4 : Int32) = nI 4 from rfl, pk_mul, Nat.mul_comm]
theorem ps_m5x (n : Nat) : nI n * 5 = nI (5 * n) := by rw [show (5 : Int32) = nI 5 from rfl, pk_mul, Nat.mul_comm]
theorem ps_m2y (n : Nat) : 2 * nI n = nI (2 * n) := pk_mul 2 n
theorem ps_m4y (n : Nat) : 4 * nI n = nI (4 * n) := pk_mul 4 n
theorem ps_m5y (n : Nat) : 5 * nI n = nI (5 * n) := pk_mul 5 n
theorem ps_a5 (n : Nat) : nI n + 5 = nI (n + 5) := nI_add n 5
theorem ps_a4 (n : Nat) : nI n + 4 = nI (n + 4) := nI_add n 4
theorem ps_x4 (p s : Nat) : nI p * 4 + nI s = nI (4 * p + s) := by rw [ps_m4x, nI_add]
theorem ps_y4 (p s : Nat) : 4 * nI p + nI s = nI (4 * p + s) := by rw [ps_m4y, nI_add]
theorem ps_xmin {post : Int32 → Prop} (R S E T B I : Nat → Int32) {r a b : Nat} (hr : r ≤ 2) (ha : a < 5) (hb : b < 5) (h : post (E (5 * r + a) * E (5 * r + 5 + b) - E (5 * r + b) * E (5 * r + 5 + a))) : wpX_minor post (R, S, E, T, B, I) (nI r) (nI a) (nI b) := by
  unfold wpX_minor
  dsimp only
  refine nm_r (ps_m5x r) (nm_r (ps_a5 (5 * r)) ?_)
  rw [nI_add (5 * r) a, nI_add (5 * r) b, nI_add (5 * r + 5) a, nI_add (5 * r + 5) b, nI_clamp (show 5 * r + a < 2 ^ 31 by omega), nI_clamp (show 5 * r + b < 2 ^ 31 by omega), nI_clamp (show 5 * r + 5 + a < 2 ^ 31 by omega), nI_clamp (show 5 * r + 5 + b < 2 ^ 31 by omega)]
  exact ⟨vp_in_nI (by omega) (by omega), vp_in_nI (by omega) (by omega), vp_in_nI (by omega) (by omega), vp_in_nI (by omega) (by omega), h⟩
theorem ps_xm0 {post : Int32 → Prop} (R S E T B I : Nat → Int32) {f : Nat → Nat → Int} (hE : ∀ s t, s < 4 → t < 5 → E (5 * s + t) = Int32.ofInt (f s t)) {a b : Nat} (ha : a < 5) (hb : b < 5) (h : post (Int32.ofInt (f 0 a * f 1 b - f 0 b * f 1 a))) : wpX_minor post (R, S, E, T, B, I) 0 (nI a) (nI b) := by
  refine ps_xmin R S E T B I (r := 0) (by decide) ha hb ?_
  have e1 : E (5 * 0 + a) = _ := hE 0 a (by decide) ha
  have e2 : E (5 * 0 + 5 + b) = _ := hE 1 b (by decide) hb
  have e3 : E (5 * 0 + b) = _ := hE 0 b (by decide) hb
  have e4 : E (5 * 0 + 5 + a) = _ := hE 1 a (by decide) ha
  rw [e1, e2, e3, e4, ← Int32.ofInt_mul, ← Int32.ofInt_mul, ← Int32.ofInt_sub]
  exact h
theorem ps_xm2 {post : Int32 → Prop} (R S E T B I : Nat → Int32) {f : Nat → Nat → Int} (hE : ∀ s t, s < 4 → t < 5 → E (5 * s + t) = Int32.ofInt (f s t)) {a b : Nat} (ha : a < 5) (hb : b < 5) (h : post (Int32.ofInt (f 2 a * f 3 b - f 2 b * f 3 a))) : wpX_minor post (R, S, E, T, B, I) 2 (nI a) (nI b) := by
  refine ps_xmin R S E T B I (r := 2) (by decide) ha hb ?_
  have e1 : E (5 * 2 + a) = _ := hE 2 a (by decide) ha
  have e2 : E (5 * 2 + 5 + b) = _ := hE 3 b (by decide) hb
  have e3 : E (5 * 2 + b) = _ := hE 2 b (by decide) hb
  have e4 : E (5 * 2 + 5 + a) = _ := hE 3 a (by decide) ha
  rw [e1, e2, e3, e4, ← Int32.ofInt_mul, ← Int32.ofInt_mul, ← Int32.ofInt_sub]
  exact h
theorem ps_xdet {post : Int32 → Prop} (R S E T B I : Nat → Int32) {f : Nat → Nat → Int} (hE : ∀ s t, s < 4 → t < 5 → E (5 * s + t) = Int32.ofInt (f s t)) {c0 c1 c2 c3 : Nat} (h0 : c0 < 5) (h1 : c1 < 5) (h2 : c2 < 5) (h3 : c3 < 5) {D : Int} (hD : D = ps_d4 (f 0 c0) (f 0 c1) (f 0 c2) (f 0 c3) (f 1 c0) (f 1 c1) (f 1 c2) (f 1 c3) (f 2 c0) (f 2 c1) (f 2 c2) (f 2 c3) (f 3 c0) (f 3 c1) (f 3 c2) (f 3 c3)) (h : post (Int32.ofInt D)) : wpX_determinant post (R, S, E, T, B, I) (nI c0) (nI c1) (nI c2) (nI c3) := by
  subst hD
  unfold wpX_determinant
  dsimp only
  refine ps_xm0 R S E T B I hE h0 h1 ?_
  refine ps_xm2 R S E T B I hE h2 h3 ?_
  refine ps_xm0 R S E T B I hE h0 h2 ?_
  refine ps_xm2 R S E T B I hE h1 h3 ?_
  refine ps_xm0 R S E T B I hE h0 h3 ?_
  refine ps_xm2 R S E T B I hE h1 h2 ?_
  refine ps_xm0 R S E T B I hE h1 h2 ?_
  refine ps_xm2 R S E T B I hE h0 h3 ?_
  refine ps_xm0 R S E T B I hE h1 h3 ?_
  refine ps_xm2 R S E T B I hE h0 h2 ?_
  refine ps_xm0 R S E T B I hE h2 h3 ?_
  refine ps_xm2 R S E T B I hE h0 h1 ?_
  simp only [ps_d4, Int32.ofInt_add, Int32.ofInt_sub, Int32.ofInt_mul] at h ⊢
  exact h
theorem ps_xcd {post : Int32 → Prop} : ∀ m a b i, ps_eu m a b → i + m < 1000 → a < 2147483648 → b < 2147483648 → post (nI (Nat.gcd a b)) → wX_commonDivisor_16 post (m + 1) (nI a) (nI b) (nI i) := by
  intro m
  induction m with
  | zero =>
    intro a b i hu hi ha hb hp
    have e : b = 0 := hu
    subst e
    rw [Nat.gcd_zero_right] at hp
    exact br_f (nI_ge (b := 1000) (by omega) (by decide)) (br_t nI_0 hp)
  | succ m ih =>
    intro a b i hu hi ha hb hp
    by_cases e : b = 0
    · subst e
      rw [Nat.gcd_zero_right] at hp
      exact br_f (nI_ge (b := 1000) (by omega) (by decide)) (br_t nI_0 hp)
    · have hu' : ps_eu m b (a % b) := hu.resolve_left e
      have hb0 : 0 < b := by omega
      have hlt : a % b < b := Nat.mod_lt _ hb0
      have n0 := nI_ne0 hb0 hb
      refine br_f (nI_ge (b := 1000) (by omega) (by decide)) (br_f n0 ⟨n0, nm_r (pk_rem ha hb0 hb) (nm_r (nI_1 i) ?_)⟩)
      exact ih b (a % b) (i + 1) hu' (by omega) hb (by omega) (by rw [ps_gs]; exact hp)
theorem ps_xgcd {post : Int32 → Prop} {t b : Int} (ht : t.natAbs ≤ 1966080) (hb : 1 ≤ b ∧ b ≤ 98304) (h : post (nI (Nat.gcd t.natAbs b.natAbs))) : wpX_commonDivisor post (Int32.ofInt t) (Int32.ofInt b) := by
  have hb2 : b.natAbs ≤ 98304 := by omega
  have key := ps_xcd (post := post) 34 t.natAbs b.natAbs 0 (ps_eul 17 t.natAbs b.natAbs (Nat.lt_of_le_of_lt hb2 (by decide))) (by decide) (by omega) (by omega) h
  have eb : Int32.ofInt b = nI b.natAbs := by
    rw [← ps_nI]
    congr 1
    omega
  rw [eb]
  unfold wpX_commonDivisor
  by_cases h0 : 0 ≤ t
  · have e : Int32.ofInt t = nI t.natAbs := by
      rw [← ps_nI]
      congr 1
      omega
    rw [e]
    exact br_t (nI_pos' (by omega)) ⟨_, key⟩
  · have e : -Int32.ofInt t = nI t.natAbs := by
      rw [← ps_nI, ← Int32.ofInt_neg]
      congr 1
      omega
    refine br_f ?_ (nm_r e ⟨_, key⟩)
    rw [Int32.le_iff_toInt_le, ps_t32 (by omega), show (0 : Int32).toInt = 0 by decide]
    exact h0
theorem ps_xsto {post : SX → Prop} (R S E T B I : Nat → Int32) {j : Nat} (hj : j < 64) {t b : Int} (ht : t.natAbs ≤ 1966080) (hb : 1 ≤ b ∧ b ≤ 98304) (h : post (R, S, E, upd T j (Int32.ofInt (t.tdiv (Nat.gcd t.natAbs b.natAbs : Nat))), upd B j (Int32.ofInt (b.tdiv (Nat.gcd t.natAbs b.natAbs : Nat))), I)) : wpX_storeLowest post (R, S, E, T, B, I) (nI j) (Int32.ofInt t) (Int32.ofInt b) := by
  have g0 : 0 < Nat.gcd t.natAbs b.natAbs := Nat.gcd_pos_of_pos_right _ (by omega)
  have g1 : Nat.gcd t.natAbs b.natAbs ≤ b.natAbs := Nat.gcd_le_right _ (by omega)
  unfold wpX_storeLowest
  dsimp only
  refine ps_xgcd ht hb ?_
  generalize Nat.gcd t.natAbs b.natAbs = g at g0 g1 h ⊢
  have n0 := nI_ne0 g0 (show g < 2 ^ 31 by omega)
  have hi : vp_in (nI j) 64 := vp_in_nI hj (by decide)
  have d1 : upd T (nI j).toNatClampNeg (Int32.ofInt t / nI g) = upd T j (Int32.ofInt (t.tdiv (g : Int))) := by
    rw [nI_clamp (by omega), ← ps_nI, ps_div32 (by omega) (by omega)]
  have d2 : upd B (nI j).toNatClampNeg (Int32.ofInt b / nI g) = upd B j (Int32.ofInt (b.tdiv (g : Int))) := by
    rw [nI_clamp (by omega), ← ps_nI, ps_div32 (by omega) (by omega)]
  exact br_f (nI_nle g0 (by omega)) ⟨n0, hi, nm_r d1 ⟨n0, hi, nm_r d2 h⟩⟩
theorem ps_d8 (x : Int32) : -x + 8 = Int32.ofInt (8 - x.toInt) := by
  rw [Int32.ofInt_sub, Int32.ofInt_toInt]
  show -x + 8 = 8 - x
  grind
theorem ps_d0 (x : Int32) : -x = Int32.ofInt (0 - x.toInt) := by
  rw [Int32.ofInt_sub, Int32.ofInt_toInt]
  show -x = 0 - x
  grind
theorem ps_dr (x : Int32) : 8 * x = Int32.ofInt (8 * x.toInt) := by
  rw [Int32.ofInt_mul, Int32.ofInt_toInt]
  rfl
/-- the rows below m of the equations of the policy p -/
def ps_rows (R S : Nat → Int32) (p m : Nat) (E : Nat → Int32) : Prop := ∀ s t, s < m → t < 5 → E (5 * s + t) = Int32.ofInt (ps_e R S p s t)
theorem ps_row1 {R S E : Nat → Int32} {p s : Nat} (hs : s < 4) (h : ps_rows R S p s E) (hc : ∀ t, t < 4 → E (5 * s + t) = -(S (4 * ps_kk p s + t))) : ps_rows R S p (s + 1) (upd (upd E (5 * s + s) (E (5 * s + s) + 8)) (5 * s + 4) (8 * R (ps_kk p s))) := by
  intro s' t' hs' ht'
  by_cases e : s' = s
  · subst e
    by_cases e4 : t' = 4
    · subst e4
      rw [pk_us, ps_dr, ps_e, if_pos rfl]
    · rw [pk_un (by omega), ps_e, if_neg e4]
      by_cases e5 : s' = t'
      · subst e5
        rw [pk_us, hc s' hs, ps_d8, if_pos rfl]
      · rw [pk_un (by omega), hc t' (by omega), ps_d0, if_neg e5]
  · rw [pk_un (by omega), pk_un (by omega)]
    exact h s' t' (by omega) ht'
theorem ps_xw25 {post : SX → Prop} {J : Int32 → (Nat → Int32) → (Nat → Int32) → (Nat → Int32) → (Nat → Int32) → (Nat → Int32) → (Nat → Int32) → Prop} (R S T B I : Nat → Int32) {p s : Nat} (hs : s < 4) :
    ∀ n t E, t ≤ 4 → 4 - t < n → ps_rows R S p s E → (∀ t', t' < t → E (5 * s + t') = -(S (4 * ps_kk p s + t'))) → (∀ E', ps_rows R S p (s + 1) E' → J (nI (s + 1)) R S E' T B I) → wX_writeEquations_25 post J (nI p) (nI s) (nI (ps_kk p s)) (nI (5 * s)) n (nI t) R S E T B I := by
  intro n
  induction n with
  | zero => intro t E _ h; omega
  | succ n ih =>
    intro t E ht hn hr hc hJ
    have hk := ps_kk_lt p hs
    have n5 : ∀ m, m < 4 → ∀ k, k < 5 → (nI (5 * m + k)).toNatClampNeg = 5 * m + k := fun m hm k hk => nI_clamp (by omega)
    by_cases e : t = 4
    · subst e
      have i1 : vp_in (nI (5 * s) + nI s) 20 := by
        rw [nI_add]
        exact vp_in_nI (by omega) (by decide)
      have i2 : vp_in (nI (5 * s) + 4) 20 := by
        rw [ps_a4]
        exact vp_in_nI (by omega) (by decide)
      refine br_t (nI_le (a := 4) (by decide) (by decide)) ⟨i1, i1, nm_r (e' := upd E (5 * s + s) (E (5 * s + s) + 8)) (by rw [nI_add, n5 s hs s (by omega)]) ⟨vp_in_nI hk (by decide), i2, nm_r (e' := upd (upd E (5 * s + s) (E (5 * s + s) + 8)) (5 * s + 4) (8 * R (ps_kk p s))) (by rw [ps_a4, n5 s hs 4 (by decide), nI_clamp (by omega)]) (nm_r (nI_1 s) ?_)⟩⟩
      exact hJ _ (ps_row1 hs hr hc)
    · have ht4 : t < 4 := by omega
      have x1 : nI (ps_kk p s) * 4 + nI t = nI (4 * ps_kk p s + t) := ps_x4 _ _
      have x2 : nI (5 * s) + nI t = nI (5 * s + t) := nI_add _ _
      refine br_f (nI_ge (b := 4) ht4 (by decide)) ⟨by rw [x1]; exact vp_in_nI (by omega) (by decide), by rw [x2]; exact vp_in_nI (by omega) (by decide), nm_r (e' := upd E (5 * s + t) (-(S (4 * ps_kk p s + t)))) (by rw [x1, x2, nI_clamp (by omega), nI_clamp (by omega)]) (nm_r (nI_1 t) ?_)⟩
      refine ih (t + 1) _ (by omega) (by omega) (fun s' t' hs' ht' => ?_) (fun t' ht' => ?_) hJ
      · rw [pk_un (by omega)]
        exact hr s' t' hs' ht'
      · by_cases e2 : t' = t
        · subst e2
          rw [pk_us]
        · rw [pk_un (by omega)]
          exact hc t' (by omega)
theorem ps_xw2 {post : SX → Prop} (R S T B I : Nat → Int32) {p : Nat} (hp : p < 16) :
    ∀ n s E, s ≤ 4 → 4 - s < n → ps_rows R S p s E → (∀ E', ps_rows R S p 4 E' → post (R, S, E', T, B, I)) → wX_writeEquations_2 post (nI p) n (nI s) R S E T B I := by
  intro n
  induction n with
  | zero => intro s E _ h; omega
  | succ n ih =>
    intro s E hs hn hr hJ
    by_cases e : s = 4
    · subst e
      exact br_t (nI_le (a := 4) (by decide) (by decide)) (hJ E hr)
    · have hs4 : s < 4 := by omega
      refine br_f (nI_ge (b := 4) hs4 (by decide)) ?_
      unfold wpX_actionOf
      have ek : nI s * 2 + (nI p >>> (nI s &&& 31) &&& 1) = nI (ps_kk p s) := by
        rw [ps_bits p hp s hs4, ps_m2x, nI_add]
        rfl
      refine nm_r ek (nm_r (ps_m5x s) ⟨5, ?_⟩)
      exact ps_xw25 R S T B I hs4 5 0 E (by decide) (by decide) hr (fun t' ht' => absurd ht' (Nat.not_lt_zero t')) (fun E' hE' => ih (s + 1) E' (by omega) (by omega) hE' hJ)
theorem ps_xwr {post : SX → Prop} (R S E T B I : Nat → Int32) {p : Nat} (hp : p < 16) (h : ∀ E', ps_rows R S p 4 E' → post (R, S, E', T, B, I)) : wpX_writeEquations post (R, S, E, T, B, I) (nI p) :=
  ⟨5, ps_xw2 R S T B I hp 5 0 E (by decide) (by decide) (fun _ _ hs => absurd hs (Nat.not_lt_zero _)) h⟩
end
section
/-! the class: solveEquations, order, isNowhereBeaten, solveAll -/
theorem ps_ccl (s : Nat) {t : Nat} (h : t < 4) : ps_cc s t < 5 := by
  unfold ps_cc
  split <;> omega
theorem ps_br {s c : Nat} {W : Int32 → Prop} (hs : s < 4) (hc : c < 4) (h : W (nI (ps_cc s c))) : (nI s = nI c → W 4) ∧ (¬ nI s = nI c → W (nI c)) := by
  rw [nI_eq (by omega) (by omega)]
  unfold ps_cc at h
  by_cases e : s = c
  · rw [if_pos e] at h
    exact br_t e h
  · rw [if_neg e] at h
    exact br_f e h
/-- the cells below m hold lowest terms -/
def ps_sol (R S : Nat → Int32) (m : Nat) (T B : Nat → Int32) : Prop := ∀ j, j < m → T j = Int32.ofInt (ps_T R S j) ∧ B j = Int32.ofInt (ps_B R S j)
theorem ps_sol1 {R S T B : Nat → Int32} {p s : Nat} (hs : s < 4) (h : ps_sol R S (4 * p + s) T B) : ps_sol R S (4 * p + (s + 1)) (upd T (4 * p + s) (Int32.ofInt ((ps_top R S p s).tdiv (Nat.gcd (ps_top R S p s).natAbs (ps_top R S p 4).natAbs : Nat)))) (upd B (4 * p + s) (Int32.ofInt ((ps_top R S p 4).tdiv (Nat.gcd (ps_top R S p s).natAbs (ps_top R S p 4).natAbs : Nat)))) := by
  intro j hj
  by_cases e : j = 4 * p + s
  · subst e
    rw [pk_us, pk_us]
    unfold ps_T ps_B ps_g
    rw [ps_jt R S p hs, ps_jb R S p hs]
    exact ⟨rfl, rfl⟩
  · rw [pk_un e, pk_un e]
    exact h j (by omega)
theorem ps_xs61 {post : SX → Prop} {J : Int32 → (Nat → Int32) → (Nat → Int32) → (Nat → Int32) → (Nat → Int32) → (Nat → Int32) → (Nat → Int32) → Prop} {R S E T B : Nat → Int32} (I : Nat → Int32) (h : ps_st R S) {p s : Nat} (hp : p < 16) (hs : s < 4) (hE : ps_rows R S p 4 E) (hT : ps_sol R S (4 * p + s) T B)
    (hJ : ∀ T' B', ps_sol R S (4 * p + (s + 1)) T' B' → J (nI (s + 1)) R S E T' B' I) : wX_solveEquations_61 post J (nI p) (Int32.ofInt (ps_top R S p 4)) (nI s) (nI (ps_cc s 0)) (nI (ps_cc s 1)) (nI (ps_cc s 2)) (nI (ps_cc s 3)) R S E T B I := by
  unfold wX_solveEquations_61
  refine ps_xdet R S E T B I hE (ps_ccl s (by decide)) (ps_ccl s (by decide)) (ps_ccl s (by decide)) (ps_ccl s (by decide)) (D := ps_top R S p s) rfl ?_
  dsimp only
  rw [ps_x4 p s]
  refine ps_xsto R S E T B I (by omega) (ps_top_b h p hs) (ps_bot_b h p) ?_
  exact nm_r (nI_1 s) (hJ _ _ (ps_sol1 hs hT))
theorem ps_xs25 {post : SX → Prop} {J : Int32 → (Nat → Int32) → (Nat → Int32) → (Nat → Int32) → (Nat → Int32) → (Nat → Int32) → (Nat → Int32) → Prop} {R S E T B : Nat → Int32} (I : Nat → Int32) (h : ps_st R S) {p s : Nat} (hp : p < 16) (hs : s < 4) (hE : ps_rows R S p 4 E) (hT : ps_sol R S (4 * p + s) T B)
    (hJ : ∀ T' B', ps_sol R S (4 * p + (s + 1)) T' B' → J (nI (s + 1)) R S E T' B' I) : wX_solveEquations_25 post J (nI p) (Int32.ofInt (ps_top R S p 4)) (nI s) (nI (ps_cc s 0)) R S E T B I := by
  unfold wX_solveEquations_25
  refine ps_br (c := 1) (W := fun z => wX_solveEquations_37 post J (nI p) (Int32.ofInt (ps_top R S p 4)) (nI s) (nI (ps_cc s 0)) z R S E T B I) hs (by decide) ?_
  unfold wX_solveEquations_37
  refine ps_br (c := 2) (W := fun z => wX_solveEquations_49 post J (nI p) (Int32.ofInt (ps_top R S p 4)) (nI s) (nI (ps_cc s 0)) (nI (ps_cc s 1)) z R S E T B I) hs (by decide) ?_
  unfold wX_solveEquations_49
  exact ps_br (c := 3) (W := fun z => wX_solveEquations_61 post J (nI p) (Int32.ofInt (ps_top R S p 4)) (nI s) (nI (ps_cc s 0)) (nI (ps_cc s 1)) (nI (ps_cc s 2)) z R S E T B I) hs (by decide) (ps_xs61 I h hp hs hE hT hJ)
theorem ps_xs11 {post : SX → Prop} {R S E : Nat → Int32} (I : Nat → Int32) (h : ps_st R S) {p : Nat} (hp : p < 16) (hE : ps_rows R S p 4 E) :
    ∀ n s T B, s ≤ 4 → 4 - s < n → ps_sol R S (4 * p + s) T B → (∀ T' B', ps_sol R S (4 * p + 4) T' B' → post (R, S, E, T', B', I)) → wX_solveEquations_11 post (nI p) (Int32.ofInt (ps_top R S p 4)) n (nI s) R S E T B I := by
  intro n
  induction n with
  | zero => intro s T B _ hn; omega
  | succ n ih =>
    intro s T B hs hn hT hJ
    by_cases e : s = 4
    · subst e
      exact br_t (nI_le (a := 4) (by decide) (by decide)) (hJ T B hT)
    · have hs4 : s < 4 := by omega
      refine br_f (nI_ge (b := 4) hs4 (by decide)) ?_
      exact ps_br (c := 0) (W := fun z => wX_solveEquations_25 post (wX_solveEquations_11 post (nI p) (Int32.ofInt (ps_top R S p 4)) n) (nI p) (Int32.ofInt (ps_top R S p 4)) (nI s) z R S E T B I) hs4 (by decide)
        (ps_xs25 I h hp hs4 hE hT (fun T' B' h' => ih (s + 1) T' B' (by omega) (by omega) h' hJ))
theorem ps_xse {post : SX → Prop} {R S E T B : Nat → Int32} (I : Nat → Int32) (h : ps_st R S) {p : Nat} (hp : p < 16) (hE : ps_rows R S p 4 E) (hT : ps_sol R S (4 * p) T B) (hJ : ∀ T' B', ps_sol R S (4 * p + 4) T' B' → post (R, S, E, T', B', I)) : wpX_solveEquations post (R, S, E, T, B, I) (nI p) := by
  unfold wpX_solveEquations
  dsimp only
  refine ps_xdet R S E T B I hE (c0 := 0) (c1 := 1) (c2 := 2) (c3 := 3) (by decide) (by decide) (by decide) (by decide) (D := ps_top R S p 4) rfl ?_
  exact ⟨5, ps_xs11 I h hp hE 5 0 T B (by decide) (by decide) hT hJ⟩
theorem ps_xord {post : Int32 → Prop} {R S T B : Nat → Int32} (E I : Nat → Int32) (h : ps_st R S) (hT : ps_sol R S 64 T B) {p q s : Nat} (hp : p < 16) (hq : q < 16) (hs : s < 4) (hpost : post (ps_ord R S p q s)) : wpX_order post (R, S, E, T, B, I) (nI p) (nI q) (nI s) := by
  have hi : vp_in (nI (4 * p + s)) 64 := vp_in_nI (by omega) (by decide)
  have hj : vp_in (nI (4 * q + s)) 64 := vp_in_nI (by omega) (by decide)
  have tp := hT (4 * p + s) (by omega)
  have tq := hT (4 * q + s) (by omega)
  have bp := ps_Tb h (4 * p + s)
  have bq := ps_Tb h (4 * q + s)
  have cp := ps_Bb h (4 * p + s)
  have cq := ps_Bb h (4 * q + s)
  have b1 : (ps_T R S (4 * p + s) * ps_B R S (4 * q + s)).natAbs < 9223372036854775808 := Nat.lt_of_le_of_lt (ps_pb bp cq) (by decide)
  have b2 : (ps_T R S (4 * q + s) * ps_B R S (4 * p + s)).natAbs < 9223372036854775808 := Nat.lt_of_le_of_lt (ps_pb bq cp) (by decide)
  have hE := ps_scE h p q hs
  have hL := ps_scL h p q hs
  have e1 : (T (nI (4 * p + s)).toNatClampNeg).toInt64 * (B (nI (4 * q + s)).toNatClampNeg).toInt64 = Int64.ofInt (ps_T R S (4 * p + s) * ps_B R S (4 * q + s)) := by
    rw [nI_clamp (by omega), nI_clamp (by omega), tp.1, tq.2, ps_i64 (by omega), ps_i64 (by omega), Int64.ofInt_mul]
  have e2 : (T (nI (4 * q + s)).toNatClampNeg).toInt64 * (B (nI (4 * p + s)).toNatClampNeg).toInt64 = Int64.ofInt (ps_T R S (4 * q + s) * ps_B R S (4 * p + s)) := by
    rw [nI_clamp (by omega), nI_clamp (by omega), tq.1, tp.2, ps_i64 (by omega), ps_i64 (by omega), Int64.ofInt_mul]
  unfold wpX_order
  dsimp only
  refine nm_r (ps_x4 p s) (nm_r (ps_x4 q s) ⟨hi, hj, nm_r e1 ⟨hj, hi, nm_r e2 ?_⟩⟩)
  generalize ps_T R S (4 * p + s) * ps_B R S (4 * q + s) = x at *
  generalize ps_T R S (4 * q + s) * ps_B R S (4 * p + s) = y at *
  unfold ps_ord at hpost
  by_cases c : ps_l R S p q s = ps_l R S q p s
  · rw [if_pos c] at hpost
    exact br_t ((ps_eq64 b1 b2).mpr (hE.mpr c)) hpost
  · rw [if_neg c] at hpost
    refine br_f (fun z => c (hE.mp ((ps_eq64 b1 b2).mp z))) ?_
    by_cases d : ps_l R S p q s < ps_l R S q p s
    · rw [if_pos d] at hpost
      have xy := hL.mpr d
      exact br_f (fun z => absurd ((ps_le64 b2 b1).mp z) (by omega)) hpost
    · rw [if_neg d] at hpost
      have xy : ¬ x < y := fun z => d (hL.mp z)
      exact br_t ((ps_le64 b2 b1).mpr (by omega)) hpost
theorem ps_ord0 (R S : Nat → Int32) (p q s : Nat) : 0 ≤ ps_ord R S p q s ↔ ¬ ps_l R S p q s < ps_l R S q p s := by
  unfold ps_ord
  by_cases c : ps_l R S p q s = ps_l R S q p s
  · rw [if_pos c]
    exact ⟨fun _ => by omega, fun _ => by decide⟩
  · rw [if_neg c]
    by_cases d : ps_l R S p q s < ps_l R S q p s
    · rw [if_pos d]
      exact ⟨fun z => absurd z (by decide), fun z => absurd d z⟩
    · rw [if_neg d]
      exact ⟨fun _ => d, fun _ => by decide⟩
theorem ps_ordN (R S : Nat → Int32) (p q s : Nat) : ps_ord R S q p s ≤ 0 ↔ ¬ ps_l R S p q s < ps_l R S q p s := by
  unfold ps_ord
  by_cases c : ps_l R S q p s = ps_l R S p q s
  · rw [if_pos c]
    exact ⟨fun _ => by omega, fun _ => by decide⟩
  · rw [if_neg c]
    by_cases d : ps_l R S q p s < ps_l R S p q s
    · rw [if_pos d]
      exact ⟨fun z => by omega, fun z => by decide⟩
    · rw [if_neg d]
      exact ⟨fun z => absurd z (by decide), fun z => by omega⟩
theorem ps_xb10 {post : Int32 → Prop} {J : Int32 → Prop} {R S T B : Nat → Int32} (E I : Nat → Int32) (h : ps_st R S) (hT : ps_sol R S 64 T B) {p q : Nat} (hp : p < 16) (hq : q < 16) (h0 : (∃ s, s < 4 ∧ ps_l R S p q s < ps_l R S q p s) → post 0) (hJ : (∀ s, s < 4 → ¬ ps_l R S p q s < ps_l R S q p s) → J (nI (q + 1))) :
    ∀ n s, s ≤ 4 → 4 - s < n → (∀ s', s' < s → ¬ ps_l R S p q s' < ps_l R S q p s') → wX_isNowhereBeaten_10 post J (nI p) (nI q) R S E T B I n (nI s) := by
  intro n
  induction n with
  | zero => intro s _ hn; omega
  | succ n ih =>
    intro s hs hn hl
    by_cases e : s = 4
    · subst e
      exact br_t (nI_le (a := 4) (by decide) (by decide)) (nm_r (nI_1 q) (hJ hl))
    · have hs4 : s < 4 := by omega
      refine br_f (nI_ge (b := 4) hs4 (by decide)) (ps_xord E I h hT hp hq hs4 ?_)
      by_cases c : ps_l R S p q s < ps_l R S q p s
      · exact br_f (fun z => (ps_ord0 R S p q s).mp z c) (h0 ⟨s, hs4, c⟩)
      · exact br_t ((ps_ord0 R S p q s).mpr c) (nm_r (nI_1 s) (ih (s + 1) (by omega) (by omega) (lt_s hl c)))
theorem ps_i1 {R S : Nat → Int32} {p : Nat} (h : ∀ q, q < 16 → ∀ s, s < 4 → ¬ ps_l R S p q s < ps_l R S q p s) : ps_i R S p = 1 := if_pos h
theorem ps_i0 {R S : Nat → Int32} {p q : Nat} (hq : q < 16) (h : ∃ s, s < 4 ∧ ps_l R S p q s < ps_l R S q p s) : ps_i R S p = 0 := if_neg (fun z => by
  obtain ⟨s, hs, c⟩ := h
  exact z q hq s hs c)
theorem ps_xb2 {post : Int32 → Prop} {R S T B : Nat → Int32} (E I : Nat → Int32) (h : ps_st R S) (hT : ps_sol R S 64 T B) {p : Nat} (hp : p < 16) (hpost : post (ps_i R S p)) :
    ∀ n q, q ≤ 16 → 16 - q < n → (∀ q', q' < q → ∀ s, s < 4 → ¬ ps_l R S p q' s < ps_l R S q' p s) → wX_isNowhereBeaten_2 post (nI p) R S E T B I n (nI q) := by
  intro n
  induction n with
  | zero => intro q _ hn; omega
  | succ n ih =>
    intro q hq hn hl
    by_cases e : q = 16
    · subst e
      rw [ps_i1 hl] at hpost
      exact br_t (nI_le (a := 16) (by decide) (by decide)) hpost
    · have hq16 : q < 16 := by omega
      refine br_f (nI_ge (b := 16) hq16 (by decide)) ⟨5, ?_⟩
      exact ps_xb10 E I h hT hp hq16 (fun z => by rw [ps_i0 hq16 z] at hpost; exact hpost) (fun z => ih (q + 1) (by omega) (by omega) (lt_s hl z)) 5 0 (by decide) (by decide) lt_0
theorem ps_xnb {post : Int32 → Prop} {R S T B : Nat → Int32} (E I : Nat → Int32) (h : ps_st R S) (hT : ps_sol R S 64 T B) {p : Nat} (hp : p < 16) (hpost : post (ps_i R S p)) : wpX_isNowhereBeaten post (R, S, E, T, B, I) (nI p) :=
  ⟨17, ps_xb2 E I h hT hp hpost 17 0 (by decide) (by decide) lt_0⟩
theorem ps_i01 (R S : Nat → Int32) (p : Nat) : ps_i R S p = 0 ∨ ps_i R S p = 1 := by
  unfold ps_i
  split
  · exact Or.inr rfl
  · exact Or.inl rfl
theorem ps_vn {r : Int32} (h : r = 0 ∨ r = 1) : vp_nar .boolean r = r := by
  rcases h with rfl | rfl <;> rfl
theorem ps_xa26 {post : SX → Prop} {R S T B : Nat → Int32} (E : Nat → Int32) (h : ps_st R S) (hT : ps_sol R S 64 T B) :
    ∀ n p I, p ≤ 16 → 16 - p < n → (∀ p', p' < p → I p' = ps_i R S p') → (∀ I', (∀ p', p' < 16 → I' p' = ps_i R S p') → post (R, S, E, T, B, I')) → wX_solveAll_26 post n (nI p) R S E T B I := by
  intro n
  induction n with
  | zero => intro p I _ hn; omega
  | succ n ih =>
    intro p I hp hn hI hJ
    by_cases e : p = 16
    · subst e
      exact br_t (nI_le (a := 16) (by decide) (by decide)) (hJ I hI)
    · have hp16 : p < 16 := by omega
      refine br_f (nI_ge (b := 16) hp16 (by decide)) (ps_xnb E I h hT hp16 ?_)
      refine ⟨vp_in_nI hp16 (by decide), nm_r (e' := upd I p (ps_i R S p)) (by rw [nI_clamp (by omega), ps_vn (ps_i01 R S p)]) (nm_r (nI_1 p) ?_)⟩
      refine ih (p + 1) _ (by omega) (by omega) (lt_s (fun p' hp' => ?_) pk_us) hJ
      rw [pk_un (by omega)]
      exact hI p' hp'
theorem ps_xa2 {post : SX → Prop} {R S : Nat → Int32} (I : Nat → Int32) (h : ps_st R S) (hJ : ∀ E' T' B' I', ps_sol R S 64 T' B' → (∀ p', p' < 16 → I' p' = ps_i R S p') → post (R, S, E', T', B', I')) :
    ∀ n p E T B, p ≤ 16 → 16 - p < n → ps_sol R S (4 * p) T B → wX_solveAll_2 post n (nI p) R S E T B I := by
  intro n
  induction n with
  | zero => intro p E T B _ hn; omega
  | succ n ih =>
    intro p E T B hp hn hT
    by_cases e : p = 16
    · subst e
      exact br_t (nI_le (a := 16) (by decide) (by decide)) ⟨17, ps_xa26 E h hT 17 0 I (by decide) (by decide) lt_0 (fun I' hI' => hJ E T B I' hT hI')⟩
    · have hp16 : p < 16 := by omega
      refine br_f (nI_ge (b := 16) hp16 (by decide)) (ps_xwr R S E T B I hp16 (fun E' hE' => ?_))
      exact ps_xse I h hp16 hE' hT (fun T' B' h' => nm_r (nI_1 p) (ih (p + 1) E' T' B' (by omega) (by omega) h'))
theorem ps_xall {post : SX → Prop} {R S : Nat → Int32} (E T B I : Nat → Int32) (h : ps_st R S) (hJ : ∀ E' T' B' I', ps_sol R S 64 T' B' → (∀ p', p' < 16 → I' p' = ps_i R S p') → post (R, S, E', T', B', I')) : wpX_solveAll post (R, S, E, T, B, I) :=
  ⟨17, ps_xa2 I h hJ 17 0 E T B (by decide) (by decide) (fun _ hj => absurd hj (Nat.not_lt_zero _))⟩
end
section
/-! the reference: at, minor, determinant, write, solve, common, order, isBest -/
def ps_yr (R S : Nat → Int32) (p m : Nat) (W : Nat → Int64) : Prop := ∀ s t, s < m → t < 5 → W (5 * s + t) = Int64.ofInt (ps_e R S p s t)
theorem ps_yat {post : Int64 → Prop} (R S : Nat → Int32) (W X Z : Nat → Int64) {f : Nat → Nat → Int} (hW : ∀ s t, s < 4 → t < 5 → W (5 * s + t) = Int64.ofInt (f s t)) {s t c : Nat} (hs : s < 4) (ht : t < 4) (hc : c ≤ 4) (h : post (Int64.ofInt (f s (ps_cc c t)))) : wpY_at post (R, S, W, X, Z) (nI s) (nI t) (nI c) := by
  unfold wpY_at
  dsimp only
  unfold ps_cc at h
  by_cases e : c = t
  · rw [if_pos e] at h
    refine br_t (congrArg nI e.symm) ⟨?_, ?_⟩
    · rw [ps_m5y, ps_a4]
      exact vp_in_nI (by omega) (by decide)
    · rw [ps_m5y, ps_a4, nI_clamp (by omega), hW s 4 hs (by decide)]
      exact h
  · rw [if_neg e] at h
    refine br_f (fun z => e ((nI_eq (by omega) (by omega)).mp z).symm) ⟨?_, ?_⟩
    · rw [ps_m5y, nI_add]
      exact vp_in_nI (by omega) (by decide)
    · rw [ps_m5y, nI_add, nI_clamp (by omega), hW s t hs (by omega)]
      exact h
theorem ps_y32 {post : Int64 → Prop} (R S : Nat → Int32) (W X Z : Nat → Int64) {f : Nat → Nat → Int} (hW : ∀ s t, s < 4 → t < 5 → W (5 * s + t) = Int64.ofInt (f s t)) {a b c k : Nat} (ha : a < 4) (hb : b < 4) (hc : c < 4) (hk : k ≤ 4)
    (h : post (Int64.ofInt (f 1 (ps_cc k a) * (f 2 (ps_cc k b) * f 3 (ps_cc k c) - f 2 (ps_cc k c) * f 3 (ps_cc k b)) - f 1 (ps_cc k b) * (f 2 (ps_cc k a) * f 3 (ps_cc k c) - f 2 (ps_cc k c) * f 3 (ps_cc k a)) + f 1 (ps_cc k c) * (f 2 (ps_cc k a) * f 3 (ps_cc k b) - f 2 (ps_cc k b) * f 3 (ps_cc k a))))) : wY_minor_32 post (nI k) (nI a) (nI b) (nI c) R S W X Z := by
  unfold wY_minor_32
  refine ps_yat R S W X Z hW (s := 2) (t := b) (c := k) (by decide) hb hk ?_
  refine ps_yat R S W X Z hW (s := 3) (t := c) (c := k) (by decide) hc hk ?_
  refine ps_yat R S W X Z hW (s := 2) (t := c) (c := k) (by decide) hc hk ?_
  refine ps_yat R S W X Z hW (s := 3) (t := b) (c := k) (by decide) hb hk (nm_e ?_)
  refine ps_yat R S W X Z hW (s := 2) (t := a) (c := k) (by decide) ha hk ?_
  refine ps_yat R S W X Z hW (s := 3) (t := c) (c := k) (by decide) hc hk ?_
  refine ps_yat R S W X Z hW (s := 2) (t := c) (c := k) (by decide) hc hk ?_
  refine ps_yat R S W X Z hW (s := 3) (t := a) (c := k) (by decide) ha hk (nm_e ?_)
  refine ps_yat R S W X Z hW (s := 2) (t := a) (c := k) (by decide) ha hk ?_
  refine ps_yat R S W X Z hW (s := 3) (t := b) (c := k) (by decide) hb hk ?_
  refine ps_yat R S W X Z hW (s := 2) (t := b) (c := k) (by decide) hb hk ?_
  refine ps_yat R S W X Z hW (s := 3) (t := a) (c := k) (by decide) ha hk (nm_e ?_)
  refine ps_yat R S W X Z hW (s := 1) (t := a) (c := k) (by decide) ha hk ?_
  refine ps_yat R S W X Z hW (s := 1) (t := b) (c := k) (by decide) hb hk ?_
  refine ps_yat R S W X Z hW (s := 1) (t := c) (c := k) (by decide) hc hk ?_
  simp only [Int64.ofInt_add, Int64.ofInt_sub, Int64.ofInt_mul] at h ⊢
  exact h
theorem ps_ym0 {post : Int64 → Prop} {R S : Nat → Int32} {W X Z : Nat → Int64} {k : Int32} (h : wY_minor_32 post k (nI 1) (nI 2) (nI 3) R S W X Z) : wpY_minor post (R, S, W, X, Z) (nI 0) k :=
  br_t (show nI 0 = 0 by decide) (br_f (show ¬ (1 : Int32) < nI 0 by decide) (br_f (show ¬ (2 : Int32) < nI 0 by decide) h))
theorem ps_ym1 {post : Int64 → Prop} {R S : Nat → Int32} {W X Z : Nat → Int64} {k : Int32} (h : wY_minor_32 post k (nI 0) (nI 2) (nI 3) R S W X Z) : wpY_minor post (R, S, W, X, Z) (nI 1) k :=
  br_f (show ¬ nI 1 = 0 by decide) (br_f (show ¬ (1 : Int32) < nI 1 by decide) (br_f (show ¬ (2 : Int32) < nI 1 by decide) h))
theorem ps_ym2 {post : Int64 → Prop} {R S : Nat → Int32} {W X Z : Nat → Int64} {k : Int32} (h : wY_minor_32 post k (nI 0) (nI 1) (nI 3) R S W X Z) : wpY_minor post (R, S, W, X, Z) (nI 2) k :=
  br_f (show ¬ nI 2 = 0 by decide) (br_t (show (1 : Int32) < nI 2 by decide) (br_f (show ¬ (2 : Int32) < nI 2 by decide) h))
theorem ps_ym3 {post : Int64 → Prop} {R S : Nat → Int32} {W X Z : Nat → Int64} {k : Int32} (h : wY_minor_32 post k (nI 0) (nI 1) (nI 2) R S W X Z) : wpY_minor post (R, S, W, X, Z) (nI 3) k :=
  br_f (show ¬ nI 3 = 0 by decide) (br_t (show (1 : Int32) < nI 3 by decide) (br_t (show (2 : Int32) < nI 3 by decide) h))
theorem ps_ydet {post : Int64 → Prop} (R S : Nat → Int32) (W X Z : Nat → Int64) {f : Nat → Nat → Int} (hW : ∀ s t, s < 4 → t < 5 → W (5 * s + t) = Int64.ofInt (f s t)) {k : Nat} (hk : k ≤ 4) {D : Int}
    (hD : D = ps_d4 (f 0 (ps_cc k 0)) (f 0 (ps_cc k 1)) (f 0 (ps_cc k 2)) (f 0 (ps_cc k 3)) (f 1 (ps_cc k 0)) (f 1 (ps_cc k 1)) (f 1 (ps_cc k 2)) (f 1 (ps_cc k 3)) (f 2 (ps_cc k 0)) (f 2 (ps_cc k 1)) (f 2 (ps_cc k 2)) (f 2 (ps_cc k 3)) (f 3 (ps_cc k 0)) (f 3 (ps_cc k 1)) (f 3 (ps_cc k 2)) (f 3 (ps_cc k 3))) (h : post (Int64.ofInt D)) : wpY_determinant post (R, S, W, X, Z) (nI k) := by
  rw [hD, ← ps_lap] at h
  clear hD
  refine ⟨4 + 1, br_f (show ¬ (4 : Int32) ≤ 0 by decide) (ps_yat R S W X Z hW (s := 0) (t := 0) (c := k) (by decide) (by decide) hk (ps_ym0 (ps_y32 R S W X Z hW (by decide) (by decide) (by decide) hk (nm_e ⟨by decide, br_t (by decide) (nm_e (nm_r (e' := nI 1) (by decide) ?_))⟩))))⟩
  refine br_f (show ¬ (4 : Int32) ≤ nI 1 by decide) (ps_yat R S W X Z hW (s := 0) (t := 1) (c := k) (by decide) (by decide) hk (ps_ym1 (ps_y32 R S W X Z hW (by decide) (by decide) (by decide) hk (nm_e ⟨by decide, br_f (by decide) (nm_e (nm_r (e' := nI 2) (by decide) ?_))⟩))))
  refine br_f (show ¬ (4 : Int32) ≤ nI 2 by decide) (ps_yat R S W X Z hW (s := 0) (t := 2) (c := k) (by decide) (by decide) hk (ps_ym2 (ps_y32 R S W X Z hW (by decide) (by decide) (by decide) hk (nm_e ⟨by decide, br_t (by decide) (nm_e (nm_r (e' := nI 3) (by decide) ?_))⟩))))
  refine br_f (show ¬ (4 : Int32) ≤ nI 3 by decide) (ps_yat R S W X Z hW (s := 0) (t := 3) (c := k) (by decide) (by decide) hk (ps_ym3 (ps_y32 R S W X Z hW (by decide) (by decide) (by decide) hk (nm_e ⟨by decide, br_f (by decide) (nm_e (nm_r (e' := nI 4) (by decide) ?_))⟩))))
  refine br_t (show (4 : Int32) ≤ nI 4 by decide) ?_
  simp only [Int64.ofInt_add, Int64.ofInt_sub, Int64.ofInt_mul, Int64.ofInt_neg, show Int64.ofInt 0 = 0 from rfl] at h ⊢
  exact h
theorem ps_yc (x : Int32) (z : Int) (hz : (z - x.toInt).natAbs ≤ 8) : (Int32.ofInt z - x).toInt64 = Int64.ofInt (z - x.toInt) := by
  rw [show Int32.ofInt z - x = Int32.ofInt (z - x.toInt) by rw [Int32.ofInt_sub, Int32.ofInt_toInt], ps_i64 (by omega)]
theorem ps_yrh (x : Int32) : 8 * x.toInt64 = Int64.ofInt (8 * x.toInt) := by
  rw [Int64.ofInt_mul, Int64.ofInt_int32ToInt]
  rfl
theorem ps_yw48 {post : SY → Prop} {J J0 : Int32 → (Nat → Int32) → (Nat → Int32) → (Nat → Int64) → (Nat → Int64) → (Nat → Int64) → Prop} {R S : Nat → Int32} (h : ps_st R S) (W X Z : Nat → Int64) {p s t : Nat} (hs : s < 4) (ht : t < 4)
    (hJ : J (nI (t + 1)) R S (vp_updL W (5 * s + t) (Int64.ofInt (ps_e R S p s t))) X Z) : (nI s = nI t → wY_write_48 post J0 J (nI p) (nI s) (nI (ps_kk p s)) (nI t) 8 (5 * nI s + nI t) R S W X Z) ∧ (¬ nI s = nI t → wY_write_48 post J0 J (nI p) (nI s) (nI (ps_kk p s)) (nI t) 0 (5 * nI s + nI t) R S W X Z) := by
  have hb := ps_eb h p hs ht
  have hk := ps_kk_lt p hs
  have i1 : vp_in (4 * nI (ps_kk p s) + nI t) 32 := by
    rw [ps_y4]
    exact vp_in_nI (by omega) (by decide)
  have x2 : 5 * nI s + nI t = nI (5 * s + t) := by rw [ps_m5y, nI_add]
  have i2 : vp_in (5 * nI s + nI t) 20 := by
    rw [x2]
    exact vp_in_nI (by omega) (by decide)
  rw [nI_eq (by omega) (by omega)]
  unfold ps_e at hb hJ
  rw [if_neg (show ¬ t = 4 by omega)] at hb hJ
  by_cases e : s = t
  · rw [if_pos e] at hb hJ
    refine br_t e ⟨i1, i2, nm_r (e' := vp_updL W (5 * s + t) (Int64.ofInt (8 - (S (4 * ps_kk p s + t)).toInt))) ?_ (nm_r (nI_1 t) hJ)⟩
    rw [x2, ps_y4, nI_clamp (by omega), nI_clamp (by omega)]
    exact congrArg _ (ps_yc _ 8 hb)
  · rw [if_neg e] at hb hJ
    refine br_f e ⟨i1, i2, nm_r (e' := vp_updL W (5 * s + t) (Int64.ofInt (0 - (S (4 * ps_kk p s + t)).toInt))) ?_ (nm_r (nI_1 t) hJ)⟩
    rw [x2, ps_y4, nI_clamp (by omega), nI_clamp (by omega)]
    exact congrArg _ (ps_yc _ 0 hb)
theorem ps_yw20 {post : SY → Prop} {J : Int32 → (Nat → Int32) → (Nat → Int32) → (Nat → Int64) → (Nat → Int64) → (Nat → Int64) → Prop} {R S : Nat → Int32} (h : ps_st R S) (X Z : Nat → Int64) {p s : Nat} (hs : s < 4) (hJ : ∀ W', ps_yr R S p (s + 1) W' → J (nI (s + 1)) R S W' X Z) :
    ∀ n t W, t ≤ 4 → 4 - t < n → ps_yr R S p s W → (∀ t', t' < t → W (5 * s + t') = Int64.ofInt (ps_e R S p s t')) → wY_write_20 post J (nI p) (nI s) (nI (ps_kk p s)) n (nI t) R S W X Z := by
  intro n
  induction n with
  | zero => intro t W _ hn; omega
  | succ n ih =>
    intro t W ht hn hr hc
    have hk := ps_kk_lt p hs
    by_cases e : t = 4
    · subst e
      have x1 : 5 * nI s + 4 = nI (5 * s + 4) := by rw [ps_m5y, ps_a4]
      refine br_t (nI_le (a := 4) (by decide) (by decide)) ⟨vp_in_nI hk (by decide), by rw [x1]; exact vp_in_nI (by omega) (by decide), nm_r (e' := vp_updL W (5 * s + 4) (Int64.ofInt (ps_e R S p s 4))) (by rw [x1, nI_clamp (by omega), nI_clamp (by omega), ps_yrh, ps_e, if_pos rfl]) (nm_r (nI_1 s) (hJ _ ?_))⟩
      intro s' t' hs' ht'
      by_cases e1 : s' = s
      · subst e1
        by_cases e2 : t' = 4
        · subst e2
          rw [pk_uLs]
        · rw [pk_uLn (by omega)]
          exact hc t' (by omega)
      · rw [pk_uLn (by omega)]
        exact hr s' t' (by omega) ht'
    · have ht4 : t < 4 := by omega
      refine br_f (nI_ge (b := 4) ht4 (by decide)) (ps_yw48 h W X Z hs ht4 ?_)
      refine ih (t + 1) _ (by omega) (by omega) (fun s' t' hs' ht' => ?_) (lt_s (fun t' ht' => ?_) pk_uLs)
      · rw [pk_uLn (by omega)]
        exact hr s' t' hs' ht'
      · rw [pk_uLn (by omega)]
        exact hc t' ht'
theorem ps_yw2 {post : SY → Prop} {R S : Nat → Int32} (h : ps_st R S) (X Z : Nat → Int64) {p : Nat} (hp : p < 16) (hJ : ∀ W', ps_yr R S p 4 W' → post (R, S, W', X, Z)) :
    ∀ n s W, s ≤ 4 → 4 - s < n → ps_yr R S p s W → wY_write_2 post (nI p) n (nI s) R S W X Z := by
  intro n
  induction n with
  | zero => intro s W _ hn; omega
  | succ n ih =>
    intro s W hs hn hr
    by_cases e : s = 4
    · subst e
      exact br_t (nI_le (a := 4) (by decide) (by decide)) (hJ W hr)
    · have hs4 : s < 4 := by omega
      have ek : 2 * nI s + (nI p >>> (nI s &&& 31) &&& 1) = nI (ps_kk p s) := by
        rw [ps_bits p hp s hs4, ps_m2y, nI_add]
        rfl
      refine br_f (nI_ge (b := 4) hs4 (by decide)) (nm_r ek ⟨5, ?_⟩)
      exact ps_yw20 h X Z hs4 (fun W' hW' => ih (s + 1) W' (by omega) (by omega) hW') 5 0 W (by decide) (by decide) hr lt_0
def ps_ys (R S : Nat → Int32) (m : Nat) (X Z : Nat → Int64) : Prop := ∀ j, j < m → X j = Int64.ofInt (ps_tJ R S j) ∧ Z j = Int64.ofInt (ps_bJ R S j)
theorem ps_ys22 {post : SY → Prop} {J : Int32 → (Nat → Int32) → (Nat → Int32) → (Nat → Int64) → (Nat → Int64) → (Nat → Int64) → Prop} {R S : Nat → Int32} {W : Nat → Int64} {p : Nat} (hp : p < 16) (hW : ps_yr R S p 4 W) (hJ : ∀ X' Z', ps_ys R S (4 * p + 4) X' Z' → J (nI (p + 1)) R S W X' Z') :
    ∀ n s X Z, s ≤ 4 → 4 - s < n → ps_ys R S (4 * p + s) X Z → wY_solve_22 post J (nI p) (Int64.ofInt (ps_top R S p 4)) n (nI s) R S W X Z := by
  intro n
  induction n with
  | zero => intro s X Z _ hn; omega
  | succ n ih =>
    intro s X Z hs hn hX
    by_cases e : s = 4
    · subst e
      exact br_t (nI_le (a := 4) (by decide) (by decide)) (nm_r (nI_1 p) (hJ X Z hX))
    · have hs4 : s < 4 := by omega
      have i1 : vp_in (4 * nI p + nI s) 64 := by
        rw [ps_y4]
        exact vp_in_nI (by omega) (by decide)
      refine br_f (nI_ge (b := 4) hs4 (by decide)) (ps_ydet R S W X Z hW (k := s) hs (D := ps_top R S p s) rfl ?_)
      refine ⟨i1, nm_r (e' := vp_updL X (4 * p + s) (Int64.ofInt (ps_top R S p s))) (by rw [ps_y4, nI_clamp (by omega)]) ⟨i1, nm_r (e' := vp_updL Z (4 * p + s) (Int64.ofInt (ps_top R S p 4))) (by rw [ps_y4, nI_clamp (by omega)]) (nm_r (nI_1 s) ?_)⟩⟩
      refine ih (s + 1) _ _ (by omega) (by omega) (fun j hj => ?_)
      by_cases e1 : j = 4 * p + s
      · subst e1
        rw [pk_uLs, pk_uLs, ps_jt R S p hs4, ps_jb R S p hs4]
        exact ⟨rfl, rfl⟩
      · rw [pk_uLn e1, pk_uLn e1]
        exact hX j (by omega)
theorem ps_ys2 {post : SY → Prop} {R S : Nat → Int32} (h : ps_st R S) (hJ : ∀ W' X' Z', ps_ys R S 64 X' Z' → post (R, S, W', X', Z')) :
    ∀ n p W X Z, p ≤ 16 → 16 - p < n → ps_ys R S (4 * p) X Z → wY_solve_2 post n (nI p) R S W X Z := by
  intro n
  induction n with
  | zero => intro p W X Z _ hn; omega
  | succ n ih =>
    intro p W X Z hp hn hX
    by_cases e : p = 16
    · subst e
      exact br_t (nI_le (a := 16) (by decide) (by decide)) (hJ W X Z hX)
    · have hp16 : p < 16 := by omega
      refine br_f (nI_ge (b := 16) hp16 (by decide)) ⟨5, ps_yw2 h X Z hp16 (fun W' hW' => ?_) 5 0 W (by decide) (by decide) (fun _ _ hs => absurd hs (Nat.not_lt_zero _))⟩
      refine ps_ydet R S W' X Z hW' (k := 4) (by decide) (D := ps_top R S p 4) rfl ?_
      exact ⟨5, ps_ys22 hp16 hW' (fun X' Z' h' => ih (p + 1) W' X' Z' (by omega) (by omega) h') 5 0 X Z (by decide) (by decide) hX⟩
theorem ps_ysol {post : SY → Prop} {R S : Nat → Int32} (W X Z : Nat → Int64) (h : ps_st R S) (hJ : ∀ W' X' Z', ps_ys R S 64 X' Z' → post (R, S, W', X', Z')) : wpY_solve post (R, S, W, X, Z) :=
  ⟨17, ps_ys2 h hJ 17 0 W X Z (by decide) (by decide) (fun _ hj => absurd hj (Nat.not_lt_zero _))⟩
end
section
/-! the reference: common, order, isBest, the reading calls -/
theorem ps_ycd {post : Int64 → Prop} (R S : Nat → Int32) (W X Z : Nat → Int64) : ∀ m a b i, ps_eu m b a → i + m = 90 → a < 2147483648 → b < 2147483648 → 0 < Nat.gcd b a → post (lN (Nat.gcd b a)) → wY_common_39 post R S W X Z (m + 1) (lN a) (lN b) (nI i) := by
  intro m
  induction m with
  | zero =>
    intro a b i hu hi ha hb hg hp
    have e : a = 0 := hu
    subst e
    rw [Nat.gcd_zero_right] at hp hg
    exact br_t (nI_le (a := 90) (by omega) (by omega)) (br_t ((lN_le (a := 1) (by decide) hb).mpr hg) hp)
  | succ m ih =>
    intro a b i hu hi ha hb hg hp
    have n90 : ¬ (90 : Int32) ≤ nI i := nI_ge (b := 90) (by omega) (by decide)
    by_cases e : a = 0
    · subst e
      exact br_f n90 (br_t rfl (nm_r (nI_1 i) (ih 0 b (i + 1) (ps_eu0 m b) (by omega) ha hb hg hp)))
    · have ha0 : 0 < a := by omega
      have hu' : ps_eu m a (b % a) := hu.resolve_left e
      have hlt : b % a < a := Nat.mod_lt _ ha0
      have n0 : ¬ lN a = 0 := fun z => e ((lN_eq (b := 0) ha (by decide)).mp z)
      have hgs := ps_gs b a
      exact br_f n90 (br_f n0 (br_f n0 ⟨n0, nm_r (pk_lRem (by omega) ha0 (by omega)) (nm_r (nI_1 i) (ih (b % a) a (i + 1) hu' (by omega) (by omega) ha (by rw [hgs]; exact hg) (by rw [hgs]; exact hp)))⟩))
theorem ps_ycom {post : Int64 → Prop} {R S : Nat → Int32} (W : Nat → Int64) {X Z : Nat → Int64} (h : ps_st R S) (hX : ps_ys R S 64 X Z) {j : Nat} (hj : j < 64) (hp : post (lN (ps_g R S j))) : wpY_common post (R, S, W, X, Z) (nI j) := by
  have hi : vp_in (nI j) 64 := vp_in_nI hj (by decide)
  have ht := ps_tJb h j
  have hb := ps_bJb h j
  have hg := (ps_gp h j).1
  have eg : Nat.gcd (ps_bJ R S j).natAbs (ps_tJ R S j).natAbs = ps_g R S j := Nat.gcd_comm _ _
  have hx := hX j hj
  have ec : (nI j).toNatClampNeg = j := nI_clamp (by omega)
  have eb : Z (nI j).toNatClampNeg = lN (ps_bJ R S j).natAbs := by
    rw [ec, hx.2, ← ps_lN]
    congr 1
    omega
  have key := ps_ycd (post := post) R S W X Z 90 (ps_tJ R S j).natAbs (ps_bJ R S j).natAbs 0 (ps_eum 42 90 _ _ (ps_eul 21 _ _ (Nat.lt_of_le_of_lt ht (by decide))) (by decide)) (by decide) (by omega) (by omega) (by rw [eg]; exact hg) (by rw [eg]; exact hp)
  unfold wpY_common
  dsimp only
  rw [ec, hx.1]
  by_cases h0 : 0 ≤ ps_tJ R S j
  · have e : Int64.ofInt (ps_tJ R S j) = lN (ps_tJ R S j).natAbs := by
      rw [← ps_lN]
      congr 1
      omega
    refine ⟨hi, br_t ((ps_le64 (x := 0) (by decide) (by omega)).mpr h0) ⟨hi, ?_⟩⟩
    rw [e]
    exact ⟨hi, nm_r eb ⟨_, key⟩⟩
  · have e : -Int64.ofInt (ps_tJ R S j) = lN (ps_tJ R S j).natAbs := by
      rw [← ps_lN, ← Int64.ofInt_neg]
      congr 1
      omega
    refine ⟨hi, br_f (fun z => h0 ((ps_le64 (x := 0) (by decide) (by omega)).mp z)) ⟨hi, ?_⟩⟩
    rw [e]
    exact ⟨hi, nm_r eb ⟨_, key⟩⟩
theorem ps_yord {post : Int32 → Prop} {R S : Nat → Int32} (W : Nat → Int64) {X Z : Nat → Int64} (h : ps_st R S) (hX : ps_ys R S 64 X Z) {p q s : Nat} (hp : p < 16) (hq : q < 16) (hs : s < 4) (hpost : post (ps_ord R S p q s)) : wpY_order post (R, S, W, X, Z) (nI p) (nI q) (nI s) := by
  have hi : vp_in (nI (4 * p + s)) 64 := vp_in_nI (by omega) (by decide)
  have hj : vp_in (nI (4 * q + s)) 64 := vp_in_nI (by omega) (by decide)
  have tp := hX (4 * p + s) (by omega)
  have tq := hX (4 * q + s) (by omega)
  rw [ps_jt R S p hs, ps_jb R S p hs] at tp
  rw [ps_jt R S q hs, ps_jb R S q hs] at tq
  have cp := ps_bot_b h p
  have cq := ps_bot_b h q
  have b1 : (ps_l R S p q s).natAbs < 9223372036854775808 := Nat.lt_of_le_of_lt (ps_pb (b := 98304) (ps_top_b h p hs) (by omega)) (by decide)
  have b2 : (ps_l R S q p s).natAbs < 9223372036854775808 := Nat.lt_of_le_of_lt (ps_pb (b := 98304) (ps_top_b h q hs) (by omega)) (by decide)
  unfold wpY_order
  dsimp only
  rw [ps_y4 p s, ps_y4 q s]
  have e1 : X (nI (4 * p + s)).toNatClampNeg * Z (nI (4 * q + s)).toNatClampNeg = Int64.ofInt (ps_l R S p q s) := by
    rw [nI_clamp (by omega), nI_clamp (by omega), tp.1, tq.2, ← Int64.ofInt_mul]
    rfl
  have e2 : X (nI (4 * q + s)).toNatClampNeg * Z (nI (4 * p + s)).toNatClampNeg = Int64.ofInt (ps_l R S q p s) := by
    rw [nI_clamp (by omega), nI_clamp (by omega), tq.1, tp.2, ← Int64.ofInt_mul]
    rfl
  refine ⟨hi, hj, nm_r e1 ⟨hj, hi, nm_r e2 ?_⟩⟩
  unfold ps_ord at hpost
  generalize ps_l R S p q s = x at *
  generalize ps_l R S q p s = y at *
  by_cases c : x = y
  · rw [if_pos c] at hpost
    exact br_t ((ps_le64 b2 b1).mpr (by omega)) (br_t ((ps_le64 b1 b2).mpr (by omega)) hpost)
  · rw [if_neg c] at hpost
    by_cases d : x < y
    · rw [if_pos d] at hpost
      exact br_f (fun z => absurd ((ps_le64 b2 b1).mp z) (by omega)) hpost
    · rw [if_neg d] at hpost
      exact br_t ((ps_le64 b2 b1).mpr (by omega)) (br_f (fun z => absurd ((ps_le64 b1 b2).mp z) (by omega)) hpost)
theorem ps_yb10 {post : Int32 → Prop} {J : Int32 → Prop} {R S : Nat → Int32} (W : Nat → Int64) {X Z : Nat → Int64} (h : ps_st R S) (hX : ps_ys R S 64 X Z) {p q : Nat} (hp : p < 16) (hq : q < 16) (h0 : (∃ s, s < 4 ∧ ps_l R S p q s < ps_l R S q p s) → post 0) (hJ : (∀ s, s < 4 → ¬ ps_l R S p q s < ps_l R S q p s) → J (nI (q + 1))) :
    ∀ n s, s ≤ 4 → 4 - s < n → (∀ s', s' < s → ¬ ps_l R S p q s' < ps_l R S q p s') → wY_isBest_10 post J (nI p) (nI q) R S W X Z n (nI s) := by
  intro n
  induction n with
  | zero => intro s _ hn; omega
  | succ n ih =>
    intro s hs hn hl
    by_cases e : s = 4
    · subst e
      exact br_t (nI_le (a := 4) (by decide) (by decide)) (nm_r (nI_1 q) (hJ hl))
    · have hs4 : s < 4 := by omega
      refine br_f (nI_ge (b := 4) hs4 (by decide)) (ps_yord W h hX hq hp hs4 ?_)
      by_cases c : ps_l R S p q s < ps_l R S q p s
      · exact br_f (fun z => (ps_ordN R S p q s).mp z c) (h0 ⟨s, hs4, c⟩)
      · exact br_t ((ps_ordN R S p q s).mpr c) (nm_r (nI_1 s) (ih (s + 1) (by omega) (by omega) (lt_s hl c)))
theorem ps_yb2 {post : Int32 → Prop} {R S : Nat → Int32} (W : Nat → Int64) {X Z : Nat → Int64} (h : ps_st R S) (hX : ps_ys R S 64 X Z) {p : Nat} (hp : p < 16) (hpost : post (ps_i R S p)) :
    ∀ n q, q ≤ 16 → 16 - q < n → (∀ q', q' < q → ∀ s, s < 4 → ¬ ps_l R S p q' s < ps_l R S q' p s) → wY_isBest_2 post (nI p) R S W X Z n (nI q) := by
  intro n
  induction n with
  | zero => intro q _ hn; omega
  | succ n ih =>
    intro q hq hn hl
    by_cases e : q = 16
    · subst e
      rw [ps_i1 hl] at hpost
      exact br_t (nI_le (a := 16) (by decide) (by decide)) hpost
    · have hq16 : q < 16 := by omega
      refine br_f (nI_ge (b := 16) hq16 (by decide)) ⟨5, ?_⟩
      exact ps_yb10 W h hX hp hq16 (fun z => by rw [ps_i0 hq16 z] at hpost; exact hpost) (fun z => ih (q + 1) (by omega) (by omega) (lt_s hl z)) 5 0 (by decide) (by decide) lt_0
theorem ps_ynb {post : Int32 → Prop} {R S : Nat → Int32} (W : Nat → Int64) {X Z : Nat → Int64} (h : ps_st R S) (hX : ps_ys R S 64 X Z) {p : Nat} (hp : p < 16) (hpost : post (ps_i R S p)) : wpY_isBest post (R, S, W, X, Z) (nI p) :=
  ⟨17, ps_yb2 W h hX hp hpost 17 0 (by decide) (by decide) lt_0⟩
theorem ps_yf6 {post : Int32 → SY → Prop} {R S : Nat → Int32} (W : Nat → Int64) {X Z : Nat → Int64} (h : ps_st R S) (hX : ps_ys R S 64 X Z) : ∀ d i, i + d = 16 → post (nI (ps_fb (ps_i R S) d i)) (R, S, W, X, Z) → wY_firstBest_6 post R S W X Z (d + 1) (nI i) := by
  intro d
  induction d with
  | zero =>
    intro i hi hp
    exact br_t (nI_le (a := 16) (by omega) (by omega)) hp
  | succ d ih =>
    intro i hi hp
    have hi16 : i < 16 := by omega
    refine br_f (nI_ge (b := 16) hi16 (by decide)) (ps_ynb W h hX hi16 ?_)
    have hp' : post (nI (if ps_i R S i = 0 then ps_fb (ps_i R S) d (i + 1) else i)) (R, S, W, X, Z) := hp
    by_cases e : ps_i R S i = 0
    · rw [if_pos e] at hp'
      exact br_t e (nm_r (nI_1 i) (ih (i + 1) (by omega) hp'))
    · rw [if_neg e] at hp'
      exact br_f e hp'
theorem ps_yfb {post : Int32 → SY → Prop} {R S : Nat → Int32} (W X Z : Nat → Int64) (h : ps_st R S) (hJ : ∀ W' X' Z', post (nI (ps_fb (ps_i R S) 16 0)) (R, S, W', X', Z')) : wpY_firstBest post (R, S, W, X, Z) :=
  ps_ysol W X Z h (fun W' X' Z' hX => ⟨17, ps_yf6 W' h hX 16 0 rfl (hJ W' X' Z')⟩)
theorem ps_yp8 {post : Int32 → SY → Prop} {R S : Nat → Int32} (W : Nat → Int64) {X Z : Nat → Int64} (h : ps_st R S) (hX : ps_ys R S 64 X Z) (hp : post (nI (ps_cnt (ps_i R S) 16)) (R, S, W, X, Z)) : ∀ d i, i + d = 16 → wY_policies_8 post R S W X Z (d + 1) (nI (ps_cnt (ps_i R S) i)) (nI i) := by
  intro d
  induction d with
  | zero =>
    intro i hi
    have e : i = 16 := by omega
    subst e
    exact br_t (nI_le (a := 16) (by omega) (by omega)) hp
  | succ d ih =>
    intro i hi
    have hi16 : i < 16 := by omega
    refine br_f (nI_ge (b := 16) hi16 (by decide)) (ps_ynb W h hX hi16 ?_)
    have ih' := ih (i + 1) (by omega)
    have ec : ps_cnt (ps_i R S) (i + 1) = if ps_i R S i = 0 then ps_cnt (ps_i R S) i else ps_cnt (ps_i R S) i + 1 := rfl
    by_cases e : ps_i R S i = 0
    · rw [ec, if_pos e] at ih'
      exact br_t e (nm_r (nI_1 i) ih')
    · rw [ec, if_neg e] at ih'
      exact br_f e (nm_r (nI_1 _) (nm_r (nI_1 i) ih'))
theorem ps_ypc {post : Int32 → SY → Prop} {R S : Nat → Int32} (W X Z : Nat → Int64) (h : ps_st R S) (hJ : ∀ W' X' Z', post (nI (ps_cnt (ps_i R S) 16)) (R, S, W', X', Z')) : wpY_policies post (R, S, W, X, Z) :=
  ps_ysol W X Z h (fun W' X' Z' hX => ⟨17, ps_yp8 W' h hX (hJ W' X' Z') 16 0 rfl⟩)
/-! the checks of the arguments -/
theorem ps_lts {x : Int32} (n : Nat) (hn : n + 1 < 2 ^ 31) (h : nI (n + 1) ≤ x) : nI n < x := by
  rw [Int32.le_iff_toInt_le, nI_toInt hn] at h
  rw [Int32.lt_iff_toInt_lt, nI_toInt (by omega)]
  omega
theorem ps_xip {post : Int32 → Prop} {p : Nat} (hp : p < 16) (h : post 1) : wpX_isPolicy post (nI p) := br_f (nI_pos (by omega)) (br_f (nI_ge (b := 16) hp (by decide)) h)
theorem ps_xip0 {post : Int32 → Prop} {x : Int32} (hx : x < 0 ∨ nI 16 ≤ x) (h : post 0) : wpX_isPolicy post x := by
  by_cases c : x < 0
  · exact br_t c h
  · exact br_f c (br_t (hx.resolve_left c) h)
theorem ps_yip {post : Int32 → Prop} (R S : Nat → Int32) (W X Z : Nat → Int64) {p : Nat} (hp : p < 16) (h : post 1) : wpY_isPolicy post (R, S, W, X, Z) (nI p) := br_f (nI_pos (by omega)) (br_f (nI_nlt (a := 15) (by omega) (by decide)) h)
theorem ps_yip0 {post : Int32 → Prop} (R S : Nat → Int32) (W X Z : Nat → Int64) {x : Int32} (hx : x < 0 ∨ nI 16 ≤ x) (h : post 0) : wpY_isPolicy post (R, S, W, X, Z) x := by
  by_cases c : x < 0
  · exact br_t c h
  · exact br_f c (br_t (ps_lts 15 (by decide) (hx.resolve_left c)) h)
theorem ps_xis {post : Int32 → Prop} {s : Nat} (hs : s < 4) (h : post 1) : wpX_isState post (nI s) := br_f (nI_pos (by omega)) (br_f (nI_ge (b := 4) hs (by decide)) h)
theorem ps_xis0 {post : Int32 → Prop} {x : Int32} (hx : x < 0 ∨ nI 4 ≤ x) (h : post 0) : wpX_isState post x := by
  by_cases c : x < 0
  · exact br_t c h
  · exact br_f c (br_t (hx.resolve_left c) h)
theorem ps_yis {post : Int32 → Prop} (R S : Nat → Int32) (W X Z : Nat → Int64) {s : Nat} (hs : s < 4) (h : post 1) : wpY_isState post (R, S, W, X, Z) (nI s) := br_f (nI_pos (by omega)) (br_f (nI_nlt (a := 3) (by omega) (by decide)) h)
theorem ps_yis0 {post : Int32 → Prop} (R S : Nat → Int32) (W X Z : Nat → Int64) {x : Int32} (hx : x < 0 ∨ nI 4 ≤ x) (h : post 0) : wpY_isState post (R, S, W, X, Z) x := by
  by_cases c : x < 0
  · exact br_t c h
  · exact br_f c (br_t (ps_lts 3 (by decide) (hx.resolve_left c)) h)
theorem ps_xic {post : Int32 → Prop} {s a : Nat} (hs : s < 4) (ha : a < 2) (h : post 1) : wpX_isChoice post (nI s) (nI a) := br_f (nI_pos (by omega)) (br_f (nI_ge (b := 4) hs (by decide)) (br_f (nI_pos (by omega)) (br_f (nI_ge (b := 2) ha (by decide)) h)))
theorem ps_xic0 {post : Int32 → Prop} {x y : Int32} (hx : (x < 0 ∨ nI 4 ≤ x) ∨ (y < 0 ∨ nI 2 ≤ y)) (h : post 0) : wpX_isChoice post x y := by
  by_cases c : x < 0
  · exact br_t c h
  · refine br_f c ?_
    by_cases d : nI 4 ≤ x
    · exact br_t d h
    · refine br_f d ?_
      by_cases e : y < 0
      · exact br_t e h
      · exact br_f e (br_t ((hx.resolve_left (fun z => z.elim c d)).resolve_left e) h)
theorem ps_yic {post : Int32 → Prop} (R S : Nat → Int32) (W X Z : Nat → Int64) {s a : Nat} (hs : s < 4) (ha : a < 2) (h : post 1) : wpY_isAction post (R, S, W, X, Z) (nI s) (nI a) := br_f (nI_pos (by omega)) (br_f (nI_nlt (a := 3) (by omega) (by decide)) (br_f (nI_pos (by omega)) (br_f (nI_nlt (a := 1) (by omega) (by decide)) h)))
theorem ps_yic0 {post : Int32 → Prop} (R S : Nat → Int32) (W X Z : Nat → Int64) {x y : Int32} (hx : (x < 0 ∨ nI 4 ≤ x) ∨ (y < 0 ∨ nI 2 ≤ y)) (h : post 0) : wpY_isAction post (R, S, W, X, Z) x y := by
  by_cases c : x < 0
  · exact br_t c h
  · refine br_f c ?_
    by_cases d : nI 4 ≤ x
    · exact br_t (ps_lts 3 (by decide) d) h
    · have d' : ¬ (3 : Int32) < x := by
        obtain ⟨j, hj, rfl⟩ := nI_of c
        have hl : j < 4 := Nat.not_le.mp fun q => d (nI_le q hj)
        exact nI_nlt (a := 3) (by omega) (by decide)
      refine br_f d' ?_
      by_cases e : y < 0
      · exact br_t e h
      · exact br_f e (br_t (ps_lts 1 (by decide) ((hx.resolve_left (fun z => z.elim c d)).resolve_left e)) h)
/-! the values and the named actions, as the reference answers them -/
theorem ps_yvt {post : Int32 → SY → Prop} {R S : Nat → Int32} (W X Z : Nat → Int64) (h : ps_st R S) {p s : Nat} (hp : p < 16) (hs : s < 4) (hJ : ∀ W' X' Z', post (Int32.ofInt (ps_T R S (4 * p + s))) (R, S, W', X', Z')) : wpY_valueTop post (R, S, W, X, Z) (nI p) (nI s) := by
  unfold wpY_valueTop
  dsimp only
  refine ps_yip R S W X Z hp (br_f (by decide) (ps_yis R S W X Z hs (br_f (by decide) (ps_ysol W X Z h (fun W' X' Z' hX => ?_)))))
  dsimp only
  rw [ps_y4]
  have hg := ps_gp h (4 * p + s)
  have ht := ps_tJb h (4 * p + s)
  refine ps_ycom W' h hX (by omega) ⟨vp_in_nI (by omega) (by decide), fun z => ?_, ?_⟩
  · have := (lN_eq (a := ps_g R S (4 * p + s)) (b := 0) (by omega) (by decide)).mp z
    omega
  · rw [nI_clamp (by omega), (hX (4 * p + s) (by omega)).1, ← ps_lN, ps_div64 (by omega) (by omega), Int64.toInt32_ofInt]
    exact hJ W' X' Z'
theorem ps_yvb {post : Int32 → SY → Prop} {R S : Nat → Int32} (W X Z : Nat → Int64) (h : ps_st R S) {p s : Nat} (hp : p < 16) (hs : s < 4) (hJ : ∀ W' X' Z', post (Int32.ofInt (ps_B R S (4 * p + s))) (R, S, W', X', Z')) : wpY_valueBottom post (R, S, W, X, Z) (nI p) (nI s) := by
  unfold wpY_valueBottom
  dsimp only
  refine ps_yip R S W X Z hp (br_f (by decide) (ps_yis R S W X Z hs (br_f (by decide) (ps_ysol W X Z h (fun W' X' Z' hX => ?_)))))
  dsimp only
  rw [ps_y4]
  have hg := ps_gp h (4 * p + s)
  have ht := ps_bJb h (4 * p + s)
  refine ps_ycom W' h hX (by omega) ⟨vp_in_nI (by omega) (by decide), fun z => ?_, ?_⟩
  · have := (lN_eq (a := ps_g R S (4 * p + s)) (b := 0) (by omega) (by decide)).mp z
    omega
  · rw [nI_clamp (by omega), (hX (4 * p + s) (by omega)).2, ← ps_lN, ps_div64 (by omega) (by omega), Int64.toInt32_ofInt]
    exact hJ W' X' Z'
theorem ps_nm1 {J : Nat → Int32} {s a : Nat} (p : Nat) (hp : p < 16) (h : ¬ J p = 0) (e : p / 2 ^ s % 2 = a) : ps_nm J s a = 1 := if_pos ⟨p, hp, h, e⟩
theorem ps_nm0 {J : Nat → Int32} {s a : Nat} (h : ∀ p, p < 16 → ¬ (¬ J p = 0 ∧ p / 2 ^ s % 2 = a)) : ps_nm J s a = 0 := if_neg (fun z => by
  obtain ⟨p, hp, hh⟩ := z
  exact h p hp hh)
theorem ps_nm01 (J : Nat → Int32) (s a : Nat) : ps_nm J s a = 0 ∨ ps_nm J s a = 1 := by
  unfold ps_nm
  split
  · exact Or.inr rfl
  · exact Or.inl rfl
theorem ps_yg17 {post : Int32 → SY → Prop} {R S : Nat → Int32} (W : Nat → Int64) {X Z : Nat → Int64} (h : ps_st R S) (hX : ps_ys R S 64 X Z) {s a : Nat} (hs : s < 4) (ha : a < 2) (hp : post (ps_nm (ps_i R S) s a) (R, S, W, X, Z)) :
    ∀ d i, i + d = 16 → (∀ p, p < i → ¬ (¬ ps_i R S p = 0 ∧ p / 2 ^ s % 2 = a)) → wY_good_17 post (nI s) (nI a) R S W X Z (d + 1) (nI i) := by
  intro d
  induction d with
  | zero =>
    intro i hi hl
    have e : i = 16 := by omega
    subst e
    rw [ps_nm0 hl] at hp
    exact br_t (nI_le (a := 16) (by omega) (by omega)) hp
  | succ d ih =>
    intro i hi hl
    have hi16 : i < 16 := by omega
    have eb := ps_bits i hi16 s hs
    have hm := Nat.mod_lt (i / 2 ^ s) (show 2 > 0 by decide)
    refine br_f (nI_ge (b := 16) hi16 (by decide)) ?_
    rw [eb]
    by_cases e : i / 2 ^ s % 2 = a
    · refine br_t (congrArg nI e) (ps_ynb W h hX hi16 ?_)
      by_cases g : ps_i R S i = 0
      · exact br_t g (nm_r (nI_1 i) (ih (i + 1) (by omega) (lt_s hl (fun z => z.1 g))))
      · rw [ps_nm1 i hi16 g e] at hp
        exact br_f g hp
    · exact br_f (fun z => e ((nI_eq (by omega) (by omega)).mp z)) (nm_r (nI_1 i) (ih (i + 1) (by omega) (lt_s hl (fun z => e z.2))))
theorem ps_ygd {post : Int32 → SY → Prop} {R S : Nat → Int32} (W X Z : Nat → Int64) (h : ps_st R S) {s a : Nat} (hs : s < 4) (ha : a < 2) (hJ : ∀ W' X' Z', post (ps_nm (ps_i R S) s a) (R, S, W', X', Z')) : wpY_good post (R, S, W, X, Z) (nI s) (nI a) := by
  unfold wpY_good
  dsimp only
  exact ps_yic R S W X Z hs ha (br_f (by decide) (ps_ysol W X Z h (fun W' X' Z' hX => ⟨17, ps_yg17 W' h hX hs ha (hJ W' X' Z') 16 0 rfl lt_0⟩)))
end
section
/-! the class: scans over the marks, share codes; both sides: copies and prune -/
theorem ps_xf2 {post : Int32 → Prop} (R S E T B : Nat → Int32) {I J : Nat → Int32} (hI : ∀ p, p < 16 → I p = J p) : ∀ d i, i + d = 16 → post (nI (ps_fb J d i)) → wX_smallestBest_2 post R S E T B I (d + 1) (nI i) := by
  intro d
  induction d with
  | zero =>
    intro i hi hp
    exact br_t (nI_le (a := 16) (by omega) (by omega)) hp
  | succ d ih =>
    intro i hi hp
    have hi16 : i < 16 := by omega
    have ei : I (nI i).toNatClampNeg = J i := by rw [nI_clamp (by omega), hI i hi16]
    have hp' : post (nI (if J i = 0 then ps_fb J d (i + 1) else i)) := hp
    refine br_f (nI_ge (b := 16) hi16 (by decide)) ⟨vp_in_nI hi16 (by decide), ?_⟩
    rw [ei]
    by_cases e : J i = 0
    · rw [if_pos e] at hp'
      exact br_t e (nm_r (nI_1 i) (ih (i + 1) (by omega) hp'))
    · rw [if_neg e] at hp'
      exact br_f e hp'
theorem ps_xsb {post : Int32 → Prop} (R S E T B : Nat → Int32) {I J : Nat → Int32} (hI : ∀ p, p < 16 → I p = J p) (h : post (nI (ps_fb J 16 0))) : wpX_smallestBest post (R, S, E, T, B, I) :=
  ⟨17, ps_xf2 R S E T B hI 16 0 rfl h⟩
theorem ps_xp4 {post : Int32 → Prop} (R S E T B : Nat → Int32) {I J : Nat → Int32} (hI : ∀ p, p < 16 → I p = J p) (hp : post (nI (ps_cnt J 16))) : ∀ d i, i + d = 16 → wX_policies_4 post R S E T B I (d + 1) (nI (ps_cnt J i)) (nI i) := by
  intro d
  induction d with
  | zero =>
    intro i hi
    have e : i = 16 := by omega
    subst e
    exact br_t (nI_le (a := 16) (by omega) (by omega)) hp
  | succ d ih =>
    intro i hi
    have hi16 : i < 16 := by omega
    have ei : I (nI i).toNatClampNeg = J i := by rw [nI_clamp (by omega), hI i hi16]
    have ih' := ih (i + 1) (by omega)
    have ec : ps_cnt J (i + 1) = if J i = 0 then ps_cnt J i else ps_cnt J i + 1 := rfl
    refine br_f (nI_ge (b := 16) hi16 (by decide)) ⟨vp_in_nI hi16 (by decide), ?_⟩
    rw [ei]
    by_cases e : J i = 0
    · rw [ec, if_pos e] at ih'
      exact br_t e (nm_r (nI_1 i) ih')
    · rw [ec, if_neg e] at ih'
      exact br_f e (nm_r (nI_1 _) (nm_r (nI_1 i) ih'))
theorem ps_xn2 {post : Int32 → Prop} (R S E T B : Nat → Int32) {I J : Nat → Int32} (hI : ∀ p, p < 16 → I p = J p) {s a : Nat} (hs : s < 4) (ha : a < 2) (hp : post (ps_nm J s a)) :
    ∀ d i, i + d = 16 → (∀ p, p < i → ¬ (¬ J p = 0 ∧ p / 2 ^ s % 2 = a)) → wX_isNamedByBest_2 post (nI s) (nI a) R S E T B I (d + 1) (nI i) := by
  intro d
  induction d with
  | zero =>
    intro i hi hl
    have e : i = 16 := by omega
    subst e
    rw [ps_nm0 hl] at hp
    exact br_t (nI_le (a := 16) (by omega) (by omega)) hp
  | succ d ih =>
    intro i hi hl
    have hi16 : i < 16 := by omega
    have ei : I (nI i).toNatClampNeg = J i := by rw [nI_clamp (by omega), hI i hi16]
    have eb := ps_bits i hi16 s hs
    have hm := Nat.mod_lt (i / 2 ^ s) (show 2 > 0 by decide)
    refine br_f (nI_ge (b := 16) hi16 (by decide)) ⟨vp_in_nI hi16 (by decide), ?_⟩
    rw [ei]
    by_cases g : J i = 0
    · exact br_t g (nm_r (nI_1 i) (ih (i + 1) (by omega) (lt_s hl (fun z => z.1 g))))
    · refine br_f g ?_
      unfold wpX_actionOf
      rw [eb]
      by_cases e : i / 2 ^ s % 2 = a
      · rw [ps_nm1 i hi16 g e] at hp
        exact br_t (congrArg nI e) hp
      · exact br_f (fun z => e ((nI_eq (by omega) (by omega)).mp z)) (nm_r (nI_1 i) (ih (i + 1) (by omega) (lt_s hl (fun z => e z.2))))
theorem ps_xnm {post : Int32 → Prop} (R S E T B : Nat → Int32) {I J : Nat → Int32} (hI : ∀ p, p < 16 → I p = J p) {s a : Nat} (hs : s < 4) (ha : a < 2) (hp : post (ps_nm J s a)) : wpX_isNamedByBest post (R, S, E, T, B, I) (nI s) (nI a) :=
  ⟨17, ps_xn2 R S E T B hI hs ha hp 16 0 rfl lt_0⟩
theorem ps_xsc {post : Int32 → Prop} {c : Nat} (hc : c < 625) (h1 : c / 125 + c / 25 % 5 + c / 5 % 5 + c % 5 = 4 → post 1) (h0 : ¬ c / 125 + c / 25 % 5 + c / 5 % 5 + c % 5 = 4 → post 0) : wpX_isShareCode post (nI c) := by
  have n5 : ¬ (5 : Int32) = 0 := by decide
  have r5 : ∀ a, a < 625 → nI a - nI a / 5 * 5 = nI (a % 5) := fun a ha => pk_rem (d := 5) (by omega) (by decide) (by decide)
  have d5 : ∀ a, a < 625 → nI a / 5 = nI (a / 5) := fun a ha => pk_div (d := 5) (by omega) (by decide) (by decide)
  have st : ∀ m a, a < 625 → nI m + (nI a - nI a / 5 * 5) = nI (m + a % 5) := fun m a ha => by rw [r5 a ha, nI_add]
  refine br_f (nI_pos (by omega)) (br_t (nI_lt (b := 625) hc (by decide)) ⟨5, ?_⟩)
  refine br_f (show ¬ (4 : Int32) ≤ 0 by decide) ⟨n5, nm_r (st 0 c hc) ⟨n5, nm_r (d5 c hc) (nm_r (e' := nI 1) (by decide) ?_)⟩⟩
  refine br_f (show ¬ (4 : Int32) ≤ nI 1 by decide) ⟨n5, nm_r (st _ (c / 5) (by omega)) ⟨n5, nm_r (d5 (c / 5) (by omega)) (nm_r (e' := nI 2) (by decide) ?_)⟩⟩
  refine br_f (show ¬ (4 : Int32) ≤ nI 2 by decide) ⟨n5, nm_r (st _ (c / 5 / 5) (by omega)) ⟨n5, nm_r (d5 (c / 5 / 5) (by omega)) (nm_r (e' := nI 3) (by decide) ?_)⟩⟩
  refine br_f (show ¬ (4 : Int32) ≤ nI 3 by decide) ⟨n5, nm_r (st _ (c / 5 / 5 / 5) (by omega)) ⟨n5, nm_r (d5 (c / 5 / 5 / 5) (by omega)) (nm_r (e' := nI 4) (by decide) ?_)⟩⟩
  refine br_t (show (4 : Int32) ≤ nI 4 by decide) ?_
  have q1 : c / 5 / 5 / 5 % 5 = c / 125 := by omega
  have q2 : c / 5 / 5 % 5 = c / 25 % 5 := by omega
  have q3 : 0 + c % 5 + c / 5 % 5 + c / 5 / 5 % 5 + c / 5 / 5 / 5 % 5 = c / 125 + c / 25 % 5 + c / 5 % 5 + c % 5 := by
    rw [q1, q2]
    generalize c / 125 = w
    generalize c / 25 % 5 = x
    generalize c / 5 % 5 = y
    generalize c % 5 = z
    omega
  have q4 : c / 125 + c / 25 % 5 + c / 5 % 5 + c % 5 < 100 := by omega
  rw [q3]
  exact pk_eq _ 4 h1 h0
theorem ps_xsw {post : Int32 → SX → Prop} {R S : Nat → Int32} (E T B I : Nat → Int32) {k c : Nat} (hk : k < 8) (hc : c < 625) (h : wpX_solveAll (fun u => post 1 u) (R, ps_w S (4 * k) c, E, T, B, I)) : ∃ n, wX_shares_32 post (nI (4 * k)) n (nI c) 3 R S E T B I := by
  have n5 : ¬ (5 : Int32) = 0 := by decide
  have r5 : ∀ a, a < 625 → nI a - nI a / 5 * 5 = nI (a % 5) := fun a ha => pk_rem (d := 5) (by omega) (by decide) (by decide)
  have d5 : ∀ a, a < 625 → nI a / 5 = nI (a / 5) := fun a ha => pk_div (d := 5) (by omega) (by decide) (by decide)
  have iv : ∀ t, t < 4 → vp_in (nI (4 * k) + nI t) 32 := fun t ht => by
    rw [nI_add]
    exact vp_in_nI (by omega) (by decide)
  have up : ∀ (A : Nat → Int32) t a, t < 4 → a < 625 → upd A (nI (4 * k) + nI t).toNatClampNeg (nI a - nI a / 5 * 5) = upd A (4 * k + t) (nI (a % 5)) := fun A t a ht ha => by
    rw [nI_add, nI_clamp (by omega), r5 a ha]
  refine ⟨5, br_f (show ¬ nI 3 < 0 by decide) ⟨n5, iv 3 (by decide), nm_r (up S 3 c (by decide) hc) ⟨n5, nm_r (d5 c hc) (nm_r (e' := nI 2) (by decide) ?_)⟩⟩⟩
  refine br_f (show ¬ nI 2 < 0 by decide) ⟨n5, iv 2 (by decide), nm_r (up _ 2 (c / 5) (by decide) (by omega)) ⟨n5, nm_r (d5 (c / 5) (by omega)) (nm_r (e' := nI 1) (by decide) ?_)⟩⟩
  refine br_f (show ¬ nI 1 < 0 by decide) ⟨n5, iv 1 (by decide), nm_r (up _ 1 (c / 5 / 5) (by decide) (by omega)) ⟨n5, nm_r (d5 (c / 5 / 5) (by omega)) (nm_r (e' := nI 0) (by decide) ?_)⟩⟩
  refine br_f (show ¬ nI 0 < 0 by decide) ⟨n5, iv 0 (by decide), nm_r (up _ 0 (c / 5 / 5 / 5) (by decide) (by omega)) ⟨n5, nm_r (d5 (c / 5 / 5 / 5) (by omega)) (nm_r (e' := -1) (by decide) ?_)⟩⟩
  refine br_t (show (-1 : Int32) < 0 by decide) ?_
  have hw : upd (upd (upd (upd S (4 * k + 3) (nI (c % 5))) (4 * k + 2) (nI (c / 5 % 5))) (4 * k + 1) (nI (c / 5 / 5 % 5))) (4 * k + 0) (nI (c / 5 / 5 / 5 % 5)) = ps_w S (4 * k) c := ps_wX S (4 * k) c hc
  rw [hw]
  exact h
/-! copies -/
theorem ps_xc31 {post : SX → Prop} (R E T B I : Nat → Int32) {S : Nat → Int32} {to fr : Nat} (ht : to < 8) (hf : fr < 8) (h : post (R, ps_cS S to fr 4, E, T, B, I)) : ∀ d i, i + d = 4 → wX_copyFromOther_31 post (nI to) (nI fr) (d + 1) (nI i) R (ps_cS S to fr i) E T B I := by
  intro d
  induction d with
  | zero =>
    intro i hi
    have e : i = 4 := by omega
    subst e
    exact br_t (nI_le (a := 4) (by omega) (by omega)) h
  | succ d ih =>
    intro i hi
    have hi4 : i < 4 := by omega
    refine br_f (nI_ge (b := 4) hi4 (by decide)) ⟨by rw [ps_x4]; exact vp_in_nI (by omega) (by decide), by rw [ps_x4]; exact vp_in_nI (by omega) (by decide), nm_r (e' := ps_cS S to fr (i + 1)) ?_ (nm_r (nI_1 i) (ih (i + 1) (by omega)))⟩
    rw [ps_x4, ps_x4, nI_clamp (by omega), nI_clamp (by omega)]
    rfl
theorem ps_xcp {post : SX → Prop} (R S E T B I : Nat → Int32) {s a : Nat} (hs : s < 4) (ha : a < 2) (h : post (upd R (2 * s + a) (R (ps_ot (2 * s + a))), ps_cS S (2 * s + a) (ps_ot (2 * s + a)) 4, E, T, B, I)) : wpX_copyFromOther post (R, S, E, T, B, I) (nI s) (nI a) := by
  have eo : ps_ot (2 * s + a) = 2 * s + 1 - a := by
    unfold ps_ot
    split <;> omega
  rw [eo] at h
  have e1 : nI s * 2 + nI a = nI (2 * s + a) := by rw [ps_m2x, nI_add]
  have e2 : nI s * 2 + 1 - nI a = nI (2 * s + 1 - a) := by rw [ps_m2x, nI_1, pk_sub (by omega)]
  unfold wpX_copyFromOther
  dsimp only
  refine nm_r e1 (nm_r e2 ⟨vp_in_nI (by omega) (by decide), vp_in_nI (by omega) (by decide), nm_r (e' := upd R (2 * s + a) (R (2 * s + 1 - a))) (by rw [nI_clamp (by omega), nI_clamp (by omega)]) ⟨5, ?_⟩⟩)
  exact ps_xc31 _ E T B I (by omega) (by omega) h 4 0 rfl
theorem ps_yc14 {post : SY → Prop} (R : Nat → Int32) (W X Z : Nat → Int64) {S : Nat → Int32} {to fr : Nat} (ht : to < 8) (hf : fr < 8) (h : post (R, ps_cS S to fr 4, W, X, Z)) : ∀ d i, i + d = 4 → wY_copy_14 post (nI fr) (nI to) (d + 1) (nI i) R (ps_cS S to fr i) W X Z := by
  intro d
  induction d with
  | zero =>
    intro i hi
    have e : i = 4 := by omega
    subst e
    exact br_t (nI_le (a := 4) (by omega) (by omega)) h
  | succ d ih =>
    intro i hi
    have hi4 : i < 4 := by omega
    refine br_f (nI_ge (b := 4) hi4 (by decide)) ⟨by rw [ps_y4]; exact vp_in_nI (by omega) (by decide), by rw [ps_y4]; exact vp_in_nI (by omega) (by decide), nm_r (e' := ps_cS S to fr (i + 1)) ?_ (nm_r (nI_1 i) (ih (i + 1) (by omega)))⟩
    rw [ps_y4, ps_y4, nI_clamp (by omega), nI_clamp (by omega)]
    rfl
theorem ps_ycp {post : SY → Prop} (R S : Nat → Int32) (W X Z : Nat → Int64) {to fr : Nat} (ht : to < 8) (hf : fr < 8) (h : post (upd R to (R fr), ps_cS S to fr 4, W, X, Z)) : wpY_copy post (R, S, W, X, Z) (nI fr) (nI to) := by
  unfold wpY_copy
  dsimp only
  refine ⟨vp_in_nI hf (by decide), vp_in_nI ht (by decide), nm_r (e' := upd R to (R fr)) (by rw [nI_clamp (by omega), nI_clamp (by omega)]) ⟨5, ?_⟩⟩
  exact ps_yc14 _ W X Z ht hf h 4 0 rfl
theorem ps_ycq {post : SY → Prop} (R S : Nat → Int32) (W X Z : Nat → Int64) {to fr : Nat} {z : Int32} (hz : z = nI fr) (ht : to < 8) (hf : fr < 8) (h : post (upd R to (R fr), ps_cS S to fr 4, W, X, Z)) : wpY_copy post (R, S, W, X, Z) z (nI to) := by
  subst hz
  exact ps_ycp R S W X Z ht hf h
/-! prune: the class -/
theorem ps_xpr11 {post : Int32 → SX → Prop} {Q : Int32 → Int32 → (Nat → Int32) → (Nat → Int32) → (Nat → Int32) → (Nat → Int32) → (Nat → Int32) → (Nat → Int32) → Prop} (R S E T B : Nat → Int32) {I J : Nat → Int32} (hI : ∀ p, p < 16 → I p = J p) {G : Nat → Int32} (hG : ∀ s a, s < 4 → a < 2 → G (2 * s + a) = ps_nm J s a) {s : Nat} (hs : s < 4)
    (hQ : Q (nI (ps_fold G R S (2 * s + 2)).2.2) (nI (s + 1)) (ps_fold G R S (2 * s + 2)).1 (ps_fold G R S (2 * s + 2)).2.1 E T B I) : ∀ d a, a + d = 2 → wX_prune_11 post Q (nI s) (d + 1) (nI (ps_fold G R S (2 * s + a)).2.2) (nI a) (ps_fold G R S (2 * s + a)).1 (ps_fold G R S (2 * s + a)).2.1 E T B I := by
  intro d
  induction d with
  | zero =>
    intro a hd
    have e : a = 2 := by omega
    subst e
    exact br_t (nI_le (a := 2) (by omega) (by omega)) (nm_r (nI_1 s) hQ)
  | succ d ih =>
    intro a hd
    have ha : a < 2 := by omega
    have ih' := ih (a + 1) (by omega)
    refine br_f (nI_ge (b := 2) ha (by decide)) (ps_xnm _ _ E T B hI hs ha ?_)
    rw [← hG s a hs ha]
    by_cases g : G (2 * s + a) = 0
    · rw [show 2 * s + (a + 1) = (2 * s + a) + 1 by omega, ps_fold_t g] at ih'
      exact br_t g (ps_xcp _ _ E T B I hs ha (nm_r (nI_1 _) (nm_r (nI_1 a) ih')))
    · rw [show 2 * s + (a + 1) = (2 * s + a) + 1 by omega, ps_fold_f g] at ih'
      exact br_f g (nm_r (nI_1 a) ih')
theorem ps_xpr4 {post : Int32 → SX → Prop} (R S E T B : Nat → Int32) {I J : Nat → Int32} (hI : ∀ p, p < 16 → I p = J p) {G : Nat → Int32} (hG : ∀ s a, s < 4 → a < 2 → G (2 * s + a) = ps_nm J s a)
    (h : wpX_solveAll (fun u => post (nI (ps_fold G R S 8).2.2) u) ((ps_fold G R S 8).1, (ps_fold G R S 8).2.1, E, T, B, I)) : ∀ d s, s + d = 4 → wX_prune_4 post (d + 1) (nI (ps_fold G R S (2 * s)).2.2) (nI s) (ps_fold G R S (2 * s)).1 (ps_fold G R S (2 * s)).2.1 E T B I := by
  intro d
  induction d with
  | zero =>
    intro s hd
    have e : s = 4 := by omega
    subst e
    exact br_t (nI_le (a := 4) (by omega) (by omega)) h
  | succ d ih =>
    intro s hd
    have hs : s < 4 := by omega
    refine br_f (nI_ge (b := 4) hs (by decide)) ⟨3, ?_⟩
    exact ps_xpr11 R S E T B hI hG hs (ih (s + 1) (by omega)) 2 0 rfl
/-! prune: the reference -/
theorem ps_ypr39 {post : Int32 → SY → Prop} (R S : Nat → Int32) (W X Z : Nat → Int64) (G : Nat → Int32) (h : post (nI (ps_fold G R S 8).2.2) ((ps_fold G R S 8).1, (ps_fold G R S 8).2.1, W, X, Z)) : ∀ d k, k + d = 8 → wY_prune_39 post (nI (ps_mk G 8)) (d + 1) (nI (ps_fold G R S k).2.2) (nI k) (ps_fold G R S k).1 (ps_fold G R S k).2.1 W X Z := by
  intro d
  induction d with
  | zero =>
    intro k hd
    have e : k = 8 := by omega
    subst e
    exact br_t (nI_le (a := 8) (by omega) (by omega)) h
  | succ d ih =>
    intro k hd
    have hk : k < 8 := by omega
    have n2 : ¬ (2 : Int32) = 0 := by decide
    have ih' := ih (k + 1) (by omega)
    have em : nI k - nI k / 2 * 2 = nI (k % 2) := pk_rem (d := 2) (by omega) (by decide) (by decide)
    refine br_f (nI_ge (b := 8) hk (by decide)) ?_
    rw [ps_sh8 _ (ps_mk_lt G 8 (by decide)) k hk, ps_mk_q G hk]
    by_cases g : G k = 0
    · rw [if_pos g]
      rw [ps_fold_t g] at ih'
      have hb := ps_ot_b hk
      refine br_t rfl ⟨n2, ?_⟩
      rw [em]
      have ot : ps_ot k = if k % 2 = 0 then k + 1 else k - 1 := rfl
      by_cases e2 : k % 2 = 0
      · rw [if_pos e2] at ot
        rw [e2]
        refine br_t rfl ?_
        unfold wY_prune_70
        exact ps_ycq _ _ W X Z (by rw [ot]; exact nI_1 k) hk hb.1 (nm_r (nI_1 _) (nm_r (nI_1 k) ih'))
      · rw [if_neg e2] at ot
        have e3 : k % 2 = 1 := by omega
        rw [e3]
        refine br_f (by decide) ?_
        unfold wY_prune_70
        have e4 : nI k - 1 = nI (ps_ot k) := by
          rw [ot]
          exact pk_sub (b := 1) (by omega)
        exact ps_ycq _ _ W X Z e4 hk hb.1 (nm_r (nI_1 _) (nm_r (nI_1 k) ih'))
    · rw [if_neg g]
      rw [ps_fold_f g] at ih'
      exact br_f (by decide) (nm_r (nI_1 k) ih')
theorem ps_ypr6 {post : Int32 → SY → Prop} {R S : Nat → Int32} (hst : ps_st R S) {G : Nat → Int32} (hG : ∀ s a, s < 4 → a < 2 → G (2 * s + a) = ps_nm (ps_i R S) s a) (h : ∀ W X Z, post (nI (ps_fold G R S 8).2.2) ((ps_fold G R S 8).1, (ps_fold G R S 8).2.1, W, X, Z)) : ∀ d k W X Z, k + d = 8 → wY_prune_6 post 0 (d + 1) (nI (ps_mk G k)) (nI k) R S W X Z := by
  intro d
  induction d with
  | zero =>
    intro k W X Z hd
    have e : k = 8 := by omega
    subst e
    exact br_t (nI_le (a := 8) (by omega) (by omega)) ⟨9, ps_ypr39 R S W X Z G (h W X Z) 8 0 rfl⟩
  | succ d ih =>
    intro k W X Z hd
    have hk : k < 8 := by omega
    have n2 : ¬ (2 : Int32) = 0 := by decide
    have em : nI k - nI k / 2 * 2 = nI (k % 2) := pk_rem (d := 2) (by omega) (by decide) (by decide)
    have ed : nI k / 2 = nI (k / 2) := pk_div (d := 2) (by omega) (by decide) (by decide)
    have hg : G k = ps_nm (ps_i R S) (k / 2) (k % 2) := by
      rw [← hG (k / 2) (k % 2) (by omega) (by omega)]
      congr 1
      omega
    refine br_f (nI_ge (b := 8) hk (by decide)) ⟨n2, n2, ?_⟩
    rw [em, ed]
    refine ps_ygd W X Z hst (by omega) (by omega) (fun W' X' Z' => ?_)
    dsimp only
    rw [← hg]
    have ih' := ih (k + 1) W' X' Z' (by omega)
    have ek : ps_mk G (k + 1) = if G k = 0 then ps_mk G k ||| 2 ^ k else ps_mk G k := rfl
    by_cases g : G k = 0
    · rw [ek, if_pos g] at ih'
      exact br_t g (nm_r (ps_or _ (ps_mk_lt G k (by omega)) k hk) (nm_r (nI_1 k) ih'))
    · rw [ek, if_neg g] at ih'
      exact br_f g (nm_r (nI_1 k) ih')
end
section
/-! each call at its outer name, refused and done -/
theorem ps_rng {x : Int32} {n : Nat} (hn : n < 2 ^ 31) (h : ¬ (x < 0 ∨ nI n ≤ x)) : ∃ j : Nat, j < n ∧ x = nI j := by
  rcases pk_ix x hn with c | c | c
  · exact absurd (Or.inl c) h
  · exact absurd (Or.inr c) h
  · exact c
/-! valueTop, valueBottom, compare -/
theorem ps_xvt0 {post : Int32 → Prop} (R S E T B M : Nat → Int32) {x y : Int32} (hb : (x < 0 ∨ nI 16 ≤ x) ∨ (y < 0 ∨ nI 4 ≤ y)) (h : post (-1000000)) : wpX_valueTop post (R, S, E, T, B, M) x y := by
  unfold wpX_valueTop
  dsimp only
  by_cases c : x < 0 ∨ nI 16 ≤ x
  · exact ps_xip0 c (br_t rfl h)
  · obtain ⟨p, hp, rfl⟩ := ps_rng (by decide) c
    exact ps_xip hp (br_f (by decide) (ps_xis0 (hb.resolve_left c) (br_t rfl h)))
theorem ps_xvb0 {post : Int32 → Prop} (R S E T B M : Nat → Int32) {x y : Int32} (hb : (x < 0 ∨ nI 16 ≤ x) ∨ (y < 0 ∨ nI 4 ≤ y)) (h : post (-1000000)) : wpX_valueBottom post (R, S, E, T, B, M) x y := by
  unfold wpX_valueBottom
  dsimp only
  by_cases c : x < 0 ∨ nI 16 ≤ x
  · exact ps_xip0 c (br_t rfl h)
  · obtain ⟨p, hp, rfl⟩ := ps_rng (by decide) c
    exact ps_xip hp (br_f (by decide) (ps_xis0 (hb.resolve_left c) (br_t rfl h)))
theorem ps_yvt0 {post : Int32 → SY → Prop} (R S : Nat → Int32) (W X Z : Nat → Int64) {x y : Int32} (hb : (x < 0 ∨ nI 16 ≤ x) ∨ (y < 0 ∨ nI 4 ≤ y)) (h : post (-1000000) (R, S, W, X, Z)) : wpY_valueTop post (R, S, W, X, Z) x y := by
  unfold wpY_valueTop
  dsimp only
  by_cases c : x < 0 ∨ nI 16 ≤ x
  · exact ps_yip0 R S W X Z c (br_t rfl h)
  · obtain ⟨p, hp, rfl⟩ := ps_rng (by decide) c
    exact ps_yip R S W X Z hp (br_f (by decide) (ps_yis0 R S W X Z (hb.resolve_left c) (br_t rfl h)))
theorem ps_yvb0 {post : Int32 → SY → Prop} (R S : Nat → Int32) (W X Z : Nat → Int64) {x y : Int32} (hb : (x < 0 ∨ nI 16 ≤ x) ∨ (y < 0 ∨ nI 4 ≤ y)) (h : post (-1000000) (R, S, W, X, Z)) : wpY_valueBottom post (R, S, W, X, Z) x y := by
  unfold wpY_valueBottom
  dsimp only
  by_cases c : x < 0 ∨ nI 16 ≤ x
  · exact ps_yip0 R S W X Z c (br_t rfl h)
  · obtain ⟨p, hp, rfl⟩ := ps_rng (by decide) c
    exact ps_yip R S W X Z hp (br_f (by decide) (ps_yis0 R S W X Z (hb.resolve_left c) (br_t rfl h)))
theorem ps_xvt {post : Int32 → Prop} {R S T B : Nat → Int32} (E M : Nat → Int32) (hT : ps_sol R S 64 T B) {p s : Nat} (hp : p < 16) (hs : s < 4) (h : post (Int32.ofInt (ps_T R S (4 * p + s)))) : wpX_valueTop post (R, S, E, T, B, M) (nI p) (nI s) := by
  unfold wpX_valueTop
  dsimp only
  refine ps_xip hp (br_f (by decide) (ps_xis hs (br_f (by decide) ⟨?_, ?_⟩)))
  · rw [ps_x4]
    exact vp_in_nI (by omega) (by decide)
  · rw [ps_x4, nI_clamp (by omega), (hT (4 * p + s) (by omega)).1]
    exact h
theorem ps_xvb {post : Int32 → Prop} {R S T B : Nat → Int32} (E M : Nat → Int32) (hT : ps_sol R S 64 T B) {p s : Nat} (hp : p < 16) (hs : s < 4) (h : post (Int32.ofInt (ps_B R S (4 * p + s)))) : wpX_valueBottom post (R, S, E, T, B, M) (nI p) (nI s) := by
  unfold wpX_valueBottom
  dsimp only
  refine ps_xip hp (br_f (by decide) (ps_xis hs (br_f (by decide) ⟨?_, ?_⟩)))
  · rw [ps_x4]
    exact vp_in_nI (by omega) (by decide)
  · rw [ps_x4, nI_clamp (by omega), (hT (4 * p + s) (by omega)).2]
    exact h
theorem ps_xcm0 {post : Int32 → Prop} (R S E T B M : Nat → Int32) {x y z : Int32} (hb : (x < 0 ∨ nI 16 ≤ x) ∨ (y < 0 ∨ nI 16 ≤ y) ∨ (z < 0 ∨ nI 4 ≤ z)) (h : post (-2)) : wpX_compare post (R, S, E, T, B, M) x y z := by
  unfold wpX_compare
  dsimp only
  by_cases c : x < 0 ∨ nI 16 ≤ x
  · exact ps_xip0 c (br_t rfl h)
  · obtain ⟨p, hp, rfl⟩ := ps_rng (by decide) c
    refine ps_xip hp (br_f (by decide) ?_)
    by_cases d : y < 0 ∨ nI 16 ≤ y
    · exact ps_xip0 d (br_t rfl h)
    · obtain ⟨q, hq, rfl⟩ := ps_rng (by decide) d
      exact ps_xip hq (br_f (by decide) (ps_xis0 ((hb.resolve_left c).resolve_left d) (br_t rfl h)))
theorem ps_ycm0 {post : Int32 → SY → Prop} (R S : Nat → Int32) (W X Z : Nat → Int64) {x y z : Int32} (hb : (x < 0 ∨ nI 16 ≤ x) ∨ (y < 0 ∨ nI 16 ≤ y) ∨ (z < 0 ∨ nI 4 ≤ z)) (h : post (-2) (R, S, W, X, Z)) : wpY_compare post (R, S, W, X, Z) x y z := by
  unfold wpY_compare
  dsimp only
  by_cases c : x < 0 ∨ nI 16 ≤ x
  · exact ps_yip0 R S W X Z c (br_t rfl h)
  · obtain ⟨p, hp, rfl⟩ := ps_rng (by decide) c
    refine ps_yip R S W X Z hp (br_f (by decide) ?_)
    by_cases d : y < 0 ∨ nI 16 ≤ y
    · exact ps_yip0 R S W X Z d (br_t rfl h)
    · obtain ⟨q, hq, rfl⟩ := ps_rng (by decide) d
      exact ps_yip R S W X Z hq (br_f (by decide) (ps_yis0 R S W X Z ((hb.resolve_left c).resolve_left d) (br_t rfl h)))
theorem ps_xcm {post : Int32 → Prop} {R S T B : Nat → Int32} (E M : Nat → Int32) (hst : ps_st R S) (hT : ps_sol R S 64 T B) {p q s : Nat} (hp : p < 16) (hq : q < 16) (hs : s < 4) (h : post (ps_ord R S p q s)) : wpX_compare post (R, S, E, T, B, M) (nI p) (nI q) (nI s) := by
  unfold wpX_compare
  dsimp only
  exact ps_xip hp (br_f (by decide) (ps_xip hq (br_f (by decide) (ps_xis hs (br_f (by decide) (ps_xord E M hst hT hp hq hs h))))))
theorem ps_ycm {post : Int32 → SY → Prop} {R S : Nat → Int32} (W X Z : Nat → Int64) (hst : ps_st R S) {p q s : Nat} (hp : p < 16) (hq : q < 16) (hs : s < 4) (h : ∀ W' X' Z', post (ps_ord R S p q s) (R, S, W', X', Z')) : wpY_compare post (R, S, W, X, Z) (nI p) (nI q) (nI s) := by
  unfold wpY_compare
  dsimp only
  exact ps_yip R S W X Z hp (br_f (by decide) (ps_yip R S W X Z hq (br_f (by decide) (ps_yis R S W X Z hs (br_f (by decide) (ps_ysol W X Z hst (fun W' X' Z' hX => ps_yord W' hst hX hp hq hs (h W' X' Z'))))))))
/-! bestTop, bestBottom, policy, policies, good -/
theorem ps_xbt {post : Int32 → Prop} {R S T B M : Nat → Int32} (E : Nat → Int32) (hT : ps_sol R S 64 T B) (hM : ∀ p, p < 16 → M p = ps_i R S p) {s : Nat} (hs : s < 4) (h : post (Int32.ofInt (ps_T R S (4 * ps_fb (ps_i R S) 16 0 + s)))) : wpX_bestTop post (R, S, E, T, B, M) (nI s) := by
  have hf := ps_fb_lt (ps_i R S) 16 0 (by decide)
  unfold wpX_bestTop
  dsimp only
  refine ps_xis hs (br_f (by decide) (ps_xsb R S E T B hM ⟨?_, ?_⟩))
  · rw [ps_x4]
    exact vp_in_nI (by omega) (by decide)
  · rw [ps_x4, nI_clamp (by omega), (hT _ (by omega)).1]
    exact h
theorem ps_xbb {post : Int32 → Prop} {R S T B M : Nat → Int32} (E : Nat → Int32) (hT : ps_sol R S 64 T B) (hM : ∀ p, p < 16 → M p = ps_i R S p) {s : Nat} (hs : s < 4) (h : post (Int32.ofInt (ps_B R S (4 * ps_fb (ps_i R S) 16 0 + s)))) : wpX_bestBottom post (R, S, E, T, B, M) (nI s) := by
  have hf := ps_fb_lt (ps_i R S) 16 0 (by decide)
  unfold wpX_bestBottom
  dsimp only
  refine ps_xis hs (br_f (by decide) (ps_xsb R S E T B hM ⟨?_, ?_⟩))
  · rw [ps_x4]
    exact vp_in_nI (by omega) (by decide)
  · rw [ps_x4, nI_clamp (by omega), (hT _ (by omega)).2]
    exact h
theorem ps_ybt {post : Int32 → SY → Prop} {R S : Nat → Int32} (W X Z : Nat → Int64) (hst : ps_st R S) {s : Nat} (hs : s < 4) (h : ∀ W' X' Z', post (Int32.ofInt (ps_T R S (4 * ps_fb (ps_i R S) 16 0 + s))) (R, S, W', X', Z')) : wpY_bestTop post (R, S, W, X, Z) (nI s) := by
  have hf := ps_fb_lt (ps_i R S) 16 0 (by decide)
  unfold wpY_bestTop
  dsimp only
  exact ps_yis R S W X Z hs (br_f (by decide) (ps_yfb W X Z hst (fun W' X' Z' => ps_yvt W' X' Z' hst hf hs (fun W2 X2 Z2 => h W2 X2 Z2))))
theorem ps_ybb {post : Int32 → SY → Prop} {R S : Nat → Int32} (W X Z : Nat → Int64) (hst : ps_st R S) {s : Nat} (hs : s < 4) (h : ∀ W' X' Z', post (Int32.ofInt (ps_B R S (4 * ps_fb (ps_i R S) 16 0 + s))) (R, S, W', X', Z')) : wpY_bestBottom post (R, S, W, X, Z) (nI s) := by
  have hf := ps_fb_lt (ps_i R S) 16 0 (by decide)
  unfold wpY_bestBottom
  dsimp only
  exact ps_yis R S W X Z hs (br_f (by decide) (ps_yfb W X Z hst (fun W' X' Z' => ps_yvb W' X' Z' hst hf hs (fun W2 X2 Z2 => h W2 X2 Z2))))
theorem ps_xbt0 {post : Int32 → Prop} (R S E T B M : Nat → Int32) {x : Int32} (hb : x < 0 ∨ nI 4 ≤ x) (h : post (-1000000)) : wpX_bestTop post (R, S, E, T, B, M) x := by
  unfold wpX_bestTop
  dsimp only
  exact ps_xis0 hb (br_t rfl h)
theorem ps_xbb0 {post : Int32 → Prop} (R S E T B M : Nat → Int32) {x : Int32} (hb : x < 0 ∨ nI 4 ≤ x) (h : post (-1000000)) : wpX_bestBottom post (R, S, E, T, B, M) x := by
  unfold wpX_bestBottom
  dsimp only
  exact ps_xis0 hb (br_t rfl h)
theorem ps_ybt0 {post : Int32 → SY → Prop} (R S : Nat → Int32) (W X Z : Nat → Int64) {x : Int32} (hb : x < 0 ∨ nI 4 ≤ x) (h : post (-1000000) (R, S, W, X, Z)) : wpY_bestTop post (R, S, W, X, Z) x := by
  unfold wpY_bestTop
  dsimp only
  exact ps_yis0 R S W X Z hb (br_t rfl h)
theorem ps_ybb0 {post : Int32 → SY → Prop} (R S : Nat → Int32) (W X Z : Nat → Int64) {x : Int32} (hb : x < 0 ∨ nI 4 ≤ x) (h : post (-1000000) (R, S, W, X, Z)) : wpY_bestBottom post (R, S, W, X, Z) x := by
  unfold wpY_bestBottom
  dsimp only
  exact ps_yis0 R S W X Z hb (br_t rfl h)
theorem ps_xpo {post : Int32 → Prop} {R S M : Nat → Int32} (E T B : Nat → Int32) (hM : ∀ p, p < 16 → M p = ps_i R S p) (h : post (nI (ps_fb (ps_i R S) 16 0))) : wpX_policy post (R, S, E, T, B, M) := by
  unfold wpX_policy
  dsimp only
  exact ps_xsb R S E T B hM h
theorem ps_ypo {post : Int32 → SY → Prop} {R S : Nat → Int32} (W X Z : Nat → Int64) (hst : ps_st R S) (h : ∀ W' X' Z', post (nI (ps_fb (ps_i R S) 16 0)) (R, S, W', X', Z')) : wpY_policy post (R, S, W, X, Z) := by
  unfold wpY_policy
  dsimp only
  exact ps_yfb W X Z hst (fun W' X' Z' => h W' X' Z')
theorem ps_xps {post : Int32 → Prop} {R S M : Nat → Int32} (E T B : Nat → Int32) (hM : ∀ p, p < 16 → M p = ps_i R S p) (h : post (nI (ps_cnt (ps_i R S) 16))) : wpX_policies post (R, S, E, T, B, M) :=
  ⟨17, ps_xp4 R S E T B hM h 16 0 rfl⟩
theorem ps_xgo {post : Int32 → Prop} {R S M : Nat → Int32} (E T B : Nat → Int32) (hM : ∀ p, p < 16 → M p = ps_i R S p) {s a : Nat} (hs : s < 4) (ha : a < 2) (h : post (ps_nm (ps_i R S) s a)) : wpX_good post (R, S, E, T, B, M) (nI s) (nI a) := by
  unfold wpX_good
  dsimp only
  refine ps_xic hs ha (br_f (by decide) (ps_xnm R S E T B hM hs ha ?_))
  rcases ps_nm01 (ps_i R S) s a with e | e
  · rw [e] at h ⊢
    exact br_t rfl h
  · rw [e] at h ⊢
    exact br_f (by decide) h
theorem ps_xgo0 {post : Int32 → Prop} (R S E T B M : Nat → Int32) {x y : Int32} (hb : (x < 0 ∨ nI 4 ≤ x) ∨ (y < 0 ∨ nI 2 ≤ y)) (h : post 0) : wpX_good post (R, S, E, T, B, M) x y := by
  unfold wpX_good
  dsimp only
  exact ps_xic0 hb (br_t rfl h)
theorem ps_ygo0 {post : Int32 → SY → Prop} (R S : Nat → Int32) (W X Z : Nat → Int64) {x y : Int32} (hb : (x < 0 ∨ nI 4 ≤ x) ∨ (y < 0 ∨ nI 2 ≤ y)) (h : post 0 (R, S, W, X, Z)) : wpY_good post (R, S, W, X, Z) x y := by
  unfold wpY_good
  dsimp only
  exact ps_yic0 R S W X Z hb (br_t rfl h)
/-! reward -/
theorem ps_xrw0 {post : Int32 → SX → Prop} (R S E T B M : Nat → Int32) {x y z : Int32} (hb : ((x < 0 ∨ nI 4 ≤ x) ∨ (y < 0 ∨ nI 2 ≤ y)) ∨ (z < -20 ∨ ¬ z ≤ 20)) (h : post 0 (R, S, E, T, B, M)) : wpX_reward post (R, S, E, T, B, M) x y z := by
  unfold wpX_reward
  dsimp only
  by_cases c : (x < 0 ∨ nI 4 ≤ x) ∨ (y < 0 ∨ nI 2 ≤ y)
  · exact ps_xic0 c (br_t rfl h)
  · obtain ⟨s, hs, rfl⟩ := ps_rng (n := 4) (by decide) (fun q => c (Or.inl q))
    obtain ⟨a, ha, rfl⟩ := ps_rng (n := 2) (by decide) (fun q => c (Or.inr q))
    refine ps_xic hs ha (br_f (by decide) ?_)
    by_cases d : z < -20
    · exact br_t d h
    · exact br_f d (br_f ((hb.resolve_left c).resolve_left d) h)
theorem ps_yrw0 {post : Int32 → SY → Prop} (R S : Nat → Int32) (W X Z : Nat → Int64) {x y z : Int32} (hb : ((x < 0 ∨ nI 4 ≤ x) ∨ (y < 0 ∨ nI 2 ≤ y)) ∨ (z < -20 ∨ ¬ z ≤ 20)) (h : post 0 (R, S, W, X, Z)) : wpY_reward post (R, S, W, X, Z) x y z := by
  unfold wpY_reward
  dsimp only
  by_cases c : (x < 0 ∨ nI 4 ≤ x) ∨ (y < 0 ∨ nI 2 ≤ y)
  · exact ps_yic0 R S W X Z c (br_t rfl h)
  · obtain ⟨s, hs, rfl⟩ := ps_rng (n := 4) (by decide) (fun q => c (Or.inl q))
    obtain ⟨a, ha, rfl⟩ := ps_rng (n := 2) (by decide) (fun q => c (Or.inr q))
    refine ps_yic R S W X Z hs ha (br_f (by decide) ?_)
    by_cases d : z < -20
    · exact br_t d h
    · exact br_f d (br_f ((hb.resolve_left c).resolve_left d) h)
theorem ps_xrw {post : Int32 → SX → Prop} {R S : Nat → Int32} (E T B M : Nat → Int32) {s a : Nat} {z : Int32} (hst : ps_st (upd R (2 * s + a) z) S) (hs : s < 4) (ha : a < 2) (h1 : ¬ z < -20) (h2 : z ≤ 20) (hJ : ∀ E' T' B' M', ps_sol (upd R (2 * s + a) z) S 64 T' B' → (∀ p', p' < 16 → M' p' = ps_i (upd R (2 * s + a) z) S p') → post 1 (upd R (2 * s + a) z, S, E', T', B', M')) : wpX_reward post (R, S, E, T, B, M) (nI s) (nI a) z := by
  have e1 : nI s * 2 + nI a = nI (2 * s + a) := by rw [ps_m2x, nI_add]
  unfold wpX_reward
  dsimp only
  refine ps_xic hs ha (br_f (by decide) (br_f h1 (br_t h2 ⟨?_, nm_r (e' := upd R (2 * s + a) z) ?_ ?_⟩)))
  · rw [e1]
    exact vp_in_nI (by omega) (by decide)
  · rw [e1, nI_clamp (by omega)]
  · exact ps_xall E T B M hst hJ
theorem ps_yrw {post : Int32 → SY → Prop} (R S : Nat → Int32) (W X Z : Nat → Int64) {s a : Nat} {z : Int32} (hs : s < 4) (ha : a < 2) (h1 : ¬ z < -20) (h2 : z ≤ 20) (h : post 1 (upd R (2 * s + a) z, S, W, X, Z)) : wpY_reward post (R, S, W, X, Z) (nI s) (nI a) z := by
  have e1 : 2 * nI s + nI a = nI (2 * s + a) := by rw [ps_m2y, nI_add]
  unfold wpY_reward
  dsimp only
  refine ps_yic R S W X Z hs ha (br_f (by decide) (br_f h1 (br_t h2 ⟨?_, nm_r (e' := upd R (2 * s + a) z) ?_ h⟩)))
  · rw [e1]
    exact vp_in_nI (by omega) (by decide)
  · rw [e1, nI_clamp (by omega)]
end
section
/-! shares, prune and the constructors -/
theorem ps_xsc0 {post : Int32 → Prop} {x : Int32} (hx : x < 0 ∨ nI 625 ≤ x) (h : post 0) : wpX_isShareCode post x := by
  by_cases c : x < 0
  · exact br_t c h
  · exact br_f c (br_f (Int32.not_lt.mpr (hx.resolve_left c)) h)
def ps_sum (c : Nat) : Nat := c / 125 + c / 25 % 5 + c / 5 % 5 + c % 5
theorem ps_xsh0 {post : Int32 → SX → Prop} (R S E T B M : Nat → Int32) {x y z : Int32} (hb : ((x < 0 ∨ nI 4 ≤ x) ∨ (y < 0 ∨ nI 2 ≤ y)) ∨ ((z < 0 ∨ nI 625 ≤ z) ∨ ∃ c, c < 625 ∧ z = nI c ∧ ¬ ps_sum c = 4)) (h : post 0 (R, S, E, T, B, M)) : wpX_shares post (R, S, E, T, B, M) x y z := by
  unfold wpX_shares
  dsimp only
  by_cases c : (x < 0 ∨ nI 4 ≤ x) ∨ (y < 0 ∨ nI 2 ≤ y)
  · exact ps_xic0 c (br_t rfl h)
  · obtain ⟨s, hs, rfl⟩ := ps_rng (n := 4) (by decide) (fun q => c (Or.inl q))
    obtain ⟨a, ha, rfl⟩ := ps_rng (n := 2) (by decide) (fun q => c (Or.inr q))
    refine ps_xic hs ha (br_f (by decide) ?_)
    rcases hb.resolve_left c with d | ⟨k, hk, rfl, hn⟩
    · exact ps_xsc0 d (br_t rfl h)
    · exact ps_xsc hk (fun e => absurd e hn) (fun _ => br_t rfl h)
theorem ps_xsh {post : Int32 → SX → Prop} {R S : Nat → Int32} (E T B M : Nat → Int32) {s a c : Nat} (hst : ps_st R (ps_w S (4 * (2 * s + a)) c)) (hs : s < 4) (ha : a < 2) (hc : c < 625) (h4 : ps_sum c = 4) (hJ : ∀ E' T' B' M', ps_sol R (ps_w S (4 * (2 * s + a)) c) 64 T' B' → (∀ p', p' < 16 → M' p' = ps_i R (ps_w S (4 * (2 * s + a)) c) p') → post 1 (R, ps_w S (4 * (2 * s + a)) c, E', T', B', M')) : wpX_shares post (R, S, E, T, B, M) (nI s) (nI a) (nI c) := by
  have e1 : (nI s * 2 + nI a) * 4 = nI (4 * (2 * s + a)) := by rw [ps_m2x, nI_add, ps_m4x]
  unfold wpX_shares
  dsimp only
  refine ps_xic hs ha (br_f (by decide) (ps_xsc hc (fun _ => br_f (by decide) (nm_r e1 (ps_xsw E T B M (by omega) hc (ps_xall E T B M hst hJ)))) (fun e => absurd h4 e)))
theorem ps_ysh0 {post : Int32 → SY → Prop} (R S : Nat → Int32) (W X Z : Nat → Int64) {x y z : Int32} (hb : ((x < 0 ∨ nI 4 ≤ x) ∨ (y < 0 ∨ nI 2 ≤ y)) ∨ ((z < 0 ∨ nI 625 ≤ z) ∨ ∃ c, c < 625 ∧ z = nI c ∧ ¬ ps_sum c = 4)) (h : post 0 (R, S, W, X, Z)) : wpY_shares post (R, S, W, X, Z) x y z := by
  unfold wpY_shares
  dsimp only
  by_cases c : (x < 0 ∨ nI 4 ≤ x) ∨ (y < 0 ∨ nI 2 ≤ y)
  · exact ps_yic0 R S W X Z c (br_t rfl h)
  · obtain ⟨s, hs, rfl⟩ := ps_rng (n := 4) (by decide) (fun q => c (Or.inl q))
    obtain ⟨a, ha, rfl⟩ := ps_rng (n := 2) (by decide) (fun q => c (Or.inr q))
    refine ps_yic R S W X Z hs ha (br_f (by decide) ?_)
    by_cases d : z < 0
    · exact br_t d h
    · refine br_f d ?_
      rcases hb.resolve_left c with e | ⟨k, hk, rfl, hn⟩
      · exact br_f (Int32.not_le.mpr (ps_lts 624 (by decide) (e.resolve_left d))) h
      · have r5 : ∀ a, a < 625 → nI a - nI a / 5 * 5 = nI (a % 5) := fun a ha => pk_rem (d := 5) (by omega) (by decide) (by decide)
        have d5 : ∀ a, a < 625 → nI a / 5 = nI (a / 5) := fun a ha => pk_div (d := 5) (by omega) (by decide) (by decide)
        have d25 : nI k / 25 = nI (k / 25) := pk_div (d := 25) (by omega) (by decide) (by decide)
        have d125 : nI k / 125 = nI (k / 125) := pk_div (d := 125) (by omega) (by decide) (by decide)
        have es : nI k / 125 + (nI k / 25 - nI k / 25 / 5 * 5) + (nI k / 5 - nI k / 5 / 5 * 5) + (nI k - nI k / 5 * 5) = nI (ps_sum k) := by
          rw [r5 k hk, d5 k hk, d25, d125, r5 (k / 25) (by omega), r5 (k / 5) (by omega), nI_add, nI_add, nI_add]
          rfl
        have hl : ps_sum k < 1000 := by
          unfold ps_sum
          omega
        exact br_t (nI_le (b := 624) (by omega) (by decide)) ⟨by decide, by decide, by decide, by decide, by decide, by decide, nm_r es (br_f (fun q => hn ((nI_eq (b := 4) (by omega) (by decide)).mp q)) h)⟩
theorem ps_ysh {post : Int32 → SY → Prop} (R S : Nat → Int32) (W X Z : Nat → Int64) {s a k : Nat} (hs : s < 4) (ha : a < 2) (hk : k < 625) (h4 : ps_sum k = 4) (h : post 1 (R, ps_w S (4 * (2 * s + a)) k, W, X, Z)) : wpY_shares post (R, S, W, X, Z) (nI s) (nI a) (nI k) := by
  have r5 : ∀ a, a < 625 → nI a - nI a / 5 * 5 = nI (a % 5) := fun a ha => pk_rem (d := 5) (by omega) (by decide) (by decide)
  have d5 : ∀ a, a < 625 → nI a / 5 = nI (a / 5) := fun a ha => pk_div (d := 5) (by omega) (by decide) (by decide)
  have d25 : nI k / 25 = nI (k / 25) := pk_div (d := 25) (by omega) (by decide) (by decide)
  have d125 : nI k / 125 = nI (k / 125) := pk_div (d := 125) (by omega) (by decide) (by decide)
  have es : nI k / 125 + (nI k / 25 - nI k / 25 / 5 * 5) + (nI k / 5 - nI k / 5 / 5 * 5) + (nI k - nI k / 5 * 5) = nI 4 := by
    rw [r5 k hk, d5 k hk, d25, d125, r5 (k / 25) (by omega), r5 (k / 5) (by omega), nI_add, nI_add, nI_add]
    exact congrArg nI h4
  have e1 : 4 * (2 * nI s + nI a) = nI (4 * (2 * s + a)) := by rw [ps_m2y, nI_add, ps_m4y]
  have n5 : ¬ (5 : Int32) = 0 := by decide
  have n25 : ¬ (25 : Int32) = 0 := by decide
  have n125 : ¬ (125 : Int32) = 0 := by decide
  have hf : 4 * (2 * s + a) < 29 := by omega
  rw [← ps_wY] at h
  generalize 4 * (2 * s + a) = f at e1 hf h
  have iv : ∀ t, t < 4 → vp_in (nI f + nI t) 32 := fun t ht => by
    rw [nI_add]
    exact vp_in_nI (by omega) (by decide)
  have cl : ∀ t, t < 4 → (nI f + nI t).toNatClampNeg = f + t := fun t ht => by
    rw [nI_add]
    exact nI_clamp (by omega)
  have u0 : upd S (nI f).toNatClampNeg (nI k / 125) = upd S f (nI (k / 125)) := by rw [nI_clamp (by omega), d125]
  have u1 : ∀ A : Nat → Int32, upd A (nI f + nI 1).toNatClampNeg (nI k / 25 - nI k / 25 / 5 * 5) = upd A (f + 1) (nI (k / 25 % 5)) := fun A => by rw [cl 1 (by decide), d25, r5 (k / 25) (by omega)]
  have u2 : ∀ A : Nat → Int32, upd A (nI f + nI 2).toNatClampNeg (nI k / 5 - nI k / 5 / 5 * 5) = upd A (f + 2) (nI (k / 5 % 5)) := fun A => by rw [cl 2 (by decide), d5 k hk, r5 (k / 5) (by omega)]
  have u3 : ∀ A : Nat → Int32, upd A (nI f + nI 3).toNatClampNeg (nI k - nI k / 5 * 5) = upd A (f + 3) (nI (k % 5)) := fun A => by rw [cl 3 (by decide), r5 k hk]
  unfold wpY_shares
  dsimp only
  refine ps_yic R S W X Z hs ha (br_f (by decide) (br_f (nI_pos (by omega)) (br_t (nI_le (b := 624) (by omega) (by decide)) ⟨n125, n25, n5, n5, n5, n5, nm_r es (br_t rfl (nm_r e1 ⟨n125, vp_in_nI (by omega) (by decide), nm_r u0 ⟨n25, n5, iv 1 (by decide), nm_r (u1 _) ⟨n5, n5, iv 2 (by decide), nm_r (u2 _) ⟨n5, iv 3 (by decide), nm_r (u3 _) h⟩⟩⟩⟩))⟩)))
/-! prune -/
noncomputable def ps_G (R S : Nat → Int32) (k : Nat) : Int32 := ps_nm (ps_i R S) (k / 2) (k % 2)
theorem ps_hG (R S : Nat → Int32) : ∀ s a, s < 4 → a < 2 → ps_G R S (2 * s + a) = ps_nm (ps_i R S) s a := by
  intro s a _ ha
  unfold ps_G
  rw [show (2 * s + a) / 2 = s by omega, show (2 * s + a) % 2 = a by omega]
theorem ps_xpr {post : Int32 → SX → Prop} {R S M : Nat → Int32} (E T B : Nat → Int32) (hst : ps_st R S) (hM : ∀ p, p < 16 → M p = ps_i R S p)
    (hJ : ∀ E' T' B' M', ps_sol (ps_fold (ps_G R S) R S 8).1 (ps_fold (ps_G R S) R S 8).2.1 64 T' B' → (∀ p', p' < 16 → M' p' = ps_i (ps_fold (ps_G R S) R S 8).1 (ps_fold (ps_G R S) R S 8).2.1 p') → post (nI (ps_fold (ps_G R S) R S 8).2.2) ((ps_fold (ps_G R S) R S 8).1, (ps_fold (ps_G R S) R S 8).2.1, E', T', B', M')) : wpX_prune post (R, S, E, T, B, M) :=
  ⟨5, ps_xpr4 R S E T B hM (ps_hG R S) (ps_xall E T B M (ps_fold_st hst 8 (by decide)).1 hJ) 4 0 rfl⟩
theorem ps_ypr {post : Int32 → SY → Prop} {R S : Nat → Int32} (W X Z : Nat → Int64) (hst : ps_st R S)
    (h : ∀ W X Z, post (nI (ps_fold (ps_G R S) R S 8).2.2) ((ps_fold (ps_G R S) R S 8).1, (ps_fold (ps_G R S) R S 8).2.1, W, X, Z)) : wpY_prune post (R, S, W, X, Z) :=
  ⟨9, ps_ypr6 hst (ps_hG R S) h 8 0 W X Z rfl⟩
/-! the constructors -/
theorem ps_xi61 {post : SX → Prop} {Q : Int32 → (Nat → Int32) → (Nat → Int32) → (Nat → Int32) → (Nat → Int32) → (Nat → Int32) → (Nat → Int32) → Prop} (R E T B M : Nat → Int32) {s : Nat} (hs : s < 4) (hQ : Q (nI (s + 1)) R (ps_ini (2 * s + 2)) E T B M) : ∀ d a, a + d = 2 → wX_init_61 post Q (nI s) (d + 1) (nI a) R (ps_ini (2 * s + a)) E T B M := by
  intro d
  induction d with
  | zero =>
    intro a hd
    have e : a = 2 := by omega
    subst e
    exact br_t (nI_le (a := 2) (by omega) (by omega)) (nm_r (nI_1 s) hQ)
  | succ d ih =>
    intro a hd
    have ha : a < 2 := by omega
    have ex : (nI s * 2 + nI a) * 4 + nI s = nI (4 * (2 * s + a) + s) := by rw [ps_m2x, nI_add, ps_m4x, nI_add]
    refine br_f (nI_ge (b := 2) ha (by decide)) ⟨by rw [ex]; exact vp_in_nI (by omega) (by decide), nm_r (e' := ps_ini (2 * s + (a + 1))) ?_ (nm_r (nI_1 a) (ih (a + 1) (by omega)))⟩
    rw [ex, nI_clamp (by omega)]
    show _ = upd (ps_ini (2 * s + a)) (4 * (2 * s + a) + (2 * s + a) / 2) 4
    rw [show (2 * s + a) / 2 = s by omega]
theorem ps_xi54 {post : SX → Prop} {R : Nat → Int32} (E T B M : Nat → Int32) (hst : ps_st R (ps_ini 8)) (hJ : ∀ E' T' B' M', ps_sol R (ps_ini 8) 64 T' B' → (∀ p', p' < 16 → M' p' = ps_i R (ps_ini 8) p') → post (R, ps_ini 8, E', T', B', M')) : ∀ d s, s + d = 4 → wX_init_54 post (d + 1) (nI s) R (ps_ini (2 * s)) E T B M := by
  intro d
  induction d with
  | zero =>
    intro s hd
    have e : s = 4 := by omega
    subst e
    exact br_t (nI_le (a := 4) (by omega) (by omega)) (ps_xall E T B M hst hJ)
  | succ d ih =>
    intro s hd
    have hs : s < 4 := by omega
    refine br_f (nI_ge (b := 4) hs (by decide)) ⟨3, ?_⟩
    exact ps_xi61 R E T B M hs (ih (s + 1) (by omega)) 2 0 rfl
theorem ps_yi46 {post : SY → Prop} (R : Nat → Int32) (W X Z : Nat → Int64) (h : post (R, ps_ini 8, W, X, Z)) : ∀ d k, k + d = 8 → wY_init_46 post (d + 1) (nI k) R (ps_ini k) W X Z := by
  intro d
  induction d with
  | zero =>
    intro k hd
    have e : k = 8 := by omega
    subst e
    exact br_t (nI_le (a := 8) (by omega) (by omega)) h
  | succ d ih =>
    intro k hd
    have hk : k < 8 := by omega
    have ex : 4 * nI k + nI k / 2 = nI (4 * k + k / 2) := by
      rw [ps_m4y, show nI k / 2 = nI (k / 2) from pk_div (d := 2) (by omega) (by decide) (by decide), nI_add]
    refine br_f (nI_ge (b := 8) hk (by decide)) ⟨by decide, by rw [ex]; exact vp_in_nI (by omega) (by decide), nm_r (e' := ps_ini (k + 1)) ?_ (nm_r (nI_1 k) (ih (k + 1) (by omega)))⟩
    rw [ex, nI_clamp (by omega)]
    rfl
end
section
/-! what is owed -/
def i_Rel (k : Nat) (u : SX) (v : SY) : Prop := ∃ (R S E T B M : Nat → Int32) (W X Z : Nat → Int64), u = (R, S, E, T, B, M) ∧ v = (R, S, W, X, Z) ∧ ps_st R S ∧ ps_sol R S 64 T B ∧ ∀ p, p < 16 → M p = ps_i R S p
theorem i_up {k : Nat} {u : SX} {v : SY} (h : i_Rel k u v) : i_Rel (k + 4) u v := h
theorem i_vc0 : wpX_init (fun u => wpY_init (fun v => i_Rel 0 u v)) :=
  ⟨5, ps_xi54 (fun _ => 0) (fun _ => 0) (fun _ => 0) (fun _ => 0) ps_st0 (fun E T B M hT hM => ⟨9, ps_yi46 (fun _ => 0) (fun _ => 0) (fun _ => 0) (fun _ => 0) ⟨_, _, _, _, _, _, _, _, _, rfl, rfl, ps_st0, hT, hM⟩ 8 0 rfl⟩) 4 0 rfl⟩
theorem i_vc_reward {k : Nat} {u : SX} {v : SY} (I : i_Rel k u v) (hk : k + 4 ≤ 2048) (v1 : Int32) (v2 : Int32) (v3 : Int32) : wpX_reward (fun r u' => wpY_reward (fun r' v' => r' = r ∧ i_Rel (k + 4) u' v') v v1 v2 v3) u v1 v2 v3 := by
  obtain ⟨R, S, E, T, B, M, W, X, Z, rfl, rfl, hst, hT, hM⟩ := I
  by_cases c : ((v1 < 0 ∨ nI 4 ≤ v1) ∨ (v2 < 0 ∨ nI 2 ≤ v2)) ∨ (v3 < -20 ∨ ¬ v3 ≤ 20)
  · exact ps_xrw0 R S E T B M c (ps_yrw0 R S W X Z c ⟨rfl, R, S, E, T, B, M, W, X, Z, rfl, rfl, hst, hT, hM⟩)
  · obtain ⟨s, hs, rfl⟩ := ps_rng (n := 4) (by decide) (fun q => c (Or.inl (Or.inl q)))
    obtain ⟨a, ha, rfl⟩ := ps_rng (n := 2) (by decide) (fun q => c (Or.inl (Or.inr q)))
    have h1 : ¬ v3 < -20 := fun q => c (Or.inr (Or.inl q))
    have h2 : v3 ≤ 20 := Classical.byContradiction fun q => c (Or.inr (Or.inr q))
    have hx : -20 ≤ v3.toInt ∧ v3.toInt ≤ 20 := by
      have g1 := h1
      have g2 := h2
      rw [Int32.lt_iff_toInt_lt, show (-20 : Int32).toInt = -20 by decide] at g1
      rw [Int32.le_iff_toInt_le, show (20 : Int32).toInt = 20 by decide] at g2
      omega
    have hst' := ps_stR hst (2 * s + a) hx
    exact ps_xrw E T B M hst' hs ha h1 h2 (fun E' T' B' M' hT' hM' => ps_yrw R S W X Z hs ha h1 h2 ⟨rfl, _, _, _, _, _, _, _, _, _, rfl, rfl, hst', hT', hM'⟩)
theorem i_vc_shares {k : Nat} {u : SX} {v : SY} (I : i_Rel k u v) (hk : k + 4 ≤ 2048) (v1 : Int32) (v2 : Int32) (v3 : Int32) : wpX_shares (fun r u' => wpY_shares (fun r' v' => r' = r ∧ i_Rel (k + 4) u' v') v v1 v2 v3) u v1 v2 v3 := by
  obtain ⟨R, S, E, T, B, M, W, X, Z, rfl, rfl, hst, hT, hM⟩ := I
  by_cases c : ((v1 < 0 ∨ nI 4 ≤ v1) ∨ (v2 < 0 ∨ nI 2 ≤ v2)) ∨ ((v3 < 0 ∨ nI 625 ≤ v3) ∨ ∃ c, c < 625 ∧ v3 = nI c ∧ ¬ ps_sum c = 4)
  · exact ps_xsh0 R S E T B M c (ps_ysh0 R S W X Z c ⟨rfl, R, S, E, T, B, M, W, X, Z, rfl, rfl, hst, hT, hM⟩)
  · obtain ⟨s, hs, rfl⟩ := ps_rng (n := 4) (by decide) (fun q => c (Or.inl (Or.inl q)))
    obtain ⟨a, ha, rfl⟩ := ps_rng (n := 2) (by decide) (fun q => c (Or.inl (Or.inr q)))
    obtain ⟨d, hd, rfl⟩ := ps_rng (n := 625) (by decide) (fun q => c (Or.inr (Or.inl q)))
    have h4 : ps_sum d = 4 := Classical.byContradiction fun q => c (Or.inr (Or.inr ⟨d, hd, rfl, q⟩))
    have hst' : ps_st R (ps_w S (4 * (2 * s + a)) d) := ps_stW hst hd h4
    exact ps_xsh E T B M hst' hs ha hd h4 (fun E' T' B' M' hT' hM' => ps_ysh R S W X Z hs ha hd h4 ⟨rfl, _, _, _, _, _, _, _, _, _, rfl, rfl, hst', hT', hM'⟩)
theorem i_vc_valueTop {k : Nat} {u : SX} {v : SY} (I : i_Rel k u v) (hk : k + 4 ≤ 2048) (v1 : Int32) (v2 : Int32) : wpX_valueTop (fun r => wpY_valueTop (fun r' v' => r' = r ∧ i_Rel (k + 4) u v') v v1 v2) u v1 v2 := by
  obtain ⟨R, S, E, T, B, M, W, X, Z, rfl, rfl, hst, hT, hM⟩ := I
  by_cases c : (v1 < 0 ∨ nI 16 ≤ v1) ∨ (v2 < 0 ∨ nI 4 ≤ v2)
  · exact ps_xvt0 R S E T B M c (ps_yvt0 R S W X Z c ⟨rfl, R, S, E, T, B, M, W, X, Z, rfl, rfl, hst, hT, hM⟩)
  · obtain ⟨p, hp, rfl⟩ := ps_rng (n := 16) (by decide) (fun q => c (Or.inl q))
    obtain ⟨s, hs, rfl⟩ := ps_rng (n := 4) (by decide) (fun q => c (Or.inr q))
    exact ps_xvt E M hT hp hs (ps_yvt W X Z hst hp hs (fun W' X' Z' => ⟨rfl, R, S, E, T, B, M, W', X', Z', rfl, rfl, hst, hT, hM⟩))
theorem i_vc_valueBottom {k : Nat} {u : SX} {v : SY} (I : i_Rel k u v) (hk : k + 4 ≤ 2048) (v1 : Int32) (v2 : Int32) : wpX_valueBottom (fun r => wpY_valueBottom (fun r' v' => r' = r ∧ i_Rel (k + 4) u v') v v1 v2) u v1 v2 := by
  obtain ⟨R, S, E, T, B, M, W, X, Z, rfl, rfl, hst, hT, hM⟩ := I
  by_cases c : (v1 < 0 ∨ nI 16 ≤ v1) ∨ (v2 < 0 ∨ nI 4 ≤ v2)
  · exact ps_xvb0 R S E T B M c (ps_yvb0 R S W X Z c ⟨rfl, R, S, E, T, B, M, W, X, Z, rfl, rfl, hst, hT, hM⟩)
  · obtain ⟨p, hp, rfl⟩ := ps_rng (n := 16) (by decide) (fun q => c (Or.inl q))
    obtain ⟨s, hs, rfl⟩ := ps_rng (n := 4) (by decide) (fun q => c (Or.inr q))
    exact ps_xvb E M hT hp hs (ps_yvb W X Z hst hp hs (fun W' X' Z' => ⟨rfl, R, S, E, T, B, M, W', X', Z', rfl, rfl, hst, hT, hM⟩))
theorem i_vc_bestTop {k : Nat} {u : SX} {v : SY} (I : i_Rel k u v) (hk : k + 4 ≤ 2048) (v1 : Int32) : wpX_bestTop (fun r => wpY_bestTop (fun r' v' => r' = r ∧ i_Rel (k + 4) u v') v v1) u v1 := by
  obtain ⟨R, S, E, T, B, M, W, X, Z, rfl, rfl, hst, hT, hM⟩ := I
  by_cases c : v1 < 0 ∨ nI 4 ≤ v1
  · exact ps_xbt0 R S E T B M c (ps_ybt0 R S W X Z c ⟨rfl, R, S, E, T, B, M, W, X, Z, rfl, rfl, hst, hT, hM⟩)
  · obtain ⟨s, hs, rfl⟩ := ps_rng (n := 4) (by decide) c
    exact ps_xbt E hT hM hs (ps_ybt W X Z hst hs (fun W' X' Z' => ⟨rfl, R, S, E, T, B, M, W', X', Z', rfl, rfl, hst, hT, hM⟩))
theorem i_vc_bestBottom {k : Nat} {u : SX} {v : SY} (I : i_Rel k u v) (hk : k + 4 ≤ 2048) (v1 : Int32) : wpX_bestBottom (fun r => wpY_bestBottom (fun r' v' => r' = r ∧ i_Rel (k + 4) u v') v v1) u v1 := by
  obtain ⟨R, S, E, T, B, M, W, X, Z, rfl, rfl, hst, hT, hM⟩ := I
  by_cases c : v1 < 0 ∨ nI 4 ≤ v1
  · exact ps_xbb0 R S E T B M c (ps_ybb0 R S W X Z c ⟨rfl, R, S, E, T, B, M, W, X, Z, rfl, rfl, hst, hT, hM⟩)
  · obtain ⟨s, hs, rfl⟩ := ps_rng (n := 4) (by decide) c
    exact ps_xbb E hT hM hs (ps_ybb W X Z hst hs (fun W' X' Z' => ⟨rfl, R, S, E, T, B, M, W', X', Z', rfl, rfl, hst, hT, hM⟩))
theorem i_vc_policy {k : Nat} {u : SX} {v : SY} (I : i_Rel k u v) (hk : k + 4 ≤ 2048) : wpX_policy (fun r => wpY_policy (fun r' v' => r' = r ∧ i_Rel (k + 4) u v') v) u := by
  obtain ⟨R, S, E, T, B, M, W, X, Z, rfl, rfl, hst, hT, hM⟩ := I
  exact ps_xpo E T B hM (ps_ypo W X Z hst (fun W' X' Z' => ⟨rfl, R, S, E, T, B, M, W', X', Z', rfl, rfl, hst, hT, hM⟩))
theorem i_vc_policies {k : Nat} {u : SX} {v : SY} (I : i_Rel k u v) (hk : k + 4 ≤ 2048) : wpX_policies (fun r => wpY_policies (fun r' v' => r' = r ∧ i_Rel (k + 4) u v') v) u := by
  obtain ⟨R, S, E, T, B, M, W, X, Z, rfl, rfl, hst, hT, hM⟩ := I
  exact ps_xps E T B hM (ps_ypc W X Z hst (fun W' X' Z' => ⟨rfl, R, S, E, T, B, M, W', X', Z', rfl, rfl, hst, hT, hM⟩))
theorem i_vc_good {k : Nat} {u : SX} {v : SY} (I : i_Rel k u v) (hk : k + 4 ≤ 2048) (v1 : Int32) (v2 : Int32) : wpX_good (fun r => wpY_good (fun r' v' => r' = r ∧ i_Rel (k + 4) u v') v v1 v2) u v1 v2 := by
  obtain ⟨R, S, E, T, B, M, W, X, Z, rfl, rfl, hst, hT, hM⟩ := I
  by_cases c : (v1 < 0 ∨ nI 4 ≤ v1) ∨ (v2 < 0 ∨ nI 2 ≤ v2)
  · exact ps_xgo0 R S E T B M c (ps_ygo0 R S W X Z c ⟨rfl, R, S, E, T, B, M, W, X, Z, rfl, rfl, hst, hT, hM⟩)
  · obtain ⟨s, hs, rfl⟩ := ps_rng (n := 4) (by decide) (fun q => c (Or.inl q))
    obtain ⟨a, ha, rfl⟩ := ps_rng (n := 2) (by decide) (fun q => c (Or.inr q))
    exact ps_xgo E T B hM hs ha (ps_ygd W X Z hst hs ha (fun W' X' Z' => ⟨rfl, R, S, E, T, B, M, W', X', Z', rfl, rfl, hst, hT, hM⟩))
theorem i_vc_prune {k : Nat} {u : SX} {v : SY} (I : i_Rel k u v) (hk : k + 4 ≤ 2048) : wpX_prune (fun r u' => wpY_prune (fun r' v' => r' = r ∧ i_Rel (k + 4) u' v') v) u := by
  obtain ⟨R, S, E, T, B, M, W, X, Z, rfl, rfl, hst, hT, hM⟩ := I
  exact ps_xpr E T B hst hM (fun E' T' B' M' hT' hM' => ps_ypr W X Z hst (fun W' X' Z' => ⟨rfl, _, _, _, _, _, _, _, _, _, rfl, rfl, (ps_fold_st hst 8 (by decide)).1, hT', hM'⟩))
theorem i_vc_compare {k : Nat} {u : SX} {v : SY} (I : i_Rel k u v) (hk : k + 4 ≤ 2048) (v1 : Int32) (v2 : Int32) (v3 : Int32) : wpX_compare (fun r => wpY_compare (fun r' v' => r' = r ∧ i_Rel (k + 4) u v') v v1 v2 v3) u v1 v2 v3 := by
  obtain ⟨R, S, E, T, B, M, W, X, Z, rfl, rfl, hst, hT, hM⟩ := I
  by_cases c : (v1 < 0 ∨ nI 16 ≤ v1) ∨ (v2 < 0 ∨ nI 16 ≤ v2) ∨ (v3 < 0 ∨ nI 4 ≤ v3)
  · exact ps_xcm0 R S E T B M c (ps_ycm0 R S W X Z c ⟨rfl, R, S, E, T, B, M, W, X, Z, rfl, rfl, hst, hT, hM⟩)
  · obtain ⟨p, hp, rfl⟩ := ps_rng (n := 16) (by decide) (fun q => c (Or.inl q))
    obtain ⟨q, hq, rfl⟩ := ps_rng (n := 16) (by decide) (fun z => c (Or.inr (Or.inl z)))
    obtain ⟨s, hs, rfl⟩ := ps_rng (n := 4) (by decide) (fun z => c (Or.inr (Or.inr z)))
    exact ps_xcm E M hst hT hp hq hs (ps_ycm W X Z hst hp hq hs (fun W' X' Z' => ⟨rfl, R, S, E, T, B, M, W', X', Z', rfl, rfl, hst, hT, hM⟩))
end
