/-! the picture over the integers: the equations of a policy, their determinants, lowest terms, the order -/
def ps_kk (p s : Nat) : Nat := 2 * s + p / 2 ^ s % 2
def ps_e (R S : Nat → Int32) (p s t : Nat) : Int := if t = 4 then 8 * (R (ps_kk p s)).toInt else (if s = t then 8 else 0) - (S (4 * ps_kk p s + t)).toInt
def ps_D (R S : Nat → Int32) (p c0 c1 c2 c3 : Nat) : Int :=
  ps_d4 (ps_e R S p 0 c0) (ps_e R S p 0 c1) (ps_e R S p 0 c2) (ps_e R S p 0 c3) (ps_e R S p 1 c0) (ps_e R S p 1 c1) (ps_e R S p 1 c2) (ps_e R S p 1 c3) (ps_e R S p 2 c0) (ps_e R S p 2 c1) (ps_e R S p 2 c2) (ps_e R S p 2 c3) (ps_e R S p 3 c0) (ps_e R S p 3 c1) (ps_e R S p 3 c2) (ps_e R S p 3 c3)
def ps_cc (s t : Nat) : Nat := if s = t then 4 else t
def ps_top (R S : Nat → Int32) (p s : Nat) : Int := ps_D R S p (ps_cc s 0) (ps_cc s 1) (ps_cc s 2) (ps_cc s 3)
def ps_st (R S : Nat → Int32) : Prop := (∀ k, k < 8 → -20 ≤ (R k).toInt ∧ (R k).toInt ≤ 20) ∧ (∀ k, k < 8 → ps_ok (fun t => (S (4 * k + t)).toInt))
theorem ps_kk_lt (p : Nat) {s : Nat} (hs : s < 4) : ps_kk p s < 8 := by
  unfold ps_kk
  have h := Nat.mod_lt (p / 2 ^ s) (show 2 > 0 by decide)
  omega
theorem ps_pos {R S : Nat → Int32} (h : ps_st R S) (p : Nat) : 1 ≤ ps_top R S p 4 := by
  have e : ps_top R S p 4 = ps_P (fun t => (S (4 * ps_kk p 0 + t)).toInt) (fun t => (S (4 * ps_kk p 1 + t)).toInt) (fun t => (S (4 * ps_kk p 2 + t)).toInt) (fun t => (S (4 * ps_kk p 3 + t)).toInt) := rfl
  rw [e]
  exact ps_L4 (h.2 _ (ps_kk_lt p (by decide))) (h.2 _ (ps_kk_lt p (by decide))) (h.2 _ (ps_kk_lt p (by decide))) (h.2 _ (ps_kk_lt p (by decide)))
theorem ps_sh {R S : Nat → Int32} (h : ps_st R S) {k t : Nat} (hk : k < 8) (ht : t < 4) : 0 ≤ (S (4 * k + t)).toInt ∧ (S (4 * k + t)).toInt ≤ 4 := by
  obtain ⟨h0, h1, h2, h3, h4⟩ := h.2 k hk
  dsimp only at h0 h1 h2 h3 h4
  match t, ht with
  | 0, _ => omega
  | 1, _ => omega
  | 2, _ => omega
  | 3, _ => omega
theorem ps_eb {R S : Nat → Int32} (h : ps_st R S) (p : Nat) {s t : Nat} (hs : s < 4) (ht : t < 4) : (ps_e R S p s t).natAbs ≤ 8 := by
  have hb := ps_sh h (ps_kk_lt p hs) ht
  unfold ps_e
  rw [if_neg (show ¬ t = 4 by omega)]
  generalize (S (4 * ps_kk p s + t)).toInt = x at hb ⊢
  split <;> omega
theorem ps_rb {R S : Nat → Int32} (h : ps_st R S) (p : Nat) {s : Nat} (hs : s < 4) : (ps_e R S p s 4).natAbs ≤ 160 := by
  have hb := h.1 _ (ps_kk_lt p hs)
  unfold ps_e
  rw [if_pos rfl]
  generalize (R (ps_kk p s)).toInt = x at hb ⊢
  omega
def ps_be (c t : Nat) : Nat := if c = t then 160 else 8
theorem ps_cb {R S : Nat → Int32} (h : ps_st R S) (p c : Nat) {s t : Nat} (hs : s < 4) (ht : t < 4) : (ps_e R S p s (ps_cc c t)).natAbs ≤ ps_be c t := by
  unfold ps_cc ps_be
  split
  · exact ps_rb h p hs
  · exact ps_eb h p hs ht
theorem ps_tb {R S : Nat → Int32} (h : ps_st R S) (p c : Nat) : (ps_top R S p c).natAbs ≤ 24 * (ps_be c 0 * ps_be c 1 * (ps_be c 2 * ps_be c 3)) :=
  ps_bd rfl (ps_cb h p c (by decide) (by decide)) (ps_cb h p c (by decide) (by decide)) (ps_cb h p c (by decide) (by decide)) (ps_cb h p c (by decide) (by decide))
    (ps_cb h p c (by decide) (by decide)) (ps_cb h p c (by decide) (by decide)) (ps_cb h p c (by decide) (by decide)) (ps_cb h p c (by decide) (by decide))
    (ps_cb h p c (by decide) (by decide)) (ps_cb h p c (by decide) (by decide)) (ps_cb h p c (by decide) (by decide)) (ps_cb h p c (by decide) (by decide))
    (ps_cb h p c (by decide) (by decide)) (ps_cb h p c (by decide) (by decide)) (ps_cb h p c (by decide) (by decide)) (ps_cb h p c (by decide) (by decide))
theorem ps_bn : ∀ c, c < 4 → 24 * (ps_be c 0 * ps_be c 1 * (ps_be c 2 * ps_be c 3)) = 1966080 := by decide +kernel
theorem ps_bot_b {R S : Nat → Int32} (h : ps_st R S) (p : Nat) : 1 ≤ ps_top R S p 4 ∧ ps_top R S p 4 ≤ 98304 := by
  have h1 := ps_pos h p
  have h2 := ps_tb h p 4
  rw [show 24 * (ps_be 4 0 * ps_be 4 1 * (ps_be 4 2 * ps_be 4 3)) = 98304 by decide] at h2
  omega
theorem ps_top_b {R S : Nat → Int32} (h : ps_st R S) (p : Nat) {s : Nat} (hs : s < 4) : (ps_top R S p s).natAbs ≤ 1966080 := by
  have h2 := ps_tb h p s
  rw [ps_bn s hs] at h2
  exact h2
def ps_tJ (R S : Nat → Int32) (j : Nat) : Int := ps_top R S (j / 4) (j % 4)
def ps_bJ (R S : Nat → Int32) (j : Nat) : Int := ps_top R S (j / 4) 4
def ps_g (R S : Nat → Int32) (j : Nat) : Nat := Nat.gcd (ps_tJ R S j).natAbs (ps_bJ R S j).natAbs
def ps_T (R S : Nat → Int32) (j : Nat) : Int := (ps_tJ R S j).tdiv (ps_g R S j)
def ps_B (R S : Nat → Int32) (j : Nat) : Int := (ps_bJ R S j).tdiv (ps_g R S j)
theorem ps_tJb {R S : Nat → Int32} (h : ps_st R S) (j : Nat) : (ps_tJ R S j).natAbs ≤ 1966080 := ps_top_b h _ (Nat.mod_lt _ (by decide))
theorem ps_bJb {R S : Nat → Int32} (h : ps_st R S) (j : Nat) : 1 ≤ ps_bJ R S j ∧ ps_bJ R S j ≤ 98304 := ps_bot_b h _
theorem ps_gp {R S : Nat → Int32} (h : ps_st R S) (j : Nat) : 1 ≤ ps_g R S j ∧ ps_g R S j ≤ 98304 := by
  have hb := ps_bJb h j
  have h0 : 0 < (ps_bJ R S j).natAbs := by omega
  have h1 : 0 < ps_g R S j := Nat.gcd_pos_of_pos_right _ h0
  have h2 : ps_g R S j ≤ (ps_bJ R S j).natAbs := Nat.gcd_le_right _ h0
  omega
theorem ps_Tg (R S : Nat → Int32) (j : Nat) : ps_T R S j * (ps_g R S j : Int) = ps_tJ R S j :=
  Int.tdiv_mul_cancel (Int.ofNat_dvd_left.mpr (Nat.gcd_dvd_left _ _))
theorem ps_Bg (R S : Nat → Int32) (j : Nat) : ps_B R S j * (ps_g R S j : Int) = ps_bJ R S j :=
  Int.tdiv_mul_cancel (Int.ofNat_dvd_left.mpr (Nat.gcd_dvd_right _ _))
theorem ps_Tb {R S : Nat → Int32} (h : ps_st R S) (j : Nat) : (ps_T R S j).natAbs ≤ 1966080 :=
  Nat.le_trans (Int.natAbs_tdiv_le_natAbs _ _) (ps_tJb h j)
theorem ps_Bb {R S : Nat → Int32} (h : ps_st R S) (j : Nat) : (ps_B R S j).natAbs ≤ 98304 := by
  have h1 := ps_bJb h j
  exact Nat.le_trans (Int.natAbs_tdiv_le_natAbs _ _) (by omega)
def ps_l (R S : Nat → Int32) (p q s : Nat) : Int := ps_top R S p s * ps_top R S q 4
def ps_ord (R S : Nat → Int32) (p q s : Nat) : Int32 := if ps_l R S p q s = ps_l R S q p s then 0 else if ps_l R S p q s < ps_l R S q p s then -1 else 1
noncomputable def ps_i (R S : Nat → Int32) (p : Nat) : Int32 := @ite _ (∀ q, q < 16 → ∀ s, s < 4 → ¬ ps_l R S p q s < ps_l R S q p s) (Classical.propDecidable _) 1 0
theorem ps_jt (R S : Nat → Int32) (p : Nat) {s : Nat} (hs : s < 4) : ps_tJ R S (4 * p + s) = ps_top R S p s := by
  unfold ps_tJ
  rw [show (4 * p + s) / 4 = p by omega, show (4 * p + s) % 4 = s by omega]
theorem ps_jb (R S : Nat → Int32) (p : Nat) {s : Nat} (hs : s < 4) : ps_bJ R S (4 * p + s) = ps_top R S p 4 := by
  unfold ps_bJ
  rw [show (4 * p + s) / 4 = p by omega]
theorem ps_lG (R S : Nat → Int32) (p q : Nat) {s : Nat} (hs : s < 4) : ps_l R S p q s = (ps_T R S (4 * p + s) * ps_B R S (4 * q + s)) * ((ps_g R S (4 * p + s) : Int) * (ps_g R S (4 * q + s) : Int)) := by
  unfold ps_l
  rw [← ps_jt R S p hs, ← ps_jb R S q hs, ← ps_Tg, ← ps_Bg]
  grind
theorem ps_G0 {R S : Nat → Int32} (h : ps_st R S) (i j : Nat) : 0 < (ps_g R S i : Int) * (ps_g R S j : Int) :=
  Int.mul_pos (by have := (ps_gp h i).1; omega) (by have := (ps_gp h j).1; omega)
theorem ps_scL {R S : Nat → Int32} (h : ps_st R S) (p q : Nat) {s : Nat} (hs : s < 4) : ps_T R S (4 * p + s) * ps_B R S (4 * q + s) < ps_T R S (4 * q + s) * ps_B R S (4 * p + s) ↔ ps_l R S p q s < ps_l R S q p s := by
  rw [ps_lG R S p q hs, ps_lG R S q p hs, Int.mul_comm (ps_g R S (4 * q + s) : Int)]
  exact (Int.mul_lt_mul_right (ps_G0 h _ _)).symm
theorem ps_scE {R S : Nat → Int32} (h : ps_st R S) (p q : Nat) {s : Nat} (hs : s < 4) : ps_T R S (4 * p + s) * ps_B R S (4 * q + s) = ps_T R S (4 * q + s) * ps_B R S (4 * p + s) ↔ ps_l R S p q s = ps_l R S q p s := by
  rw [ps_lG R S p q hs, ps_lG R S q p hs, Int.mul_comm (ps_g R S (4 * q + s) : Int)]
  exact (Int.mul_eq_mul_right_iff (Int.ne_of_gt (ps_G0 h _ _))).symm
/-! comparisons and quotients of bounded numbers -/
theorem ps_t32 {x : Int} (hx : x.natAbs < 2147483648) : (Int32.ofInt x).toInt = x := Int32.toInt_ofInt_of_le (by omega) (by omega)
theorem ps_t64 {x : Int} (hx : x.natAbs < 9223372036854775808) : (Int64.ofInt x).toInt = x := Int64.toInt_ofInt_of_le (by omega) (by omega)
theorem ps_lt32 {x y : Int} (hx : x.natAbs < 2147483648) (hy : y.natAbs < 2147483648) : Int32.ofInt x < Int32.ofInt y ↔ x < y := by
  rw [Int32.lt_iff_toInt_lt, ps_t32 hx, ps_t32 hy]
theorem ps_lt64 {x y : Int} (hx : x.natAbs < 9223372036854775808) (hy : y.natAbs < 9223372036854775808) : Int64.ofInt x < Int64.ofInt y ↔ x < y := by
  rw [Int64.lt_iff_toInt_lt, ps_t64 hx, ps_t64 hy]
theorem ps_le64 {x y : Int} (hx : x.natAbs < 9223372036854775808) (hy : y.natAbs < 9223372036854775808) : Int64.ofInt x ≤ Int64.ofInt y ↔ x ≤ y := by
  rw [Int64.le_iff_toInt_le, ps_t64 hx, ps_t64 hy]
theorem ps_eq64 {x y : Int} (hx : x.natAbs < 9223372036854775808) (hy : y.natAbs < 9223372036854775808) : Int64.ofInt x = Int64.ofInt y ↔ x = y := by
  rw [← Int64.toInt_inj, ps_t64 hx, ps_t64 hy]
theorem ps_i64 {x : Int} (hx : x.natAbs < 2147483648) : (Int32.ofInt x).toInt64 = Int64.ofInt x := by
  rw [← Int64.ofInt_int32ToInt, ps_t32 hx]
theorem ps_nI (n : Nat) : Int32.ofInt (n : Int) = nI n := Int32.ofInt_eq_ofNat
theorem ps_lN (n : Nat) : Int64.ofInt (n : Int) = lN n := Int64.ofInt_eq_ofNat
theorem ps_div32 {a b : Int} (ha : a.natAbs < 2147483648) (hb : b.natAbs < 2147483648) : Int32.ofInt a / Int32.ofInt b = Int32.ofInt (a.tdiv b) := by
  have h1 : Int32.minValue.toInt = -2147483648 := by decide
  have h2 : Int32.maxValue.toInt = 2147483647 := by decide
  exact (Int32.ofInt_tdiv (by omega) (by omega) (by omega) (by omega)).symm
theorem ps_div64 {a b : Int} (ha : a.natAbs < 9223372036854775808) (hb : b.natAbs < 9223372036854775808) : Int64.ofInt a / Int64.ofInt b = Int64.ofInt (a.tdiv b) := by
  have h1 : Int64.minValue.toInt = -9223372036854775808 := by decide
  have h2 : Int64.maxValue.toInt = 9223372036854775807 := by decide
  exact (Int64.ofInt_tdiv (by omega) (by omega) (by omega) (by omega)).symm
theorem ps_pb {x y : Int} {a b : Nat} (hx : x.natAbs ≤ a) (hy : y.natAbs ≤ b) : (x * y).natAbs ≤ a * b := by
  rw [Int.natAbs_mul]
  exact Nat.mul_le_mul hx hy
/-- Euclid's steps: from (a, b) the second number is 0 within m steps -/
def ps_eu : Nat → Nat → Nat → Prop
  | 0, _, b => b = 0
  | m + 1, a, b => b = 0 ∨ ps_eu m b (a % b)
theorem ps_eu0 : ∀ m a, ps_eu m a 0
  | 0, _ => rfl
  | _ + 1, _ => Or.inl rfl
theorem ps_eul : ∀ n a b, b < 2 ^ n → ps_eu (2 * n) a b := by
  intro n
  induction n with
  | zero => intro a b h; show b = 0; omega
  | succ n ih =>
    intro a b h
    show b = 0 ∨ (a % b = 0 ∨ ps_eu (2 * n) (a % b) (b % (a % b)))
    by_cases hb : b = 0
    · exact Or.inl hb
    · by_cases hr : a % b = 0
      · exact Or.inr (Or.inl hr)
      · refine Or.inr (Or.inr (ih _ _ ?_))
        have h1 : a % b < b := Nat.mod_lt _ (by omega)
        have h2 : b % (a % b) < a % b := Nat.mod_lt _ (by omega)
        have h3 : b % (a % b) = (b - a % b) % (a % b) := Nat.mod_eq_sub_mod (by omega)
        have h4 := Nat.mod_le (b - a % b) (a % b)
        rw [Nat.pow_succ] at h
        omega
theorem ps_eum : ∀ m k a b, ps_eu m a b → m ≤ k → ps_eu k a b := by
  intro m
  induction m with
  | zero => intro k a b h _; have e : b = 0 := h; rw [e]; exact ps_eu0 k a
  | succ m ih =>
    intro k a b h hk
    obtain ⟨k', rfl⟩ : ∃ k', k = k' + 1 := ⟨k - 1, by omega⟩
    exact h.elim Or.inl (fun h' => Or.inr (ih k' _ _ h' (by omega)))
theorem ps_gs (a b : Nat) : Nat.gcd b (a % b) = Nat.gcd a b := by
  rw [Nat.gcd_comm a b, Nat.gcd_rec b a, Nat.gcd_comm]
theorem ps_bits : ∀ p, p < 16 → ∀ s, s < 4 → (nI p >>> (nI s &&& 31)) &&& 1 = nI (p / 2 ^ s % 2) := by decide +kernel
