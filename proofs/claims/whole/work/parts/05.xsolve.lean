/-! the class: minors, determinants, Euclid, the equations, solveEquations -/
theorem ps_m2x (n : Nat) : nI n * 2 = nI (2 * n) := by rw [show (2 : Int32) = nI 2 from rfl, pk_mul, Nat.mul_comm]
theorem ps_m4x (n : Nat) : nI n * 4 = nI (4 * n) := by rw [show (4 : Int32) = nI 4 from rfl, pk_mul, Nat.mul_comm]
theorem ps_m5x (n : Nat) : nI n * 5 = nI (5 * n) := by rw [show (5 : Int32) = nI 5 from rfl, pk_mul, Nat.mul_comm]
theorem ps_m2y (n : Nat) : 2 * nI n = nI (2 * n) := pk_mul 2 n
theorem ps_m4y (n : Nat) : 4 * nI n = nI (4 * n) := pk_mul 4 n
theorem ps_m5y (n : Nat) : 5 * nI n = nI (5 * n) := pk_mul 5 n
theorem ps_a5 (n : Nat) : nI n + 5 = nI (n + 5) := nI_add n 5
theorem ps_a4 (n : Nat) : nI n + 4 = nI (n + 4) := nI_add n 4
theorem ps_x4 (p s : Nat) : nI p * 4 + nI s = nI (4 * p + s) := by rw [ps_m4x, nI_add]
theorem ps_y4 (p s : Nat) : 4 * nI p + nI s = nI (4 * p + s) := by rw [ps_m4y, nI_add]
theorem ps_xmin {post : Int32 → Prop} (R S E T B I : Nat → Int32) {r a b : Nat} (hr : r ≤ 2) (ha : a < 5) (hb : b < 5) (h : post (E (5 * r + a) * E (5 * r + 5 + b) - E (5 * r + b) * E (5 * r + 5 + a))) : wpX_minor post (R, S, E, T, B, I) (nI r) (nI a) (nI b) := by
  unfold wpX_minor
  dsimp only
  refine nm_r (ps_m5x r) (nm_r (ps_a5 (5 * r)) ?_)
  rw [nI_add (5 * r) a, nI_add (5 * r) b, nI_add (5 * r + 5) a, nI_add (5 * r + 5) b, nI_clamp (show 5 * r + a < 2 ^ 31 by omega), nI_clamp (show 5 * r + b < 2 ^ 31 by omega), nI_clamp (show 5 * r + 5 + a < 2 ^ 31 by omega), nI_clamp (show 5 * r + 5 + b < 2 ^ 31 by omega)]
  exact ⟨vp_in_nI (by omega) (by omega), vp_in_nI (by omega) (by omega), vp_in_nI (by omega) (by omega), vp_in_nI (by omega) (by omega), h⟩
theorem ps_xm0 {post : Int32 → Prop} (R S E T B I : Nat → Int32) {f : Nat → Nat → Int} (hE : ∀ s t, s < 4 → t < 5 → E (5 * s + t) = Int32.ofInt (f s t)) {a b : Nat} (ha : a < 5) (hb : b < 5) (h : post (Int32.ofInt (f 0 a * f 1 b - f 0 b * f 1 a))) : wpX_minor post (R, S, E, T, B, I) 0 (nI a) (nI b) := by
  refine ps_xmin R S E T B I (r := 0) (by decide) ha hb ?_
  have e1 : E (5 * 0 + a) = _ := hE 0 a (by decide) ha
  have e2 : E (5 * 0 + 5 + b) = _ := hE 1 b (by decide) hb
  have e3 : E (5 * 0 + b) = _ := hE 0 b (by decide) hb
  have e4 : E (5 * 0 + 5 + a) = _ := hE 1 a (by decide) ha
  rw [e1, e2, e3, e4, ← Int32.ofInt_mul, ← Int32.ofInt_mul, ← Int32.ofInt_sub]
  exact h
theorem ps_xm2 {post : Int32 → Prop} (R S E T B I : Nat → Int32) {f : Nat → Nat → Int} (hE : ∀ s t, s < 4 → t < 5 → E (5 * s + t) = Int32.ofInt (f s t)) {a b : Nat} (ha : a < 5) (hb : b < 5) (h : post (Int32.ofInt (f 2 a * f 3 b - f 2 b * f 3 a))) : wpX_minor post (R, S, E, T, B, I) 2 (nI a) (nI b) := by
  refine ps_xmin R S E T B I (r := 2) (by decide) ha hb ?_
  have e1 : E (5 * 2 + a) = _ := hE 2 a (by decide) ha
  have e2 : E (5 * 2 + 5 + b) = _ := hE 3 b (by decide) hb
  have e3 : E (5 * 2 + b) = _ := hE 2 b (by decide) hb
  have e4 : E (5 * 2 + 5 + a) = _ := hE 3 a (by decide) ha
  rw [e1, e2, e3, e4, ← Int32.ofInt_mul, ← Int32.ofInt_mul, ← Int32.ofInt_sub]
  exact h
theorem ps_xdet {post : Int32 → Prop} (R S E T B I : Nat → Int32) {f : Nat → Nat → Int} (hE : ∀ s t, s < 4 → t < 5 → E (5 * s + t) = Int32.ofInt (f s t)) {c0 c1 c2 c3 : Nat} (h0 : c0 < 5) (h1 : c1 < 5) (h2 : c2 < 5) (h3 : c3 < 5) {D : Int} (hD : D = ps_d4 (f 0 c0) (f 0 c1) (f 0 c2) (f 0 c3) (f 1 c0) (f 1 c1) (f 1 c2) (f 1 c3) (f 2 c0) (f 2 c1) (f 2 c2) (f 2 c3) (f 3 c0) (f 3 c1) (f 3 c2) (f 3 c3)) (h : post (Int32.ofInt D)) : wpX_determinant post (R, S, E, T, B, I) (nI c0) (nI c1) (nI c2) (nI c3) := by
  subst hD
  unfold wpX_determinant
  dsimp only
  refine ps_xm0 R S E T B I hE h0 h1 ?_
  refine ps_xm2 R S E T B I hE h2 h3 ?_
  refine ps_xm0 R S E T B I hE h0 h2 ?_
  refine ps_xm2 R S E T B I hE h1 h3 ?_
  refine ps_xm0 R S E T B I hE h0 h3 ?_
  refine ps_xm2 R S E T B I hE h1 h2 ?_
  refine ps_xm0 R S E T B I hE h1 h2 ?_
  refine ps_xm2 R S E T B I hE h0 h3 ?_
  refine ps_xm0 R S E T B I hE h1 h3 ?_
  refine ps_xm2 R S E T B I hE h0 h2 ?_
  refine ps_xm0 R S E T B I hE h2 h3 ?_
  refine ps_xm2 R S E T B I hE h0 h1 ?_
  simp only [ps_d4, Int32.ofInt_add, Int32.ofInt_sub, Int32.ofInt_mul] at h ⊢
  exact h
theorem ps_xcd {post : Int32 → Prop} : ∀ m a b i, ps_eu m a b → i + m < 1000 → a < 2147483648 → b < 2147483648 → post (nI (Nat.gcd a b)) → wX_commonDivisor_16 post (m + 1) (nI a) (nI b) (nI i) := by
  intro m
  induction m with
  | zero =>
    intro a b i hu hi ha hb hp
    have e : b = 0 := hu
    subst e
    rw [Nat.gcd_zero_right] at hp
    exact br_f (nI_ge (b := 1000) (by omega) (by decide)) (br_t nI_0 hp)
  | succ m ih =>
    intro a b i hu hi ha hb hp
    by_cases e : b = 0
    · subst e
      rw [Nat.gcd_zero_right] at hp
      exact br_f (nI_ge (b := 1000) (by omega) (by decide)) (br_t nI_0 hp)
    · have hu' : ps_eu m b (a % b) := hu.resolve_left e
      have hb0 : 0 < b := by omega
      have hlt : a % b < b := Nat.mod_lt _ hb0
      have n0 := nI_ne0 hb0 hb
      refine br_f (nI_ge (b := 1000) (by omega) (by decide)) (br_f n0 ⟨n0, nm_r (pk_rem ha hb0 hb) (nm_r (nI_1 i) ?_)⟩)
      exact ih b (a % b) (i + 1) hu' (by omega) hb (by omega) (by rw [ps_gs]; exact hp)
theorem ps_xgcd {post : Int32 → Prop} {t b : Int} (ht : t.natAbs ≤ 1966080) (hb : 1 ≤ b ∧ b ≤ 98304) (h : post (nI (Nat.gcd t.natAbs b.natAbs))) : wpX_commonDivisor post (Int32.ofInt t) (Int32.ofInt b) := by
  have hb2 : b.natAbs ≤ 98304 := by omega
  have key := ps_xcd (post := post) 34 t.natAbs b.natAbs 0 (ps_eul 17 t.natAbs b.natAbs (Nat.lt_of_le_of_lt hb2 (by decide))) (by decide) (by omega) (by omega) h
  have eb : Int32.ofInt b = nI b.natAbs := by
    rw [← ps_nI]
    congr 1
    omega
  rw [eb]
  unfold wpX_commonDivisor
  by_cases h0 : 0 ≤ t
  · have e : Int32.ofInt t = nI t.natAbs := by
      rw [← ps_nI]
      congr 1
      omega
    rw [e]
    exact br_t (nI_pos' (by omega)) ⟨_, key⟩
  · have e : -Int32.ofInt t = nI t.natAbs := by
      rw [← ps_nI, ← Int32.ofInt_neg]
      congr 1
      omega
    refine br_f ?_ (nm_r e ⟨_, key⟩)
    rw [Int32.le_iff_toInt_le, ps_t32 (by omega), show (0 : Int32).toInt = 0 by decide]
    exact h0
theorem ps_xsto {post : SX → Prop} (R S E T B I : Nat → Int32) {j : Nat} (hj : j < 64) {t b : Int} (ht : t.natAbs ≤ 1966080) (hb : 1 ≤ b ∧ b ≤ 98304) (h : post (R, S, E, upd T j (Int32.ofInt (t.tdiv (Nat.gcd t.natAbs b.natAbs : Nat))), upd B j (Int32.ofInt (b.tdiv (Nat.gcd t.natAbs b.natAbs : Nat))), I)) : wpX_storeLowest post (R, S, E, T, B, I) (nI j) (Int32.ofInt t) (Int32.ofInt b) := by
  have g0 : 0 < Nat.gcd t.natAbs b.natAbs := Nat.gcd_pos_of_pos_right _ (by omega)
  have g1 : Nat.gcd t.natAbs b.natAbs ≤ b.natAbs := Nat.gcd_le_right _ (by omega)
  unfold wpX_storeLowest
  dsimp only
  refine ps_xgcd ht hb ?_
  generalize Nat.gcd t.natAbs b.natAbs = g at g0 g1 h ⊢
  have n0 := nI_ne0 g0 (show g < 2 ^ 31 by omega)
  have hi : vp_in (nI j) 64 := vp_in_nI hj (by decide)
  have d1 : upd T (nI j).toNatClampNeg (Int32.ofInt t / nI g) = upd T j (Int32.ofInt (t.tdiv (g : Int))) := by
    rw [nI_clamp (by omega), ← ps_nI, ps_div32 (by omega) (by omega)]
  have d2 : upd B (nI j).toNatClampNeg (Int32.ofInt b / nI g) = upd B j (Int32.ofInt (b.tdiv (g : Int))) := by
    rw [nI_clamp (by omega), ← ps_nI, ps_div32 (by omega) (by omega)]
  exact br_f (nI_nle g0 (by omega)) ⟨n0, hi, nm_r d1 ⟨n0, hi, nm_r d2 h⟩⟩
theorem ps_d8 (x : Int32) : -x + 8 = Int32.ofInt (8 - x.toInt) := by
  rw [Int32.ofInt_sub, Int32.ofInt_toInt]
  show -x + 8 = 8 - x
  grind
theorem ps_d0 (x : Int32) : -x = Int32.ofInt (0 - x.toInt) := by
  rw [Int32.ofInt_sub, Int32.ofInt_toInt]
  show -x = 0 - x
  grind
theorem ps_dr (x : Int32) : 8 * x = Int32.ofInt (8 * x.toInt) := by
  rw [Int32.ofInt_mul, Int32.ofInt_toInt]
  rfl
/-- the rows below m of the equations of the policy p -/
def ps_rows (R S : Nat → Int32) (p m : Nat) (E : Nat → Int32) : Prop := ∀ s t, s < m → t < 5 → E (5 * s + t) = Int32.ofInt (ps_e R S p s t)
theorem ps_row1 {R S E : Nat → Int32} {p s : Nat} (hs : s < 4) (h : ps_rows R S p s E) (hc : ∀ t, t < 4 → E (5 * s + t) = -(S (4 * ps_kk p s + t))) : ps_rows R S p (s + 1) (upd (upd E (5 * s + s) (E (5 * s + s) + 8)) (5 * s + 4) (8 * R (ps_kk p s))) := by
  intro s' t' hs' ht'
  by_cases e : s' = s
  · subst e
    by_cases e4 : t' = 4
    · subst e4
      rw [pk_us, ps_dr, ps_e, if_pos rfl]
    · rw [pk_un (by omega), ps_e, if_neg e4]
      by_cases e5 : s' = t'
      · subst e5
        rw [pk_us, hc s' hs, ps_d8, if_pos rfl]
      · rw [pk_un (by omega), hc t' (by omega), ps_d0, if_neg e5]
  · rw [pk_un (by omega), pk_un (by omega)]
    exact h s' t' (by omega) ht'
theorem ps_xw25 {post : SX → Prop} {J : Int32 → (Nat → Int32) → (Nat → Int32) → (Nat → Int32) → (Nat → Int32) → (Nat → Int32) → (Nat → Int32) → Prop} (R S T B I : Nat → Int32) {p s : Nat} (hs : s < 4) :
    ∀ n t E, t ≤ 4 → 4 - t < n → ps_rows R S p s E → (∀ t', t' < t → E (5 * s + t') = -(S (4 * ps_kk p s + t'))) → (∀ E', ps_rows R S p (s + 1) E' → J (nI (s + 1)) R S E' T B I) → wX_writeEquations_25 post J (nI p) (nI s) (nI (ps_kk p s)) (nI (5 * s)) n (nI t) R S E T B I := by
  intro n
  induction n with
  | zero => intro t E _ h; omega
  | succ n ih =>
    intro t E ht hn hr hc hJ
    have hk := ps_kk_lt p hs
    have n5 : ∀ m, m < 4 → ∀ k, k < 5 → (nI (5 * m + k)).toNatClampNeg = 5 * m + k := fun m hm k hk => nI_clamp (by omega)
    by_cases e : t = 4
    · subst e
      have i1 : vp_in (nI (5 * s) + nI s) 20 := by
        rw [nI_add]
        exact vp_in_nI (by omega) (by decide)
      have i2 : vp_in (nI (5 * s) + 4) 20 := by
        rw [ps_a4]
        exact vp_in_nI (by omega) (by decide)
      refine br_t (nI_le (a := 4) (by decide) (by decide)) ⟨i1, i1, nm_r (e' := upd E (5 * s + s) (E (5 * s + s) + 8)) (by rw [nI_add, n5 s hs s (by omega)]) ⟨vp_in_nI hk (by decide), i2, nm_r (e' := upd (upd E (5 * s + s) (E (5 * s + s) + 8)) (5 * s + 4) (8 * R (ps_kk p s))) (by rw [ps_a4, n5 s hs 4 (by decide), nI_clamp (by omega)]) (nm_r (nI_1 s) ?_)⟩⟩
      exact hJ _ (ps_row1 hs hr hc)
    · have ht4 : t < 4 := by omega
      have x1 : nI (ps_kk p s) * 4 + nI t = nI (4 * ps_kk p s + t) := ps_x4 _ _
      have x2 : nI (5 * s) + nI t = nI (5 * s + t) := nI_add _ _
      refine br_f (nI_ge (b := 4) ht4 (by decide)) ⟨by rw [x1]; exact vp_in_nI (by omega) (by decide), by rw [x2]; exact vp_in_nI (by omega) (by decide), nm_r (e' := upd E (5 * s + t) (-(S (4 * ps_kk p s + t)))) (by rw [x1, x2, nI_clamp (by omega), nI_clamp (by omega)]) (nm_r (nI_1 t) ?_)⟩
      refine ih (t + 1) _ (by omega) (by omega) (fun s' t' hs' ht' => ?_) (fun t' ht' => ?_) hJ
      · rw [pk_un (by omega)]
        exact hr s' t' hs' ht'
      · by_cases e2 : t' = t
        · subst e2
          rw [pk_us]
        · rw [pk_un (by omega)]
          exact hc t' (by omega)
theorem ps_xw2 {post : SX → Prop} (R S T B I : Nat → Int32) {p : Nat} (hp : p < 16) :
    ∀ n s E, s ≤ 4 → 4 - s < n → ps_rows R S p s E → (∀ E', ps_rows R S p 4 E' → post (R, S, E', T, B, I)) → wX_writeEquations_2 post (nI p) n (nI s) R S E T B I := by
  intro n
  induction n with
  | zero => intro s E _ h; omega
  | succ n ih =>
    intro s E hs hn hr hJ
    by_cases e : s = 4
    · subst e
      exact br_t (nI_le (a := 4) (by decide) (by decide)) (hJ E hr)
    · have hs4 : s < 4 := by omega
      refine br_f (nI_ge (b := 4) hs4 (by decide)) ?_
      unfold wpX_actionOf
      have ek : nI s * 2 + (nI p >>> (nI s &&& 31) &&& 1) = nI (ps_kk p s) := by
        rw [ps_bits p hp s hs4, ps_m2x, nI_add]
        rfl
      refine nm_r ek (nm_r (ps_m5x s) ⟨5, ?_⟩)
      exact ps_xw25 R S T B I hs4 5 0 E (by decide) (by decide) hr (fun t' ht' => absurd ht' (Nat.not_lt_zero t')) (fun E' hE' => ih (s + 1) E' (by omega) (by omega) hE' hJ)
theorem ps_xwr {post : SX → Prop} (R S E T B I : Nat → Int32) {p : Nat} (hp : p < 16) (h : ∀ E', ps_rows R S p 4 E' → post (R, S, E', T, B, I)) : wpX_writeEquations post (R, S, E, T, B, I) (nI p) :=
  ⟨5, ps_xw2 R S T B I hp 5 0 E (by decide) (by decide) (fun _ _ hs => absurd hs (Nat.not_lt_zero _)) h⟩
