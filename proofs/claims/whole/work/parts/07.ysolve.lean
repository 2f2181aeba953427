/-! the reference: at, minor, determinant, write, solve, common, order, isBest -/
def ps_yr (R S : Nat → Int32) (p m : Nat) (W : Nat → Int64) : Prop := ∀ s t, s < m → t < 5 → W (5 * s + t) = Int64.ofInt (ps_e R S p s t)
theorem ps_yat {post : Int64 → Prop} (R S : Nat → Int32) (W X Z : Nat → Int64) {f : Nat → Nat → Int} (hW : ∀ s t, s < 4 → t < 5 → W (5 * s + t) = Int64.ofInt (f s t)) {s t c : Nat} (hs : s < 4) (ht : t < 4) (hc : c ≤ 4) (h : post (Int64.ofInt (f s (ps_cc c t)))) : wpY_at post (R, S, W, X, Z) (nI s) (nI t) (nI c) := by
  unfold wpY_at
  dsimp only
  unfold ps_cc at h
  by_cases e : c = t
  · rw [if_pos e] at h
    refine br_t (congrArg nI e.symm) ⟨?_, ?_⟩
    · rw [ps_m5y, ps_a4]
      exact vp_in_nI (by omega) (by decide)
    · rw [ps_m5y, ps_a4, nI_clamp (by omega), hW s 4 hs (by decide)]
      exact h
  · rw [if_neg e] at h
    refine br_f (fun z => e ((nI_eq (by omega) (by omega)).mp z).symm) ⟨?_, ?_⟩
    · rw [ps_m5y, nI_add]
      exact vp_in_nI (by omega) (by decide)
    · rw [ps_m5y, nI_add, nI_clamp (by omega), hW s t hs (by omega)]
      exact h
theorem ps_y32 {post : Int64 → Prop} (R S : Nat → Int32) (W X Z : Nat → Int64) {f : Nat → Nat → Int} (hW : ∀ s t, s < 4 → t < 5 → W (5 * s + t) = Int64.ofInt (f s t)) {a b c k : Nat} (ha : a < 4) (hb : b < 4) (hc : c < 4) (hk : k ≤ 4)
    (h : post (Int64.ofInt (f 1 (ps_cc k a) * (f 2 (ps_cc k b) * f 3 (ps_cc k c) - f 2 (ps_cc k c) * f 3 (ps_cc k b)) - f 1 (ps_cc k b) * (f 2 (ps_cc k a) * f 3 (ps_cc k c) - f 2 (ps_cc k c) * f 3 (ps_cc k a)) + f 1 (ps_cc k c) * (f 2 (ps_cc k a) * f 3 (ps_cc k b) - f 2 (ps_cc k b) * f 3 (ps_cc k a))))) : wY_minor_32 post (nI k) (nI a) (nI b) (nI c) R S W X Z := by
  unfold wY_minor_32
  refine ps_yat R S W X Z hW (s := 2) (t := b) (c := k) (by decide) hb hk ?_
  refine ps_yat R S W X Z hW (s := 3) (t := c) (c := k) (by decide) hc hk ?_
  refine ps_yat R S W X Z hW (s := 2) (t := c) (c := k) (by decide) hc hk ?_
  refine ps_yat R S W X Z hW (s := 3) (t := b) (c := k) (by decide) hb hk (nm_e ?_)
  refine ps_yat R S W X Z hW (s := 2) (t := a) (c := k) (by decide) ha hk ?_
  refine ps_yat R S W X Z hW (s := 3) (t := c) (c := k) (by decide) hc hk ?_
  refine ps_yat R S W X Z hW (s := 2) (t := c) (c := k) (by decide) hc hk ?_
  refine ps_yat R S W X Z hW (s := 3) (t := a) (c := k) (by decide) ha hk (nm_e ?_)
  refine ps_yat R S W X Z hW (s := 2) (t := a) (c := k) (by decide) ha hk ?_
  refine ps_yat R S W X Z hW (s := 3) (t := b) (c := k) (by decide) hb hk ?_
  refine ps_yat R S W X Z hW (s := 2) (t := b) (c := k) (by decide) hb hk ?_
  refine ps_yat R S W X Z hW (s := 3) (t := a) (c := k) (by decide) ha hk (nm_e ?_)
  refine ps_yat R S W X Z hW (s := 1) (t := a) (c := k) (by decide) ha hk ?_
  refine ps_yat R S W X Z hW (s := 1) (t := b) (c := k) (by decide) hb hk ?_
  refine ps_yat R S W X Z hW (s := 1) (t := c) (c := k) (by decide) hc hk ?_
  simp only [Int64.ofInt_add, Int64.ofInt_sub, Int64.ofInt_mul] at h ⊢
  exact h
theorem ps_ym0 {post : Int64 → Prop} {R S : Nat → Int32} {W X Z : Nat → Int64} {k : Int32} (h : wY_minor_32 post k (nI 1) (nI 2) (nI 3) R S W X Z) : wpY_minor post (R, S, W, X, Z) (nI 0) k :=
  br_t (show nI 0 = 0 by decide) (br_f (show ¬ (1 : Int32) < nI 0 by decide) (br_f (show ¬ (2 : Int32) < nI 0 by decide) h))
theorem ps_ym1 {post : Int64 → Prop} {R S : Nat → Int32} {W X Z : Nat → Int64} {k : Int32} (h : wY_minor_32 post k (nI 0) (nI 2) (nI 3) R S W X Z) : wpY_minor post (R, S, W, X, Z) (nI 1) k :=
  br_f (show ¬ nI 1 = 0 by decide) (br_f (show ¬ (1 : Int32) < nI 1 by decide) (br_f (show ¬ (2 : Int32) < nI 1 by decide) h))
theorem ps_ym2 {post : Int64 → Prop} {R S : Nat → Int32} {W X Z : Nat → Int64} {k : Int32} (h : wY_minor_32 post k (nI 0) (nI 1) (nI 3) R S W X Z) : wpY_minor post (R, S, W, X, Z) (nI 2) k :=
  br_f (show ¬ nI 2 = 0 by decide) (br_t (show (1 : Int32) < nI 2 by decide) (br_f (show ¬ (2 : Int32) < nI 2 by decide) h))
theorem ps_ym3 {post : Int64 → Prop} {R S : Nat → Int32} {W X Z : Nat → Int64} {k : Int32} (h : wY_minor_32 post k (nI 0) (nI 1) (nI 2) R S W X Z) : wpY_minor post (R, S, W, X, Z) (nI 3) k :=
  br_f (show ¬ nI 3 = 0 by decide) (br_t (show (1 : Int32) < nI 3 by decide) (br_t (show (2 : Int32) < nI 3 by decide) h))
theorem ps_ydet {post : Int64 → Prop} (R S : Nat → Int32) (W X Z : Nat → Int64) {f : Nat → Nat → Int} (hW : ∀ s t, s < 4 → t < 5 → W (5 * s + t) = Int64.ofInt (f s t)) {k : Nat} (hk : k ≤ 4) {D : Int}
    (hD : D = ps_d4 (f 0 (ps_cc k 0)) (f 0 (ps_cc k 1)) (f 0 (ps_cc k 2)) (f 0 (ps_cc k 3)) (f 1 (ps_cc k 0)) (f 1 (ps_cc k 1)) (f 1 (ps_cc k 2)) (f 1 (ps_cc k 3)) (f 2 (ps_cc k 0)) (f 2 (ps_cc k 1)) (f 2 (ps_cc k 2)) (f 2 (ps_cc k 3)) (f 3 (ps_cc k 0)) (f 3 (ps_cc k 1)) (f 3 (ps_cc k 2)) (f 3 (ps_cc k 3))) (h : post (Int64.ofInt D)) : wpY_determinant post (R, S, W, X, Z) (nI k) := by
  rw [hD, ← ps_lap] at h
  clear hD
  refine ⟨4 + 1, br_f (show ¬ (4 : Int32) ≤ 0 by decide) (ps_yat R S W X Z hW (s := 0) (t := 0) (c := k) (by decide) (by decide) hk (ps_ym0 (ps_y32 R S W X Z hW (by decide) (by decide) (by decide) hk (nm_e ⟨by decide, br_t (by decide) (nm_e (nm_r (e' := nI 1) (by decide) ?_))⟩))))⟩
  refine br_f (show ¬ (4 : Int32) ≤ nI 1 by decide) (ps_yat R S W X Z hW (s := 0) (t := 1) (c := k) (by decide) (by decide) hk (ps_ym1 (ps_y32 R S W X Z hW (by decide) (by decide) (by decide) hk (nm_e ⟨by decide, br_f (by decide) (nm_e (nm_r (e' := nI 2) (by decide) ?_))⟩))))
  refine br_f (show ¬ (4 : Int32) ≤ nI 2 by decide) (ps_yat R S W X Z hW (s := 0) (t := 2) (c := k) (by decide) (by decide) hk (ps_ym2 (ps_y32 R S W X Z hW (by decide) (by decide) (by decide) hk (nm_e ⟨by decide, br_t (by decide) (nm_e (nm_r (e' := nI 3) (by decide) ?_))⟩))))
  refine br_f (show ¬ (4 : Int32) ≤ nI 3 by decide) (ps_yat R S W X Z hW (s := 0) (t := 3) (c := k) (by decide) (by decide) hk (ps_ym3 (ps_y32 R S W X Z hW (by decide) (by decide) (by decide) hk (nm_e ⟨by decide, br_f (by decide) (nm_e (nm_r (e' := nI 4) (by decide) ?_))⟩))))
  refine br_t (show (4 : Int32) ≤ nI 4 by decide) ?_
  simp only [Int64.ofInt_add, Int64.ofInt_sub, Int64.ofInt_mul, Int64.ofInt_neg, show Int64.ofInt 0 = 0 from rfl] at h ⊢
  exact h
theorem ps_yc (x : Int32) (z : Int) (hz : (z - x.toInt).natAbs ≤ 8) : (Int32.ofInt z - x).toInt64 = Int64.ofInt (z - x.toInt) := by
  rw [show Int32.ofInt z - x = Int32.ofInt (z - x.toInt) by rw [Int32.ofInt_sub, Int32.ofInt_toInt], ps_i64 (by omega)]
theorem ps_yrh (x : Int32) : 8 * x.toInt64 = Int64.ofInt (8 * x.toInt) := by
  rw [Int64.ofInt_mul, Int64.ofInt_int32ToInt]
  rfl
theorem ps_yw48 {post : SY → Prop} {J J0 : Int32 → (Nat → Int32) → (Nat → Int32) → (Nat → Int64) → (Nat → Int64) → (Nat → Int64) → Prop} {R S : Nat → Int32} (h : ps_st R S) (W X Z : Nat → Int64) {p s t : Nat} (hs : s < 4) (ht : t < 4)
    (hJ : J (nI (t + 1)) R S (vp_updL W (5 * s + t) (Int64.ofInt (ps_e R S p s t))) X Z) : (nI s = nI t → wY_write_48 post J0 J (nI p) (nI s) (nI (ps_kk p s)) (nI t) 8 (5 * nI s + nI t) R S W X Z) ∧ (¬ nI s = nI t → wY_write_48 post J0 J (nI p) (nI s) (nI (ps_kk p s)) (nI t) 0 (5 * nI s + nI t) R S W X Z) := by
  have hb := ps_eb h p hs ht
  have hk := ps_kk_lt p hs
  have i1 : vp_in (4 * nI (ps_kk p s) + nI t) 32 := by
    rw [ps_y4]
    exact vp_in_nI (by omega) (by decide)
  have x2 : 5 * nI s + nI t = nI (5 * s + t) := by rw [ps_m5y, nI_add]
  have i2 : vp_in (5 * nI s + nI t) 20 := by
    rw [x2]
    exact vp_in_nI (by omega) (by decide)
  rw [nI_eq (by omega) (by omega)]
  unfold ps_e at hb hJ
  rw [if_neg (show ¬ t = 4 by omega)] at hb hJ
  by_cases e : s = t
  · rw [if_pos e] at hb hJ
    refine br_t e ⟨i1, i2, nm_r (e' := vp_updL W (5 * s + t) (Int64.ofInt (8 - (S (4 * ps_kk p s + t)).toInt))) ?_ (nm_r (nI_1 t) hJ)⟩
    rw [x2, ps_y4, nI_clamp (by omega), nI_clamp (by omega)]
    exact congrArg _ (ps_yc _ 8 hb)
  · rw [if_neg e] at hb hJ
    refine br_f e ⟨i1, i2, nm_r (e' := vp_updL W (5 * s + t) (Int64.ofInt (0 - (S (4 * ps_kk p s + t)).toInt))) ?_ (nm_r (nI_1 t) hJ)⟩
    rw [x2, ps_y4, nI_clamp (by omega), nI_clamp (by omega)]
    exact congrArg _ (ps_yc _ 0 hb)
theorem ps_yw20 {post : SY → Prop} {J : Int32 → (Nat → Int32) → (Nat → Int32) → (Nat → Int64) → (Nat → Int64) → (Nat → Int64) → Prop} {R S : Nat → Int32} (h : ps_st R S) (X Z : Nat → Int64) {p s : Nat} (hs : s < 4) (hJ : ∀ W', ps_yr R S p (s + 1) W' → J (nI (s + 1)) R S W' X Z) :
    ∀ n t W, t ≤ 4 → 4 - t < n → ps_yr R S p s W → (∀ t', t' < t → W (5 * s + t') = Int64.ofInt (ps_e R S p s t')) → wY_write_20 post J (nI p) (nI s) (nI (ps_kk p s)) n (nI t) R S W X Z := by
  intro n
  induction n with
  | zero => intro t W _ hn; omega
  | succ n ih =>
    intro t W ht hn hr hc
    have hk := ps_kk_lt p hs
    by_cases e : t = 4
    · subst e
      have x1 : 5 * nI s + 4 = nI (5 * s + 4) := by rw [ps_m5y, ps_a4]
      refine br_t (nI_le (a := 4) (by decide) (by decide)) ⟨vp_in_nI hk (by decide), by rw [x1]; exact vp_in_nI (by omega) (by decide), nm_r (e' := vp_updL W (5 * s + 4) (Int64.ofInt (ps_e R S p s 4))) (by rw [x1, nI_clamp (by omega), nI_clamp (by omega), ps_yrh, ps_e, if_pos rfl]) (nm_r (nI_1 s) (hJ _ ?_))⟩
      intro s' t' hs' ht'
      by_cases e1 : s' = s
      · subst e1
        by_cases e2 : t' = 4
        · subst e2
          rw [pk_uLs]
        · rw [pk_uLn (by omega)]
          exact hc t' (by omega)
      · rw [pk_uLn (by omega)]
        exact hr s' t' (by omega) ht'
    · have ht4 : t < 4 := by omega
      refine br_f (nI_ge (b := 4) ht4 (by decide)) (ps_yw48 h W X Z hs ht4 ?_)
      refine ih (t + 1) _ (by omega) (by omega) (fun s' t' hs' ht' => ?_) (lt_s (fun t' ht' => ?_) pk_uLs)
      · rw [pk_uLn (by omega)]
        exact hr s' t' hs' ht'
      · rw [pk_uLn (by omega)]
        exact hc t' ht'
theorem ps_yw2 {post : SY → Prop} {R S : Nat → Int32} (h : ps_st R S) (X Z : Nat → Int64) {p : Nat} (hp : p < 16) (hJ : ∀ W', ps_yr R S p 4 W' → post (R, S, W', X, Z)) :
    ∀ n s W, s ≤ 4 → 4 - s < n → ps_yr R S p s W → wY_write_2 post (nI p) n (nI s) R S W X Z := by
  intro n
  induction n with
  | zero => intro s W _ hn; omega
  | succ n ih =>
    intro s W hs hn hr
    by_cases e : s = 4
    · subst e
      exact br_t (nI_le (a := 4) (by decide) (by decide)) (hJ W hr)
    · have hs4 : s < 4 := by omega
      have ek : 2 * nI s + (nI p >>> (nI s &&& 31) &&& 1) = nI (ps_kk p s) := by
        rw [ps_bits p hp s hs4, ps_m2y, nI_add]
        rfl
      refine br_f (nI_ge (b := 4) hs4 (by decide)) (nm_r ek ⟨5, ?_⟩)
      exact ps_yw20 h X Z hs4 (fun W' hW' => ih (s + 1) W' (by omega) (by omega) hW') 5 0 W (by decide) (by decide) hr lt_0
def ps_ys (R S : Nat → Int32) (m : Nat) (X Z : Nat → Int64) : Prop := ∀ j, j < m → X j = Int64.ofInt (ps_tJ R S j) ∧ Z j = Int64.ofInt (ps_bJ R S j)
theorem ps_ys22 {post : SY → Prop} {J : Int32 → (Nat → Int32) → (Nat → Int32) → (Nat → Int64) → (Nat → Int64) → (Nat → Int64) → Prop} {R S : Nat → Int32} {W : Nat → Int64} {p : Nat} (hp : p < 16) (hW : ps_yr R S p 4 W) (hJ : ∀ X' Z', ps_ys R S (4 * p + 4) X' Z' → J (nI (p + 1)) R S W X' Z') :
    ∀ n s X Z, s ≤ 4 → 4 - s < n → ps_ys R S (4 * p + s) X Z → wY_solve_22 post J (nI p) (Int64.ofInt (ps_top R S p 4)) n (nI s) R S W X Z := by
  intro n
  induction n with
  | zero => intro s X Z _ hn; omega
  | succ n ih =>
    intro s X Z hs hn hX
    by_cases e : s = 4
    · subst e
      exact br_t (nI_le (a := 4) (by decide) (by decide)) (nm_r (nI_1 p) (hJ X Z hX))
    · have hs4 : s < 4 := by omega
      have i1 : vp_in (4 * nI p + nI s) 64 := by
        rw [ps_y4]
        exact vp_in_nI (by omega) (by decide)
      refine br_f (nI_ge (b := 4) hs4 (by decide)) (ps_ydet R S W X Z hW (k := s) hs (D := ps_top R S p s) rfl ?_)
      refine ⟨i1, nm_r (e' := vp_updL X (4 * p + s) (Int64.ofInt (ps_top R S p s))) (by rw [ps_y4, nI_clamp (by omega)]) ⟨i1, nm_r (e' := vp_updL Z (4 * p + s) (Int64.ofInt (ps_top R S p 4))) (by rw [ps_y4, nI_clamp (by omega)]) (nm_r (nI_1 s) ?_)⟩⟩
      refine ih (s + 1) _ _ (by omega) (by omega) (fun j hj => ?_)
      by_cases e1 : j = 4 * p + s
      · subst e1
        rw [pk_uLs, pk_uLs, ps_jt R S p hs4, ps_jb R S p hs4]
        exact ⟨rfl, rfl⟩
      · rw [pk_uLn e1, pk_uLn e1]
        exact hX j (by omega)
theorem ps_ys2 {post : SY → Prop} {R S : Nat → Int32} (h : ps_st R S) (hJ : ∀ W' X' Z', ps_ys R S 64 X' Z' → post (R, S, W', X', Z')) :
    ∀ n p W X Z, p ≤ 16 → 16 - p < n → ps_ys R S (4 * p) X Z → wY_solve_2 post n (nI p) R S W X Z := by
  intro n
  induction n with
  | zero => intro p W X Z _ hn; omega
  | succ n ih =>
    intro p W X Z hp hn hX
    by_cases e : p = 16
    · subst e
      exact br_t (nI_le (a := 16) (by decide) (by decide)) (hJ W X Z hX)
    · have hp16 : p < 16 := by omega
      refine br_f (nI_ge (b := 16) hp16 (by decide)) ⟨5, ps_yw2 h X Z hp16 (fun W' hW' => ?_) 5 0 W (by decide) (by decide) (fun _ _ hs => absurd hs (Nat.not_lt_zero _))⟩
      refine ps_ydet R S W' X Z hW' (k := 4) (by decide) (D := ps_top R S p 4) rfl ?_
      exact ⟨5, ps_ys22 hp16 hW' (fun X' Z' h' => ih (p + 1) W' X' Z' (by omega) (by omega) h') 5 0 X Z (by decide) (by decide) hX⟩
theorem ps_ysol {post : SY → Prop} {R S : Nat → Int32} (W X Z : Nat → Int64) (h : ps_st R S) (hJ : ∀ W' X' Z', ps_ys R S 64 X' Z' → post (R, S, W', X', Z')) : wpY_solve post (R, S, W, X, Z) :=
  ⟨17, ps_ys2 h hJ 17 0 W X Z (by decide) (by decide) (fun _ hj => absurd hj (Nat.not_lt_zero _))⟩
