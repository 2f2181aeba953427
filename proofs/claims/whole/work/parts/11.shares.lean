/-! shares, prune and the constructors -/
theorem ps_xsc0 {post : Int32 → Prop} {x : Int32} (hx : x < 0 ∨ nI 625 ≤ x) (h : post 0) : wpX_isShareCode post x := by
  by_cases c : x < 0
  · exact br_t c h
  · exact br_f c (br_f (Int32.not_lt.mpr (hx.resolve_left c)) h)
def ps_sum (c : Nat) : Nat := c / 125 + c / 25 % 5 + c / 5 % 5 + c % 5
theorem ps_xsh0 {post : Int32 → SX → Prop} (R S E T B M : Nat → Int32) {x y z : Int32} (hb : ((x < 0 ∨ nI 4 ≤ x) ∨ (y < 0 ∨ nI 2 ≤ y)) ∨ ((z < 0 ∨ nI 625 ≤ z) ∨ ∃ c, c < 625 ∧ z = nI c ∧ ¬ ps_sum c = 4)) (h : post 0 (R, S, E, T, B, M)) : wpX_shares post (R, S, E, T, B, M) x y z := by
  unfold wpX_shares
  dsimp only
  by_cases c : (x < 0 ∨ nI 4 ≤ x) ∨ (y < 0 ∨ nI 2 ≤ y)
  · exact ps_xic0 c (br_t rfl h)
  · obtain ⟨s, hs, rfl⟩ := ps_rng (n := 4) (by decide) (fun q => c (Or.inl q))
    obtain ⟨a, ha, rfl⟩ := ps_rng (n := 2) (by decide) (fun q => c (Or.inr q))
    refine ps_xic hs ha (br_f (by decide) ?_)
    rcases hb.resolve_left c with d | ⟨k, hk, rfl, hn⟩
    · exact ps_xsc0 d (br_t rfl h)
    · exact ps_xsc hk (fun e => absurd e hn) (fun _ => br_t rfl h)
theorem ps_xsh {post : Int32 → SX → Prop} {R S : Nat → Int32} (E T B M : Nat → Int32) {s a c : Nat} (hst : ps_st R (ps_w S (4 * (2 * s + a)) c)) (hs : s < 4) (ha : a < 2) (hc : c < 625) (h4 : ps_sum c = 4) (hJ : ∀ E' T' B' M', ps_sol R (ps_w S (4 * (2 * s + a)) c) 64 T' B' → (∀ p', p' < 16 → M' p' = ps_i R (ps_w S (4 * (2 * s + a)) c) p') → post 1 (R, ps_w S (4 * (2 * s + a)) c, E', T', B', M')) : wpX_shares post (R, S, E, T, B, M) (nI s) (nI a) (nI c) := by
  have e1 : (nI s * 2 + nI a) * 4 = nI (4 * (2 * s + a)) := by rw [ps_m2x, nI_add, ps_m4x]
  unfold wpX_shares
  dsimp only
  refine ps_xic hs ha (br_f (by decide) (ps_xsc hc (fun _ => br_f (by decide) (nm_r e1 (ps_xsw E T B M (by omega) hc (ps_xall E T B M hst hJ)))) (fun e => absurd h4 e)))
theorem ps_ysh0 {post : Int32 → SY → Prop} (R S : Nat → Int32) (W X Z : Nat → Int64) {x y z : Int32} (hb : ((x < 0 ∨ nI 4 ≤ x) ∨ (y < 0 ∨ nI 2 ≤ y)) ∨ ((z < 0 ∨ nI 625 ≤ z) ∨ ∃ c, c < 625 ∧ z = nI c ∧ ¬ ps_sum c = 4)) (h : post 0 (R, S, W, X, Z)) : wpY_shares post (R, S, W, X, Z) x y z := by
  unfold wpY_shares
  dsimp only
  by_cases c : (x < 0 ∨ nI 4 ≤ x) ∨ (y < 0 ∨ nI 2 ≤ y)
  · exact ps_yic0 R S W X Z c (br_t rfl h)
  · obtain ⟨s, hs, rfl⟩ := ps_rng (n := 4) (by decide) (fun q => c (Or.inl q))
    obtain ⟨a, ha, rfl⟩ := ps_rng (n := 2) (by decide) (fun q => c (Or.inr q))
    refine ps_yic R S W X Z hs ha (br_f (by decide) ?_)
    by_cases d : z < 0
    · exact br_t d h
    · refine br_f d ?_
      rcases hb.resolve_left c with e | ⟨k, hk, rfl, hn⟩
      · exact br_f (Int32.not_le.mpr (ps_lts 624 (by decide) (e.resolve_left d))) h
      · have r5 : ∀ a, a < 625 → nI a - nI a / 5 * 5 = nI (a % 5) := fun a ha => pk_rem (d := 5) (by omega) (by decide) (by decide)
        have d5 : ∀ a, a < 625 → nI a / 5 = nI (a / 5) := fun a ha => pk_div (d := 5) (by omega) (by decide) (by decide)
        have d25 : nI k / 25 = nI (k / 25) := pk_div (d := 25) (by omega) (by decide) (by decide)
        have d125 : nI k / 125 = nI (k / 125) := pk_div (d := 125) (by omega) (by decide) (by decide)
        have es : nI k / 125 + (nI k / 25 - nI k / 25 / 5 * 5) + (nI k / 5 - nI k / 5 / 5 * 5) + (nI k - nI k / 5 * 5) = nI (ps_sum k) := by
          rw [r5 k hk, d5 k hk, d25, d125, r5 (k / 25) (by omega), r5 (k / 5) (by omega), nI_add, nI_add, nI_add]
          rfl
        have hl : ps_sum k < 1000 := by
          unfold ps_sum
          omega
        exact br_t (nI_le (b := 624) (by omega) (by decide)) ⟨by decide, by decide, by decide, by decide, by decide, by decide, nm_r es (br_f (fun q => hn ((nI_eq (b := 4) (by omega) (by decide)).mp q)) h)⟩
theorem ps_ysh {post : Int32 → SY → Prop} (R S : Nat → Int32) (W X Z : Nat → Int64) {s a k : Nat} (hs : s < 4) (ha : a < 2) (hk : k < 625) (h4 : ps_sum k = 4) (h : post 1 (R, ps_w S (4 * (2 * s + a)) k, W, X, Z)) : wpY_shares post (R, S, W, X, Z) (nI s) (nI a) (nI k) := by
  have r5 : ∀ a, a < 625 → nI a - nI a / 5 * 5 = nI (a % 5) := fun a ha => pk_rem (d := 5) (by omega) (by decide) (by decide)
  have d5 : ∀ a, a < 625 → nI a / 5 = nI (a / 5) := fun a ha => pk_div (d := 5) (by omega) (by decide) (by decide)
  have d25 : nI k / 25 = nI (k / 25) := pk_div (d := 25) (by omega) (by decide) (by decide)
  have d125 : nI k / 125 = nI (k / 125) := pk_div (d := 125) (by omega) (by decide) (by decide)
  have es : nI k / 125 + (nI k / 25 - nI k / 25 / 5 * 5) + (nI k / 5 - nI k / 5 / 5 * 5) + (nI k - nI k / 5 * 5) = nI 4 := by
    rw [r5 k hk, d5 k hk, d25, d125, r5 (k / 25) (by omega), r5 (k / 5) (by omega), nI_add, nI_add, nI_add]
    exact congrArg nI h4
  have e1 : 4 * (2 * nI s + nI a) = nI (4 * (2 * s + a)) := by rw [ps_m2y, nI_add, ps_m4y]
  have n5 : ¬ (5 : Int32) = 0 := by decide
  have n25 : ¬ (25 : Int32) = 0 := by decide
  have n125 : ¬ (125 : Int32) = 0 := by decide
  have hf : 4 * (2 * s + a) < 29 := by omega
  rw [← ps_wY] at h
  generalize 4 * (2 * s + a) = f at e1 hf h
  have iv : ∀ t, t < 4 → vp_in (nI f + nI t) 32 := fun t ht => by
    rw [nI_add]
    exact vp_in_nI (by omega) (by decide)
  have cl : ∀ t, t < 4 → (nI f + nI t).toNatClampNeg = f + t := fun t ht => by
    rw [nI_add]
    exact nI_clamp (by omega)
  have u0 : upd S (nI f).toNatClampNeg (nI k / 125) = upd S f (nI (k / 125)) := by rw [nI_clamp (by omega), d125]
  have u1 : ∀ A : Nat → Int32, upd A (nI f + nI 1).toNatClampNeg (nI k / 25 - nI k / 25 / 5 * 5) = upd A (f + 1) (nI (k / 25 % 5)) := fun A => by rw [cl 1 (by decide), d25, r5 (k / 25) (by omega)]
  have u2 : ∀ A : Nat → Int32, upd A (nI f + nI 2).toNatClampNeg (nI k / 5 - nI k / 5 / 5 * 5) = upd A (f + 2) (nI (k / 5 % 5)) := fun A => by rw [cl 2 (by decide), d5 k hk, r5 (k / 5) (by omega)]
  have u3 : ∀ A : Nat → Int32, upd A (nI f + nI 3).toNatClampNeg (nI k - nI k / 5 * 5) = upd A (f + 3) (nI (k % 5)) := fun A => by rw [cl 3 (by decide), r5 k hk]
  unfold wpY_shares
  dsimp only
  refine ps_yic R S W X Z hs ha (br_f (by decide) (br_f (nI_pos (by omega)) (br_t (nI_le (b := 624) (by omega) (by decide)) ⟨n125, n25, n5, n5, n5, n5, nm_r es (br_t rfl (nm_r e1 ⟨n125, vp_in_nI (by omega) (by decide), nm_r u0 ⟨n25, n5, iv 1 (by decide), nm_r (u1 _) ⟨n5, n5, iv 2 (by decide), nm_r (u2 _) ⟨n5, iv 3 (by decide), nm_r (u3 _) h⟩⟩⟩⟩))⟩)))
/-! prune -/
noncomputable def ps_G (R S : Nat → Int32) (k : Nat) : Int32 := ps_nm (ps_i R S) (k / 2) (k % 2)
theorem ps_hG (R S : Nat → Int32) : ∀ s a, s < 4 → a < 2 → ps_G R S (2 * s + a) = ps_nm (ps_i R S) s a := by
  intro s a _ ha
  unfold ps_G
  rw [show (2 * s + a) / 2 = s by omega, show (2 * s + a) % 2 = a by omega]
theorem ps_xpr {post : Int32 → SX → Prop} {R S M : Nat → Int32} (E T B : Nat → Int32) (hst : ps_st R S) (hM : ∀ p, p < 16 → M p = ps_i R S p)
    (hJ : ∀ E' T' B' M', ps_sol (ps_fold (ps_G R S) R S 8).1 (ps_fold (ps_G R S) R S 8).2.1 64 T' B' → (∀ p', p' < 16 → M' p' = ps_i (ps_fold (ps_G R S) R S 8).1 (ps_fold (ps_G R S) R S 8).2.1 p') → post (nI (ps_fold (ps_G R S) R S 8).2.2) ((ps_fold (ps_G R S) R S 8).1, (ps_fold (ps_G R S) R S 8).2.1, E', T', B', M')) : wpX_prune post (R, S, E, T, B, M) :=
  ⟨5, ps_xpr4 R S E T B hM (ps_hG R S) (ps_xall E T B M (ps_fold_st hst 8 (by decide)).1 hJ) 4 0 rfl⟩
theorem ps_ypr {post : Int32 → SY → Prop} {R S : Nat → Int32} (W X Z : Nat → Int64) (hst : ps_st R S)
    (h : ∀ W X Z, post (nI (ps_fold (ps_G R S) R S 8).2.2) ((ps_fold (ps_G R S) R S 8).1, (ps_fold (ps_G R S) R S 8).2.1, W, X, Z)) : wpY_prune post (R, S, W, X, Z) :=
  ⟨9, ps_ypr6 hst (ps_hG R S) h 8 0 W X Z rfl⟩
/-! the constructors -/
theorem ps_xi61 {post : SX → Prop} {Q : Int32 → (Nat → Int32) → (Nat → Int32) → (Nat → Int32) → (Nat → Int32) → (Nat → Int32) → (Nat → Int32) → Prop} (R E T B M : Nat → Int32) {s : Nat} (hs : s < 4) (hQ : Q (nI (s + 1)) R (ps_ini (2 * s + 2)) E T B M) : ∀ d a, a + d = 2 → wX_init_61 post Q (nI s) (d + 1) (nI a) R (ps_ini (2 * s + a)) E T B M := by
  intro d
  induction d with
  | zero =>
    intro a hd
    have e : a = 2 := by omega
    subst e
    exact br_t (nI_le (a := 2) (by omega) (by omega)) (nm_r (nI_1 s) hQ)
  | succ d ih =>
    intro a hd
    have ha : a < 2 := by omega
    have ex : (nI s * 2 + nI a) * 4 + nI s = nI (4 * (2 * s + a) + s) := by rw [ps_m2x, nI_add, ps_m4x, nI_add]
    refine br_f (nI_ge (b := 2) ha (by decide)) ⟨by rw [ex]; exact vp_in_nI (by omega) (by decide), nm_r (e' := ps_ini (2 * s + (a + 1))) ?_ (nm_r (nI_1 a) (ih (a + 1) (by omega)))⟩
    rw [ex, nI_clamp (by omega)]
    show _ = upd (ps_ini (2 * s + a)) (4 * (2 * s + a) + (2 * s + a) / 2) 4
    rw [show (2 * s + a) / 2 = s by omega]
theorem ps_xi54 {post : SX → Prop} {R : Nat → Int32} (E T B M : Nat → Int32) (hst : ps_st R (ps_ini 8)) (hJ : ∀ E' T' B' M', ps_sol R (ps_ini 8) 64 T' B' → (∀ p', p' < 16 → M' p' = ps_i R (ps_ini 8) p') → post (R, ps_ini 8, E', T', B', M')) : ∀ d s, s + d = 4 → wX_init_54 post (d + 1) (nI s) R (ps_ini (2 * s)) E T B M := by
  intro d
  induction d with
  | zero =>
    intro s hd
    have e : s = 4 := by omega
    subst e
    exact br_t (nI_le (a := 4) (by omega) (by omega)) (ps_xall E T B M hst hJ)
  | succ d ih =>
    intro s hd
    have hs : s < 4 := by omega
    refine br_f (nI_ge (b := 4) hs (by decide)) ⟨3, ?_⟩
    exact ps_xi61 R E T B M hs (ih (s + 1) (by omega)) 2 0 rfl
theorem ps_yi46 {post : SY → Prop} (R : Nat → Int32) (W X Z : Nat → Int64) (h : post (R, ps_ini 8, W, X, Z)) : ∀ d k, k + d = 8 → wY_init_46 post (d + 1) (nI k) R (ps_ini k) W X Z := by
  intro d
  induction d with
  | zero =>
    intro k hd
    have e : k = 8 := by omega
    subst e
    exact br_t (nI_le (a := 8) (by omega) (by omega)) h
  | succ d ih =>
    intro k hd
    have hk : k < 8 := by omega
    have ex : 4 * nI k + nI k / 2 = nI (4 * k + k / 2) := by
      rw [ps_m4y, show nI k / 2 = nI (k / 2) from pk_div (d := 2) (by omega) (by decide) (by decide), nI_add]
    refine br_f (nI_ge (b := 8) hk (by decide)) ⟨by decide, by rw [ex]; exact vp_in_nI (by omega) (by decide), nm_r (e' := ps_ini (k + 1)) ?_ (nm_r (nI_1 k) (ih (k + 1) (by omega)))⟩
    rw [ex, nI_clamp (by omega)]
    rfl
