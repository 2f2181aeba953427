/-! each call at its outer name, refused and done -/
theorem ps_rng {x : Int32} {n : Nat} (hn : n < 2 ^ 31) (h : ¬ (x < 0 ∨ nI n ≤ x)) : ∃ j : Nat, j < n ∧ x = nI j := by
  rcases pk_ix x hn with c | c | c
  · exact absurd (Or.inl c) h
  · exact absurd (Or.inr c) h
  · exact c
/-! valueTop, valueBottom, compare -/
theorem ps_xvt0 {post : Int32 → Prop} (R S E T B M : Nat → Int32) {x y : Int32} (hb : (x < 0 ∨ nI 16 ≤ x) ∨ (y < 0 ∨ nI 4 ≤ y)) (h : post (-1000000)) : wpX_valueTop post (R, S, E, T, B, M) x y := by
  unfold wpX_valueTop
  dsimp only
  by_cases c : x < 0 ∨ nI 16 ≤ x
  · exact ps_xip0 c (br_t rfl h)
  · obtain ⟨p, hp, rfl⟩ := ps_rng (by decide) c
    exact ps_xip hp (br_f (by decide) (ps_xis0 (hb.resolve_left c) (br_t rfl h)))
theorem ps_xvb0 {post : Int32 → Prop} (R S E T B M : Nat → Int32) {x y : Int32} (hb : (x < 0 ∨ nI 16 ≤ x) ∨ (y < 0 ∨ nI 4 ≤ y)) (h : post (-1000000)) : wpX_valueBottom post (R, S, E, T, B, M) x y := by
  unfold wpX_valueBottom
  dsimp only
  by_cases c : x < 0 ∨ nI 16 ≤ x
  · exact ps_xip0 c (br_t rfl h)
  · obtain ⟨p, hp, rfl⟩ := ps_rng (by decide) c
    exact ps_xip hp (br_f (by decide) (ps_xis0 (hb.resolve_left c) (br_t rfl h)))
theorem ps_yvt0 {post : Int32 → SY → Prop} (R S : Nat → Int32) (W X Z : Nat → Int64) {x y : Int32} (hb : (x < 0 ∨ nI 16 ≤ x) ∨ (y < 0 ∨ nI 4 ≤ y)) (h : post (-1000000) (R, S, W, X, Z)) : wpY_valueTop post (R, S, W, X, Z) x y := by
  unfold wpY_valueTop
  dsimp only
  by_cases c : x < 0 ∨ nI 16 ≤ x
  · exact ps_yip0 R S W X Z c (br_t rfl h)
  · obtain ⟨p, hp, rfl⟩ := ps_rng (by decide) c
    exact ps_yip R S W X Z hp (br_f (by decide) (ps_yis0 R S W X Z (hb.resolve_left c) (br_t rfl h)))
theorem ps_yvb0 {post : Int32 → SY → Prop} (R S : Nat → Int32) (W X Z : Nat → Int64) {x y : Int32} (hb : (x < 0 ∨ nI 16 ≤ x) ∨ (y < 0 ∨ nI 4 ≤ y)) (h : post (-1000000) (R, S, W, X, Z)) : wpY_valueBottom post (R, S, W, X, Z) x y := by
  unfold wpY_valueBottom
  dsimp only
  by_cases c : x < 0 ∨ nI 16 ≤ x
  · exact ps_yip0 R S W X Z c (br_t rfl h)
  · obtain ⟨p, hp, rfl⟩ := ps_rng (by decide) c
    exact ps_yip R S W X Z hp (br_f (by decide) (ps_yis0 R S W X Z (hb.resolve_left c) (br_t rfl h)))
theorem ps_xvt {post : Int32 → Prop} {R S T B : Nat → Int32} (E M : Nat → Int32) (hT : ps_sol R S 64 T B) {p s : Nat} (hp : p < 16) (hs : s < 4) (h : post (Int32.ofInt (ps_T R S (4 * p + s)))) : wpX_valueTop post (R, S, E, T, B, M) (nI p) (nI s) := by
  unfold wpX_valueTop
  dsimp only
  refine ps_xip hp (br_f (by decide) (ps_xis hs (br_f (by decide) ⟨?_, ?_⟩)))
  · rw [ps_x4]
    exact vp_in_nI (by omega) (by decide)
  · rw [ps_x4, nI_clamp (by omega), (hT (4 * p + s) (by omega)).1]
    exact h
theorem ps_xvb {post : Int32 → Prop} {R S T B : Nat → Int32} (E M : Nat → Int32) (hT : ps_sol R S 64 T B) {p s : Nat} (hp : p < 16) (hs : s < 4) (h : post (Int32.ofInt (ps_B R S (4 * p + s)))) : wpX_valueBottom post (R, S, E, T, B, M) (nI p) (nI s) := by
  unfold wpX_valueBottom
  dsimp only
  refine ps_xip hp (br_f (by decide) (ps_xis hs (br_f (by decide) ⟨?_, ?_⟩)))
  · rw [ps_x4]
    exact vp_in_nI (by omega) (by decide)
  · rw [ps_x4, nI_clamp (by omega), (hT (4 * p + s) (by omega)).2]
    exact h
theorem ps_xcm0 {post : Int32 → Prop} (R S E T B M : Nat → Int32) {x y z : Int32} (hb : (x < 0 ∨ nI 16 ≤ x) ∨ (y < 0 ∨ nI 16 ≤ y) ∨ (z < 0 ∨ nI 4 ≤ z)) (h : post (-2)) : wpX_compare post (R, S, E, T, B, M) x y z := by
  unfold wpX_compare
  dsimp only
  by_cases c : x < 0 ∨ nI 16 ≤ x
  · exact ps_xip0 c (br_t rfl h)
  · obtain ⟨p, hp, rfl⟩ := ps_rng (by decide) c
    refine ps_xip hp (br_f (by decide) ?_)
    by_cases d : y < 0 ∨ nI 16 ≤ y
    · exact ps_xip0 d (br_t rfl h)
    · obtain ⟨q, hq, rfl⟩ := ps_rng (by decide) d
      exact ps_xip hq (br_f (by decide) (ps_xis0 ((hb.resolve_left c).resolve_left d) (br_t rfl h)))
theorem ps_ycm0 {post : Int32 → SY → Prop} (R S : Nat → Int32) (W X Z : Nat → Int64) {x y z : Int32} (hb : (x < 0 ∨ nI 16 ≤ x) ∨ (y < 0 ∨ nI 16 ≤ y) ∨ (z < 0 ∨ nI 4 ≤ z)) (h : post (-2) (R, S, W, X, Z)) : wpY_compare post (R, S, W, X, Z) x y z := by
  unfold wpY_compare
  dsimp only
  by_cases c : x < 0 ∨ nI 16 ≤ x
  · exact ps_yip0 R S W X Z c (br_t rfl h)
  · obtain ⟨p, hp, rfl⟩ := ps_rng (by decide) c
    refine ps_yip R S W X Z hp (br_f (by decide) ?_)
    by_cases d : y < 0 ∨ nI 16 ≤ y
    · exact ps_yip0 R S W X Z d (br_t rfl h)
    · obtain ⟨q, hq, rfl⟩ := ps_rng (by decide) d
      exact ps_yip R S W X Z hq (br_f (by decide) (ps_yis0 R S W X Z ((hb.resolve_left c).resolve_left d) (br_t rfl h)))
theorem ps_xcm {post : Int32 → Prop} {R S T B : Nat → Int32} (E M : Nat → Int32) (hst : ps_st R S) (hT : ps_sol R S 64 T B) {p q s : Nat} (hp : p < 16) (hq : q < 16) (hs : s < 4) (h : post (ps_ord R S p q s)) : wpX_compare post (R, S, E, T, B, M) (nI p) (nI q) (nI s) := by
  unfold wpX_compare
  dsimp only
  exact ps_xip hp (br_f (by decide) (ps_xip hq (br_f (by decide) (ps_xis hs (br_f (by decide) (ps_xord E M hst hT hp hq hs h))))))
theorem ps_ycm {post : Int32 → SY → Prop} {R S : Nat → Int32} (W X Z : Nat → Int64) (hst : ps_st R S) {p q s : Nat} (hp : p < 16) (hq : q < 16) (hs : s < 4) (h : ∀ W' X' Z', post (ps_ord R S p q s) (R, S, W', X', Z')) : wpY_compare post (R, S, W, X, Z) (nI p) (nI q) (nI s) := by
  unfold wpY_compare
  dsimp only
  exact ps_yip R S W X Z hp (br_f (by decide) (ps_yip R S W X Z hq (br_f (by decide) (ps_yis R S W X Z hs (br_f (by decide) (ps_ysol W X Z hst (fun W' X' Z' hX => ps_yord W' hst hX hp hq hs (h W' X' Z'))))))))
/-! bestTop, bestBottom, policy, policies, good -/
theorem ps_xbt {post : Int32 → Prop} {R S T B M : Nat → Int32} (E : Nat → Int32) (hT : ps_sol R S 64 T B) (hM : ∀ p, p < 16 → M p = ps_i R S p) {s : Nat} (hs : s < 4) (h : post (Int32.ofInt (ps_T R S (4 * ps_fb (ps_i R S) 16 0 + s)))) : wpX_bestTop post (R, S, E, T, B, M) (nI s) := by
  have hf := ps_fb_lt (ps_i R S) 16 0 (by decide)
  unfold wpX_bestTop
  dsimp only
  refine ps_xis hs (br_f (by decide) (ps_xsb R S E T B hM ⟨?_, ?_⟩))
  · rw [ps_x4]
    exact vp_in_nI (by omega) (by decide)
  · rw [ps_x4, nI_clamp (by omega), (hT _ (by omega)).1]
    exact h
theorem ps_xbb {post : Int32 → Prop} {R S T B M : Nat → Int32} (E : Nat → Int32) (hT : ps_sol R S 64 T B) (hM : ∀ p, p < 16 → M p = ps_i R S p) {s : Nat} (hs : s < 4) (h : post (Int32.ofInt (ps_B R S (4 * ps_fb (ps_i R S) 16 0 + s)))) : wpX_bestBottom post (R, S, E, T, B, M) (nI s) := by
  have hf := ps_fb_lt (ps_i R S) 16 0 (by decide)
  unfold wpX_bestBottom
  dsimp only
  refine ps_xis hs (br_f (by decide) (ps_xsb R S E T B hM ⟨?_, ?_⟩))
  · rw [ps_x4]
    exact vp_in_nI (by omega) (by decide)
  · rw [ps_x4, nI_clamp (by omega), (hT _ (by omega)).2]
    exact h
theorem ps_ybt {post : Int32 → SY → Prop} {R S : Nat → Int32} (W X Z : Nat → Int64) (hst : ps_st R S) {s : Nat} (hs : s < 4) (h : ∀ W' X' Z', post (Int32.ofInt (ps_T R S (4 * ps_fb (ps_i R S) 16 0 + s))) (R, S, W', X', Z')) : wpY_bestTop post (R, S, W, X, Z) (nI s) := by
  have hf := ps_fb_lt (ps_i R S) 16 0 (by decide)
  unfold wpY_bestTop
  dsimp only
  exact ps_yis R S W X Z hs (br_f (by decide) (ps_yfb W X Z hst (fun W' X' Z' => ps_yvt W' X' Z' hst hf hs (fun W2 X2 Z2 => h W2 X2 Z2))))
theorem ps_ybb {post : Int32 → SY → Prop} {R S : Nat → Int32} (W X Z : Nat → Int64) (hst : ps_st R S) {s : Nat} (hs : s < 4) (h : ∀ W' X' Z', post (Int32.ofInt (ps_B R S (4 * ps_fb (ps_i R S) 16 0 + s))) (R, S, W', X', Z')) : wpY_bestBottom post (R, S, W, X, Z) (nI s) := by
  have hf := ps_fb_lt (ps_i R S) 16 0 (by decide)
  unfold wpY_bestBottom
  dsimp only
  exact ps_yis R S W X Z hs (br_f (by decide) (ps_yfb W X Z hst (fun W' X' Z' => ps_yvb W' X' Z' hst hf hs (fun W2 X2 Z2 => h W2 X2 Z2))))
theorem ps_xbt0 {post : Int32 → Prop} (R S E T B M : Nat → Int32) {x : Int32} (hb : x < 0 ∨ nI 4 ≤ x) (h : post (-1000000)) : wpX_bestTop post (R, S, E, T, B, M) x := by
  unfold wpX_bestTop
  dsimp only
  exact ps_xis0 hb (br_t rfl h)
theorem ps_xbb0 {post : Int32 → Prop} (R S E T B M : Nat → Int32) {x : Int32} (hb : x < 0 ∨ nI 4 ≤ x) (h : post (-1000000)) : wpX_bestBottom post (R, S, E, T, B, M) x := by
  unfold wpX_bestBottom
  dsimp only
  exact ps_xis0 hb (br_t rfl h)
theorem ps_ybt0 {post : Int32 → SY → Prop} (R S : Nat → Int32) (W X Z : Nat → Int64) {x : Int32} (hb : x < 0 ∨ nI 4 ≤ x) (h : post (-1000000) (R, S, W, X, Z)) : wpY_bestTop post (R, S, W, X, Z) x := by
  unfold wpY_bestTop
  dsimp only
  exact ps_yis0 R S W X Z hb (br_t rfl h)
theorem ps_ybb0 {post : Int32 → SY → Prop} (R S : Nat → Int32) (W X Z : Nat → Int64) {x : Int32} (hb : x < 0 ∨ nI 4 ≤ x) (h : post (-1000000) (R, S, W, X, Z)) : wpY_bestBottom post (R, S, W, X, Z) x := by
  unfold wpY_bestBottom
  dsimp only
  exact ps_yis0 R S W X Z hb (br_t rfl h)
theorem ps_xpo {post : Int32 → Prop} {R S M : Nat → Int32} (E T B : Nat → Int32) (hM : ∀ p, p < 16 → M p = ps_i R S p) (h : post (nI (ps_fb (ps_i R S) 16 0))) : wpX_policy post (R, S, E, T, B, M) := by
  unfold wpX_policy
  dsimp only
  exact ps_xsb R S E T B hM h
theorem ps_ypo {post : Int32 → SY → Prop} {R S : Nat → Int32} (W X Z : Nat → Int64) (hst : ps_st R S) (h : ∀ W' X' Z', post (nI (ps_fb (ps_i R S) 16 0)) (R, S, W', X', Z')) : wpY_policy post (R, S, W, X, Z) := by
  unfold wpY_policy
  dsimp only
  exact ps_yfb W X Z hst (fun W' X' Z' => h W' X' Z')
theorem ps_xps {post : Int32 → Prop} {R S M : Nat → Int32} (E T B : Nat → Int32) (hM : ∀ p, p < 16 → M p = ps_i R S p) (h : post (nI (ps_cnt (ps_i R S) 16))) : wpX_policies post (R, S, E, T, B, M) :=
  ⟨17, ps_xp4 R S E T B hM h 16 0 rfl⟩
theorem ps_xgo {post : Int32 → Prop} {R S M : Nat → Int32} (E T B : Nat → Int32) (hM : ∀ p, p < 16 → M p = ps_i R S p) {s a : Nat} (hs : s < 4) (ha : a < 2) (h : post (ps_nm (ps_i R S) s a)) : wpX_good post (R, S, E, T, B, M) (nI s) (nI a) := by
  unfold wpX_good
  dsimp only
  refine ps_xic hs ha (br_f (by decide) (ps_xnm R S E T B hM hs ha ?_))
  rcases ps_nm01 (ps_i R S) s a with e | e
  · rw [e] at h ⊢
    exact br_t rfl h
  · rw [e] at h ⊢
    exact br_f (by decide) h
theorem ps_xgo0 {post : Int32 → Prop} (R S E T B M : Nat → Int32) {x y : Int32} (hb : (x < 0 ∨ nI 4 ≤ x) ∨ (y < 0 ∨ nI 2 ≤ y)) (h : post 0) : wpX_good post (R, S, E, T, B, M) x y := by
  unfold wpX_good
  dsimp only
  exact ps_xic0 hb (br_t rfl h)
theorem ps_ygo0 {post : Int32 → SY → Prop} (R S : Nat → Int32) (W X Z : Nat → Int64) {x y : Int32} (hb : (x < 0 ∨ nI 4 ≤ x) ∨ (y < 0 ∨ nI 2 ≤ y)) (h : post 0 (R, S, W, X, Z)) : wpY_good post (R, S, W, X, Z) x y := by
  unfold wpY_good
  dsimp only
  exact ps_yic0 R S W X Z hb (br_t rfl h)
/-! reward -/
theorem ps_xrw0 {post : Int32 → SX → Prop} (R S E T B M : Nat → Int32) {x y z : Int32} (hb : ((x < 0 ∨ nI 4 ≤ x) ∨ (y < 0 ∨ nI 2 ≤ y)) ∨ (z < -20 ∨ ¬ z ≤ 20)) (h : post 0 (R, S, E, T, B, M)) : wpX_reward post (R, S, E, T, B, M) x y z := by
  unfold wpX_reward
  dsimp only
  by_cases c : (x < 0 ∨ nI 4 ≤ x) ∨ (y < 0 ∨ nI 2 ≤ y)
  · exact ps_xic0 c (br_t rfl h)
  · obtain ⟨s, hs, rfl⟩ := ps_rng (n := 4) (by decide) (fun q => c (Or.inl q))
    obtain ⟨a, ha, rfl⟩ := ps_rng (n := 2) (by decide) (fun q => c (Or.inr q))
    refine ps_xic hs ha (br_f (by decide) ?_)
    by_cases d : z < -20
    · exact br_t d h
    · exact br_f d (br_f ((hb.resolve_left c).resolve_left d) h)
theorem ps_yrw0 {post : Int32 → SY → Prop} (R S : Nat → Int32) (W X Z : Nat → Int64) {x y z : Int32} (hb : ((x < 0 ∨ nI 4 ≤ x) ∨ (y < 0 ∨ nI 2 ≤ y)) ∨ (z < -20 ∨ ¬ z ≤ 20)) (h : post 0 (R, S, W, X, Z)) : wpY_reward post (R, S, W, X, Z) x y z := by
  unfold wpY_reward
  dsimp only
  by_cases c : (x < 0 ∨ nI 4 ≤ x) ∨ (y < 0 ∨ nI 2 ≤ y)
  · exact ps_yic0 R S W X Z c (br_t rfl h)
  · obtain ⟨s, hs, rfl⟩ := ps_rng (n := 4) (by decide) (fun q => c (Or.inl q))
    obtain ⟨a, ha, rfl⟩ := ps_rng (n := 2) (by decide) (fun q => c (Or.inr q))
    refine ps_yic R S W X Z hs ha (br_f (by decide) ?_)
    by_cases d : z < -20
    · exact br_t d h
    · exact br_f d (br_f ((hb.resolve_left c).resolve_left d) h)
theorem ps_xrw {post : Int32 → SX → Prop} {R S : Nat → Int32} (E T B M : Nat → Int32) {s a : Nat} {z : Int32} (hst : ps_st (upd R (2 * s + a) z) S) (hs : s < 4) (ha : a < 2) (h1 : ¬ z < -20) (h2 : z ≤ 20) (hJ : ∀ E' T' B' M', ps_sol (upd R (2 * s + a) z) S 64 T' B' → (∀ p', p' < 16 → M' p' = ps_i (upd R (2 * s + a) z) S p') → post 1 (upd R (2 * s + a) z, S, E', T', B', M')) : wpX_reward post (R, S, E, T, B, M) (nI s) (nI a) z := by
  have e1 : nI s * 2 + nI a = nI (2 * s + a) := by rw [ps_m2x, nI_add]
  unfold wpX_reward
  dsimp only
  refine ps_xic hs ha (br_f (by decide) (br_f h1 (br_t h2 ⟨?_, nm_r (e' := upd R (2 * s + a) z) ?_ ?_⟩)))
  · rw [e1]
    exact vp_in_nI (by omega) (by decide)
  · rw [e1, nI_clamp (by omega)]
  · exact ps_xall E T B M hst hJ
theorem ps_yrw {post : Int32 → SY → Prop} (R S : Nat → Int32) (W X Z : Nat → Int64) {s a : Nat} {z : Int32} (hs : s < 4) (ha : a < 2) (h1 : ¬ z < -20) (h2 : z ≤ 20) (h : post 1 (upd R (2 * s + a) z, S, W, X, Z)) : wpY_reward post (R, S, W, X, Z) (nI s) (nI a) z := by
  have e1 : 2 * nI s + nI a = nI (2 * s + a) := by rw [ps_m2y, nI_add]
  unfold wpY_reward
  dsimp only
  refine ps_yic R S W X Z hs ha (br_f (by decide) (br_f h1 (br_t h2 ⟨?_, nm_r (e' := upd R (2 * s + a) z) ?_ h⟩)))
  · rw [e1]
    exact vp_in_nI (by omega) (by decide)
  · rw [e1, nI_clamp (by omega)]
