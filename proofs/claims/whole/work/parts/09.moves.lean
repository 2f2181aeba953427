/-! the class: scans over the marks, share codes; both sides: copies and prune -/
theorem ps_xf2 {post : Int32 → Prop} (R S E T B : Nat → Int32) {I J : Nat → Int32} (hI : ∀ p, p < 16 → I p = J p) : ∀ d i, i + d = 16 → post (nI (ps_fb J d i)) → wX_smallestBest_2 post R S E T B I (d + 1) (nI i) := by
  intro d
  induction d with
  | zero =>
    intro i hi hp
    exact br_t (nI_le (a := 16) (by omega) (by omega)) hp
  | succ d ih =>
    intro i hi hp
    have hi16 : i < 16 := by omega
    have ei : I (nI i).toNatClampNeg = J i := by rw [nI_clamp (by omega), hI i hi16]
    have hp' : post (nI (if J i = 0 then ps_fb J d (i + 1) else i)) := hp
    refine br_f (nI_ge (b := 16) hi16 (by decide)) ⟨vp_in_nI hi16 (by decide), ?_⟩
    rw [ei]
    by_cases e : J i = 0
    · rw [if_pos e] at hp'
      exact br_t e (nm_r (nI_1 i) (ih (i + 1) (by omega) hp'))
    · rw [if_neg e] at hp'
      exact br_f e hp'
theorem ps_xsb {post : Int32 → Prop} (R S E T B : Nat → Int32) {I J : Nat → Int32} (hI : ∀ p, p < 16 → I p = J p) (h : post (nI (ps_fb J 16 0))) : wpX_smallestBest post (R, S, E, T, B, I) :=
  ⟨17, ps_xf2 R S E T B hI 16 0 rfl h⟩
theorem ps_xp4 {post : Int32 → Prop} (R S E T B : Nat → Int32) {I J : Nat → Int32} (hI : ∀ p, p < 16 → I p = J p) (hp : post (nI (ps_cnt J 16))) : ∀ d i, i + d = 16 → wX_policies_4 post R S E T B I (d + 1) (nI (ps_cnt J i)) (nI i) := by
  intro d
  induction d with
  | zero =>
    intro i hi
    have e : i = 16 := by omega
    subst e
    exact br_t (nI_le (a := 16) (by omega) (by omega)) hp
  | succ d ih =>
    intro i hi
    have hi16 : i < 16 := by omega
    have ei : I (nI i).toNatClampNeg = J i := by rw [nI_clamp (by omega), hI i hi16]
    have ih' := ih (i + 1) (by omega)
    have ec : ps_cnt J (i + 1) = if J i = 0 then ps_cnt J i else ps_cnt J i + 1 := rfl
    refine br_f (nI_ge (b := 16) hi16 (by decide)) ⟨vp_in_nI hi16 (by decide), ?_⟩
    rw [ei]
    by_cases e : J i = 0
    · rw [ec, if_pos e] at ih'
      exact br_t e (nm_r (nI_1 i) ih')
    · rw [ec, if_neg e] at ih'
      exact br_f e (nm_r (nI_1 _) (nm_r (nI_1 i) ih'))
theorem ps_xn2 {post : Int32 → Prop} (R S E T B : Nat → Int32) {I J : Nat → Int32} (hI : ∀ p, p < 16 → I p = J p) {s a : Nat} (hs : s < 4) (ha : a < 2) (hp : post (ps_nm J s a)) :
    ∀ d i, i + d = 16 → (∀ p, p < i → ¬ (¬ J p = 0 ∧ p / 2 ^ s % 2 = a)) → wX_isNamedByBest_2 post (nI s) (nI a) R S E T B I (d + 1) (nI i) := by
  intro d
  induction d with
  | zero =>
    intro i hi hl
    have e : i = 16 := by omega
    subst e
    rw [ps_nm0 hl] at hp
    exact br_t (nI_le (a := 16) (by omega) (by omega)) hp
  | succ d ih =>
    intro i hi hl
    have hi16 : i < 16 := by omega
    have ei : I (nI i).toNatClampNeg = J i := by rw [nI_clamp (by omega), hI i hi16]
    have eb := ps_bits i hi16 s hs
    have hm := Nat.mod_lt (i / 2 ^ s) (show 2 > 0 by decide)
    refine br_f (nI_ge (b := 16) hi16 (by decide)) ⟨vp_in_nI hi16 (by decide), ?_⟩
    rw [ei]
    by_cases g : J i = 0
    · exact br_t g (nm_r (nI_1 i) (ih (i + 1) (by omega) (lt_s hl (fun z => z.1 g))))
    · refine br_f g ?_
      unfold wpX_actionOf
      rw [eb]
      by_cases e : i / 2 ^ s % 2 = a
      · rw [ps_nm1 i hi16 g e] at hp
        exact br_t (congrArg nI e) hp
      · exact br_f (fun z => e ((nI_eq (by omega) (by omega)).mp z)) (nm_r (nI_1 i) (ih (i + 1) (by omega) (lt_s hl (fun z => e z.2))))
theorem ps_xnm {post : Int32 → Prop} (R S E T B : Nat → Int32) {I J : Nat → Int32} (hI : ∀ p, p < 16 → I p = J p) {s a : Nat} (hs : s < 4) (ha : a < 2) (hp : post (ps_nm J s a)) : wpX_isNamedByBest post (R, S, E, T, B, I) (nI s) (nI a) :=
  ⟨17, ps_xn2 R S E T B hI hs ha hp 16 0 rfl lt_0⟩
theorem ps_xsc {post : Int32 → Prop} {c : Nat} (hc : c < 625) (h1 : c / 125 + c / 25 % 5 + c / 5 % 5 + c % 5 = 4 → post 1) (h0 : ¬ c / 125 + c / 25 % 5 + c / 5 % 5 + c % 5 = 4 → post 0) : wpX_isShareCode post (nI c) := by
  have n5 : ¬ (5 : Int32) = 0 := by decide
  have r5 : ∀ a, a < 625 → nI a - nI a / 5 * 5 = nI (a % 5) := fun a ha => pk_rem (d := 5) (by omega) (by decide) (by decide)
  have d5 : ∀ a, a < 625 → nI a / 5 = nI (a / 5) := fun a ha => pk_div (d := 5) (by omega) (by decide) (by decide)
  have st : ∀ m a, a < 625 → nI m + (nI a - nI a / 5 * 5) = nI (m + a % 5) := fun m a ha => by rw [r5 a ha, nI_add]
  refine br_f (nI_pos (by omega)) (br_t (nI_lt (b := 625) hc (by decide)) ⟨5, ?_⟩)
  refine br_f (show ¬ (4 : Int32) ≤ 0 by decide) ⟨n5, nm_r (st 0 c hc) ⟨n5, nm_r (d5 c hc) (nm_r (e' := nI 1) (by decide) ?_)⟩⟩
  refine br_f (show ¬ (4 : Int32) ≤ nI 1 by decide) ⟨n5, nm_r (st _ (c / 5) (by omega)) ⟨n5, nm_r (d5 (c / 5) (by omega)) (nm_r (e' := nI 2) (by decide) ?_)⟩⟩
  refine br_f (show ¬ (4 : Int32) ≤ nI 2 by decide) ⟨n5, nm_r (st _ (c / 5 / 5) (by omega)) ⟨n5, nm_r (d5 (c / 5 / 5) (by omega)) (nm_r (e' := nI 3) (by decide) ?_)⟩⟩
  refine br_f (show ¬ (4 : Int32) ≤ nI 3 by decide) ⟨n5, nm_r (st _ (c / 5 / 5 / 5) (by omega)) ⟨n5, nm_r (d5 (c / 5 / 5 / 5) (by omega)) (nm_r (e' := nI 4) (by decide) ?_)⟩⟩
  refine br_t (show (4 : Int32) ≤ nI 4 by decide) ?_
  have q1 : c / 5 / 5 / 5 % 5 = c / 125 := by omega
  have q2 : c / 5 / 5 % 5 = c / 25 % 5 := by omega
  have q3 : 0 + c % 5 + c / 5 % 5 + c / 5 / 5 % 5 + c / 5 / 5 / 5 % 5 = c / 125 + c / 25 % 5 + c / 5 % 5 + c % 5 := by
    rw [q1, q2]
    generalize c / 125 = w
    generalize c / 25 % 5 = x
    generalize c / 5 % 5 = y
    generalize c % 5 = z
    omega
  have q4 : c / 125 + c / 25 % 5 + c / 5 % 5 + c % 5 < 100 := by omega
  rw [q3]
  exact pk_eq _ 4 h1 h0
theorem ps_xsw {post : Int32 → SX → Prop} {R S : Nat → Int32} (E T B I : Nat → Int32) {k c : Nat} (hk : k < 8) (hc : c < 625) (h : wpX_solveAll (fun u => post 1 u) (R, ps_w S (4 * k) c, E, T, B, I)) : ∃ n, wX_shares_32 post (nI (4 * k)) n (nI c) 3 R S E T B I := by
  have n5 : ¬ (5 : Int32) = 0 := by decide
  have r5 : ∀ a, a < 625 → nI a - nI a / 5 * 5 = nI (a % 5) := fun a ha => pk_rem (d := 5) (by omega) (by decide) (by decide)
  have d5 : ∀ a, a < 625 → nI a / 5 = nI (a / 5) := fun a ha => pk_div (d := 5) (by omega) (by decide) (by decide)
  have iv : ∀ t, t < 4 → vp_in (nI (4 * k) + nI t) 32 := fun t ht => by
    rw [nI_add]
    exact vp_in_nI (by omega) (by decide)
  have up : ∀ (A : Nat → Int32) t a, t < 4 → a < 625 → upd A (nI (4 * k) + nI t).toNatClampNeg (nI a - nI a / 5 * 5) = upd A (4 * k + t) (nI (a % 5)) := fun A t a ht ha => by
    rw [nI_add, nI_clamp (by omega), r5 a ha]
  refine ⟨5, br_f (show ¬ nI 3 < 0 by decide) ⟨n5, iv 3 (by decide), nm_r (up S 3 c (by decide) hc) ⟨n5, nm_r (d5 c hc) (nm_r (e' := nI 2) (by decide) ?_)⟩⟩⟩
  refine br_f (show ¬ nI 2 < 0 by decide) ⟨n5, iv 2 (by decide), nm_r (up _ 2 (c / 5) (by decide) (by omega)) ⟨n5, nm_r (d5 (c / 5) (by omega)) (nm_r (e' := nI 1) (by decide) ?_)⟩⟩
  refine br_f (show ¬ nI 1 < 0 by decide) ⟨n5, iv 1 (by decide), nm_r (up _ 1 (c / 5 / 5) (by decide) (by omega)) ⟨n5, nm_r (d5 (c / 5 / 5) (by omega)) (nm_r (e' := nI 0) (by decide) ?_)⟩⟩
  refine br_f (show ¬ nI 0 < 0 by decide) ⟨n5, iv 0 (by decide), nm_r (up _ 0 (c / 5 / 5 / 5) (by decide) (by omega)) ⟨n5, nm_r (d5 (c / 5 / 5 / 5) (by omega)) (nm_r (e' := -1) (by decide) ?_)⟩⟩
  refine br_t (show (-1 : Int32) < 0 by decide) ?_
  have hw : upd (upd (upd (upd S (4 * k + 3) (nI (c % 5))) (4 * k + 2) (nI (c / 5 % 5))) (4 * k + 1) (nI (c / 5 / 5 % 5))) (4 * k + 0) (nI (c / 5 / 5 / 5 % 5)) = ps_w S (4 * k) c := ps_wX S (4 * k) c hc
  rw [hw]
  exact h
/-! copies -/
theorem ps_xc31 {post : SX → Prop} (R E T B I : Nat → Int32) {S : Nat → Int32} {to fr : Nat} (ht : to < 8) (hf : fr < 8) (h : post (R, ps_cS S to fr 4, E, T, B, I)) : ∀ d i, i + d = 4 → wX_copyFromOther_31 post (nI to) (nI fr) (d + 1) (nI i) R (ps_cS S to fr i) E T B I := by
  intro d
  induction d with
  | zero =>
    intro i hi
    have e : i = 4 := by omega
    subst e
    exact br_t (nI_le (a := 4) (by omega) (by omega)) h
  | succ d ih =>
    intro i hi
    have hi4 : i < 4 := by omega
    refine br_f (nI_ge (b := 4) hi4 (by decide)) ⟨by rw [ps_x4]; exact vp_in_nI (by omega) (by decide), by rw [ps_x4]; exact vp_in_nI (by omega) (by decide), nm_r (e' := ps_cS S to fr (i + 1)) ?_ (nm_r (nI_1 i) (ih (i + 1) (by omega)))⟩
    rw [ps_x4, ps_x4, nI_clamp (by omega), nI_clamp (by omega)]
    rfl
theorem ps_xcp {post : SX → Prop} (R S E T B I : Nat → Int32) {s a : Nat} (hs : s < 4) (ha : a < 2) (h : post (upd R (2 * s + a) (R (ps_ot (2 * s + a))), ps_cS S (2 * s + a) (ps_ot (2 * s + a)) 4, E, T, B, I)) : wpX_copyFromOther post (R, S, E, T, B, I) (nI s) (nI a) := by
  have eo : ps_ot (2 * s + a) = 2 * s + 1 - a := by
    unfold ps_ot
    split <;> omega
  rw [eo] at h
  have e1 : nI s * 2 + nI a = nI (2 * s + a) := by rw [ps_m2x, nI_add]
  have e2 : nI s * 2 + 1 - nI a = nI (2 * s + 1 - a) := by rw [ps_m2x, nI_1, pk_sub (by omega)]
  unfold wpX_copyFromOther
  dsimp only
  refine nm_r e1 (nm_r e2 ⟨vp_in_nI (by omega) (by decide), vp_in_nI (by omega) (by decide), nm_r (e' := upd R (2 * s + a) (R (2 * s + 1 - a))) (by rw [nI_clamp (by omega), nI_clamp (by omega)]) ⟨5, ?_⟩⟩)
  exact ps_xc31 _ E T B I (by omega) (by omega) h 4 0 rfl
theorem ps_yc14 {post : SY → Prop} (R : Nat → Int32) (W X Z : Nat → Int64) {S : Nat → Int32} {to fr : Nat} (ht : to < 8) (hf : fr < 8) (h : post (R, ps_cS S to fr 4, W, X, Z)) : ∀ d i, i + d = 4 → wY_copy_14 post (nI fr) (nI to) (d + 1) (nI i) R (ps_cS S to fr i) W X Z := by
  intro d
  induction d with
  | zero =>
    intro i hi
    have e : i = 4 := by omega
    subst e
    exact br_t (nI_le (a := 4) (by omega) (by omega)) h
  | succ d ih =>
    intro i hi
    have hi4 : i < 4 := by omega
    refine br_f (nI_ge (b := 4) hi4 (by decide)) ⟨by rw [ps_y4]; exact vp_in_nI (by omega) (by decide), by rw [ps_y4]; exact vp_in_nI (by omega) (by decide), nm_r (e' := ps_cS S to fr (i + 1)) ?_ (nm_r (nI_1 i) (ih (i + 1) (by omega)))⟩
    rw [ps_y4, ps_y4, nI_clamp (by omega), nI_clamp (by omega)]
    rfl
theorem ps_ycp {post : SY → Prop} (R S : Nat → Int32) (W X Z : Nat → Int64) {to fr : Nat} (ht : to < 8) (hf : fr < 8) (h : post (upd R to (R fr), ps_cS S to fr 4, W, X, Z)) : wpY_copy post (R, S, W, X, Z) (nI fr) (nI to) := by
  unfold wpY_copy
  dsimp only
  refine ⟨vp_in_nI hf (by decide), vp_in_nI ht (by decide), nm_r (e' := upd R to (R fr)) (by rw [nI_clamp (by omega), nI_clamp (by omega)]) ⟨5, ?_⟩⟩
  exact ps_yc14 _ W X Z ht hf h 4 0 rfl
theorem ps_ycq {post : SY → Prop} (R S : Nat → Int32) (W X Z : Nat → Int64) {to fr : Nat} {z : Int32} (hz : z = nI fr) (ht : to < 8) (hf : fr < 8) (h : post (upd R to (R fr), ps_cS S to fr 4, W, X, Z)) : wpY_copy post (R, S, W, X, Z) z (nI to) := by
  subst hz
  exact ps_ycp R S W X Z ht hf h
/-! prune: the class -/
theorem ps_xpr11 {post : Int32 → SX → Prop} {Q : Int32 → Int32 → (Nat → Int32) → (Nat → Int32) → (Nat → Int32) → (Nat → Int32) → (Nat → Int32) → (Nat → Int32) → Prop} (R S E T B : Nat → Int32) {I J : Nat → Int32} (hI : ∀ p, p < 16 → I p = J p) {G : Nat → Int32} (hG : ∀ s a, s < 4 → a < 2 → G (2 * s + a) = ps_nm J s a) {s : Nat} (hs : s < 4)
    (hQ : Q (nI (ps_fold G R S (2 * s + 2)).2.2) (nI (s + 1)) (ps_fold G R S (2 * s + 2)).1 (ps_fold G R S (2 * s + 2)).2.1 E T B I) : ∀ d a, a + d = 2 → wX_prune_11 post Q (nI s) (d + 1) (nI (ps_fold G R S (2 * s + a)).2.2) (nI a) (ps_fold G R S (2 * s + a)).1 (ps_fold G R S (2 * s + a)).2.1 E T B I := by
  intro d
  induction d with
  | zero =>
    intro a hd
    have e : a = 2 := by omega
    subst e
    exact br_t (nI_le (a := 2) (by omega) (by omega)) (nm_r (nI_1 s) hQ)
  | succ d ih =>
    intro a hd
    have ha : a < 2 := by omega
    have ih' := ih (a + 1) (by omega)
    refine br_f (nI_ge (b := 2) ha (by decide)) (ps_xnm _ _ E T B hI hs ha ?_)
    rw [← hG s a hs ha]
    by_cases g : G (2 * s + a) = 0
    · rw [show 2 * s + (a + 1) = (2 * s + a) + 1 by omega, ps_fold_t g] at ih'
      exact br_t g (ps_xcp _ _ E T B I hs ha (nm_r (nI_1 _) (nm_r (nI_1 a) ih')))
    · rw [show 2 * s + (a + 1) = (2 * s + a) + 1 by omega, ps_fold_f g] at ih'
      exact br_f g (nm_r (nI_1 a) ih')
theorem ps_xpr4 {post : Int32 → SX → Prop} (R S E T B : Nat → Int32) {I J : Nat → Int32} (hI : ∀ p, p < 16 → I p = J p) {G : Nat → Int32} (hG : ∀ s a, s < 4 → a < 2 → G (2 * s + a) = ps_nm J s a)
    (h : wpX_solveAll (fun u => post (nI (ps_fold G R S 8).2.2) u) ((ps_fold G R S 8).1, (ps_fold G R S 8).2.1, E, T, B, I)) : ∀ d s, s + d = 4 → wX_prune_4 post (d + 1) (nI (ps_fold G R S (2 * s)).2.2) (nI s) (ps_fold G R S (2 * s)).1 (ps_fold G R S (2 * s)).2.1 E T B I := by
  intro d
  induction d with
  | zero =>
    intro s hd
    have e : s = 4 := by omega
    subst e
    exact br_t (nI_le (a := 4) (by omega) (by omega)) h
  | succ d ih =>
    intro s hd
    have hs : s < 4 := by omega
    refine br_f (nI_ge (b := 4) hs (by decide)) ⟨3, ?_⟩
    exact ps_xpr11 R S E T B hI hG hs (ih (s + 1) (by omega)) 2 0 rfl
/-! prune: the reference -/
theorem ps_ypr39 {post : Int32 → SY → Prop} (R S : Nat → Int32) (W X Z : Nat → Int64) (G : Nat → Int32) (h : post (nI (ps_fold G R S 8).2.2) ((ps_fold G R S 8).1, (ps_fold G R S 8).2.1, W, X, Z)) : ∀ d k, k + d = 8 → wY_prune_39 post (nI (ps_mk G 8)) (d + 1) (nI (ps_fold G R S k).2.2) (nI k) (ps_fold G R S k).1 (ps_fold G R S k).2.1 W X Z := by
  intro d
  induction d with
  | zero =>
    intro k hd
    have e : k = 8 := by omega
    subst e
    exact br_t (nI_le (a := 8) (by omega) (by omega)) h
  | succ d ih =>
    intro k hd
    have hk : k < 8 := by omega
    have n2 : ¬ (2 : Int32) = 0 := by decide
    have ih' := ih (k + 1) (by omega)
    have em : nI k - nI k / 2 * 2 = nI (k % 2) := pk_rem (d := 2) (by omega) (by decide) (by decide)
    refine br_f (nI_ge (b := 8) hk (by decide)) ?_
    rw [ps_sh8 _ (ps_mk_lt G 8 (by decide)) k hk, ps_mk_q G hk]
    by_cases g : G k = 0
    · rw [if_pos g]
      rw [ps_fold_t g] at ih'
      have hb := ps_ot_b hk
      refine br_t rfl ⟨n2, ?_⟩
      rw [em]
      have ot : ps_ot k = if k % 2 = 0 then k + 1 else k - 1 := rfl
      by_cases e2 : k % 2 = 0
      · rw [if_pos e2] at ot
        rw [e2]
        refine br_t rfl ?_
        unfold wY_prune_70
        exact ps_ycq _ _ W X Z (by rw [ot]; exact nI_1 k) hk hb.1 (nm_r (nI_1 _) (nm_r (nI_1 k) ih'))
      · rw [if_neg e2] at ot
        have e3 : k % 2 = 1 := by omega
        rw [e3]
        refine br_f (by decide) ?_
        unfold wY_prune_70
        have e4 : nI k - 1 = nI (ps_ot k) := by
          rw [ot]
          exact pk_sub (b := 1) (by omega)
        exact ps_ycq _ _ W X Z e4 hk hb.1 (nm_r (nI_1 _) (nm_r (nI_1 k) ih'))
    · rw [if_neg g]
      rw [ps_fold_f g] at ih'
      exact br_f (by decide) (nm_r (nI_1 k) ih')
theorem ps_ypr6 {post : Int32 → SY → Prop} {R S : Nat → Int32} (hst : ps_st R S) {G : Nat → Int32} (hG : ∀ s a, s < 4 → a < 2 → G (2 * s + a) = ps_nm (ps_i R S) s a) (h : ∀ W X Z, post (nI (ps_fold G R S 8).2.2) ((ps_fold G R S 8).1, (ps_fold G R S 8).2.1, W, X, Z)) : ∀ d k W X Z, k + d = 8 → wY_prune_6 post 0 (d + 1) (nI (ps_mk G k)) (nI k) R S W X Z := by
  intro d
  induction d with
  | zero =>
    intro k W X Z hd
    have e : k = 8 := by omega
    subst e
    exact br_t (nI_le (a := 8) (by omega) (by omega)) ⟨9, ps_ypr39 R S W X Z G (h W X Z) 8 0 rfl⟩
  | succ d ih =>
    intro k W X Z hd
    have hk : k < 8 := by omega
    have n2 : ¬ (2 : Int32) = 0 := by decide
    have em : nI k - nI k / 2 * 2 = nI (k % 2) := pk_rem (d := 2) (by omega) (by decide) (by decide)
    have ed : nI k / 2 = nI (k / 2) := pk_div (d := 2) (by omega) (by decide) (by decide)
    have hg : G k = ps_nm (ps_i R S) (k / 2) (k % 2) := by
      rw [← hG (k / 2) (k % 2) (by omega) (by omega)]
      congr 1
      omega
    refine br_f (nI_ge (b := 8) hk (by decide)) ⟨n2, n2, ?_⟩
    rw [em, ed]
    refine ps_ygd W X Z hst (by omega) (by omega) (fun W' X' Z' => ?_)
    dsimp only
    rw [← hg]
    have ih' := ih (k + 1) W' X' Z' (by omega)
    have ek : ps_mk G (k + 1) = if G k = 0 then ps_mk G k ||| 2 ^ k else ps_mk G k := rfl
    by_cases g : G k = 0
    · rw [ek, if_pos g] at ih'
      exact br_t g (nm_r (ps_or _ (ps_mk_lt G k (by omega)) k hk) (nm_r (nI_1 k) ih'))
    · rw [ek, if_neg g] at ih'
      exact br_f g (nm_r (nI_1 k) ih')
