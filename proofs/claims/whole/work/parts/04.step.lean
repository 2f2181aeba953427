/-! what a call does to rewards and shares, and the scans over the policies -/
theorem ps_stR {R S : Nat → Int32} (h : ps_st R S) (k : Nat) {x : Int32} (hx : -20 ≤ x.toInt ∧ x.toInt ≤ 20) : ps_st (upd R k x) S := by
  refine ⟨fun j hj => ?_, h.2⟩
  by_cases e : j = k
  · subst e
    rw [pk_us]
    exact hx
  · rw [pk_un e]
    exact h.1 j hj
theorem ps_okE {x y : Nat → Int} (h : ps_ok x) (e : ∀ t, t < 4 → y t = x t) : ps_ok y := by
  unfold ps_ok at h ⊢
  rw [e 0 (by decide), e 1 (by decide), e 2 (by decide), e 3 (by decide)]
  exact h
theorem ps_stS {R S S' : Nat → Int32} (h : ps_st R S) (k : Nat) (hn : ∀ j, j < 8 → j ≠ k → ∀ t, t < 4 → S' (4 * j + t) = S (4 * j + t)) (ho : ps_ok (fun t => (S' (4 * k + t)).toInt)) : ps_st R S' := by
  refine ⟨h.1, fun j hj => ?_⟩
  by_cases e : j = k
  · subst e
    exact ho
  · exact ps_okE (h.2 j hj) (fun t ht => congrArg Int32.toInt (hn j hj e t ht))
/-- the four digits of a share code, from the place f on -/
def ps_w (S : Nat → Int32) (f c : Nat) : Nat → Int32 := fun j => if j = f then nI (c / 125) else if j = f + 1 then nI (c / 25 % 5) else if j = f + 2 then nI (c / 5 % 5) else if j = f + 3 then nI (c % 5) else S j
theorem ps_wY (S : Nat → Int32) (f c : Nat) : upd (upd (upd (upd S f (nI (c / 125))) (f + 1) (nI (c / 25 % 5))) (f + 2) (nI (c / 5 % 5))) (f + 3) (nI (c % 5)) = ps_w S f c := by
  funext j
  unfold upd ps_w
  by_cases h0 : j = f
  · rw [if_neg (by omega), if_neg (by omega), if_neg (by omega), if_pos h0, if_pos h0]
  · by_cases h1 : j = f + 1
    · rw [if_neg (by omega), if_neg (by omega), if_pos h1, if_neg h0, if_pos h1]
    · by_cases h2 : j = f + 2
      · rw [if_neg (by omega), if_pos h2, if_neg h0, if_neg h1, if_pos h2]
      · by_cases h3 : j = f + 3
        · rw [if_pos h3, if_neg h0, if_neg h1, if_neg h2, if_pos h3]
        · rw [if_neg h3, if_neg h2, if_neg h1, if_neg h0, if_neg h0, if_neg h1, if_neg h2, if_neg h3]
theorem ps_wX (S : Nat → Int32) (f c : Nat) (hc : c < 625) : upd (upd (upd (upd S (f + 3) (nI (c % 5))) (f + 2) (nI (c / 5 % 5))) (f + 1) (nI (c / 5 / 5 % 5))) f (nI (c / 5 / 5 / 5 % 5)) = ps_w S f c := by
  rw [show c / 5 / 5 / 5 % 5 = c / 125 by omega, show c / 5 / 5 % 5 = c / 25 % 5 by omega]
  rfl
theorem ps_stW {R S : Nat → Int32} (h : ps_st R S) {k c : Nat} (hc : c < 625) (hs : c / 125 + c / 25 % 5 + c / 5 % 5 + c % 5 = 4) : ps_st R (ps_w S (4 * k) c) := by
  refine ps_stS h k (fun j hj hn t ht => ?_) ?_
  · unfold ps_w
    rw [if_neg (by omega), if_neg (by omega), if_neg (by omega), if_neg (by omega)]
  · have e0 : ps_w S (4 * k) c (4 * k + 0) = nI (c / 125) := if_pos rfl
    have e1 : ps_w S (4 * k) c (4 * k + 1) = nI (c / 25 % 5) := by unfold ps_w; rw [if_neg (by omega), if_pos rfl]
    have e2 : ps_w S (4 * k) c (4 * k + 2) = nI (c / 5 % 5) := by unfold ps_w; rw [if_neg (by omega), if_neg (by omega), if_pos rfl]
    have e3 : ps_w S (4 * k) c (4 * k + 3) = nI (c % 5) := by unfold ps_w; rw [if_neg (by omega), if_neg (by omega), if_neg (by omega), if_pos rfl]
    unfold ps_ok
    dsimp only
    rw [e0, e1, e2, e3, nI_toInt (by omega), nI_toInt (by omega), nI_toInt (by omega), nI_toInt (by omega)]
    omega
/-- a row copied cell by cell -/
def ps_cS (S : Nat → Int32) (to fr : Nat) : Nat → Nat → Int32
  | 0 => S
  | t + 1 => upd (ps_cS S to fr t) (4 * to + t) (ps_cS S to fr t (4 * fr + t))
theorem ps_cSa (S : Nat → Int32) {to fr : Nat} (hne : fr ≠ to) : ∀ n, n ≤ 4 → ∀ j, ps_cS S to fr n j = if 4 * to ≤ j ∧ j < 4 * to + n then S (4 * fr + (j - 4 * to)) else S j := by
  intro n
  induction n with
  | zero => intro _ j; rw [if_neg (by omega)]; rfl
  | succ n ih =>
    intro hn j
    have ih' := ih (by omega)
    show upd (ps_cS S to fr n) (4 * to + n) (ps_cS S to fr n (4 * fr + n)) j = _
    by_cases e : j = 4 * to + n
    · subst e
      rw [pk_us, ih', if_neg (by omega), if_pos (by omega)]
      congr 1
      omega
    · rw [pk_un e, ih']
      by_cases e2 : 4 * to ≤ j ∧ j < 4 * to + n
      · rw [if_pos e2, if_pos (by omega)]
      · rw [if_neg e2, if_neg (by omega)]
theorem ps_stC {R S : Nat → Int32} (h : ps_st R S) {to fr : Nat} (hf : fr < 8) (hne : fr ≠ to) : ps_st (upd R to (R fr)) (ps_cS S to fr 4) := by
  refine ps_stR (ps_stS h to (fun j hj hn t ht => ?_) ?_) to (h.1 fr hf)
  · rw [ps_cSa S hne 4 (by decide), if_neg (by omega)]
  · refine ps_okE (h.2 fr hf) (fun t ht => congrArg Int32.toInt ?_)
    rw [ps_cSa S hne 4 (by decide), if_pos (by omega)]
    congr 1
    omega
def ps_ot (k : Nat) : Nat := if k % 2 = 0 then k + 1 else k - 1
theorem ps_ot_b {k : Nat} (h : k < 8) : ps_ot k < 8 ∧ ps_ot k ≠ k := by
  unfold ps_ot
  split <;> omega
/-- prune, place by place: those that no best policy names take their neighbour's row -/
def ps_fold (G : Nat → Int32) (R S : Nat → Int32) : Nat → (Nat → Int32) × (Nat → Int32) × Nat
  | 0 => (R, S, 0)
  | k + 1 => if G k = 0 then (upd (ps_fold G R S k).1 k ((ps_fold G R S k).1 (ps_ot k)), ps_cS (ps_fold G R S k).2.1 k (ps_ot k) 4, (ps_fold G R S k).2.2 + 1) else ps_fold G R S k
theorem ps_fold_t {G R S : Nat → Int32} {k : Nat} (h : G k = 0) : ps_fold G R S (k + 1) = (upd (ps_fold G R S k).1 k ((ps_fold G R S k).1 (ps_ot k)), ps_cS (ps_fold G R S k).2.1 k (ps_ot k) 4, (ps_fold G R S k).2.2 + 1) := if_pos h
theorem ps_fold_f {G R S : Nat → Int32} {k : Nat} (h : ¬ G k = 0) : ps_fold G R S (k + 1) = ps_fold G R S k := if_neg h
theorem ps_fold_st {G R S : Nat → Int32} (h : ps_st R S) : ∀ k, k ≤ 8 → ps_st (ps_fold G R S k).1 (ps_fold G R S k).2.1 ∧ (ps_fold G R S k).2.2 ≤ k := by
  intro k
  induction k with
  | zero => intro _; exact ⟨h, Nat.le_refl 0⟩
  | succ k ih =>
    intro hk
    have i := ih (by omega)
    by_cases g : G k = 0
    · rw [ps_fold_t g]
      have hb := ps_ot_b (k := k) (by omega)
      exact ⟨ps_stC i.1 hb.1 hb.2, Nat.succ_le_succ i.2⟩
    · rw [ps_fold_f g]
      exact ⟨i.1, Nat.le_succ_of_le i.2⟩
/-- is the action a named in the state s by a policy that J marks -/
noncomputable def ps_nm (J : Nat → Int32) (s a : Nat) : Int32 := @ite _ (∃ p, p < 16 ∧ (¬ J p = 0 ∧ p / 2 ^ s % 2 = a)) (Classical.propDecidable _) 1 0
/-- the first marked policy from i on, within d places; 0 if there is none -/
def ps_fb (J : Nat → Int32) : Nat → Nat → Nat
  | 0, _ => 0
  | d + 1, i => if J i = 0 then ps_fb J d (i + 1) else i
theorem ps_fb_lt (J : Nat → Int32) : ∀ d i, i + d ≤ 16 → ps_fb J d i < 16 := by
  intro d
  induction d with
  | zero => intro i _; exact (by decide : 0 < 16)
  | succ d ih =>
    intro i h
    show (if J i = 0 then ps_fb J d (i + 1) else i) < 16
    split
    · exact ih (i + 1) (by omega)
    · omega
def ps_cnt (J : Nat → Int32) : Nat → Nat
  | 0 => 0
  | i + 1 => if J i = 0 then ps_cnt J i else ps_cnt J i + 1
theorem ps_cnt_le (J : Nat → Int32) : ∀ i, ps_cnt J i ≤ i := by
  intro i
  induction i with
  | zero => exact Nat.le_refl 0
  | succ i ih =>
    show (if J i = 0 then ps_cnt J i else ps_cnt J i + 1) ≤ i + 1
    split <;> omega
def ps_mk (G : Nat → Int32) : Nat → Nat
  | 0 => 0
  | k + 1 => if G k = 0 then ps_mk G k ||| 2 ^ k else ps_mk G k
theorem ps_mk_lt (G : Nat → Int32) : ∀ k, k ≤ 8 → ps_mk G k < 256 := by
  intro k
  induction k with
  | zero => intro _; exact (by decide : 0 < 256)
  | succ k ih =>
    intro hk
    show (if G k = 0 then ps_mk G k ||| 2 ^ k else ps_mk G k) < 256
    split
    · exact Nat.or_lt_two_pow (n := 8) (ih (by omega)) (Nat.pow_lt_pow_right (by decide) (by omega))
    · exact ih (by omega)
theorem ps_mk_b (G : Nat → Int32) : ∀ n j, (ps_mk G n).testBit j = decide (j < n ∧ G j = 0) := by
  intro n
  induction n with
  | zero => intro j; rw [decide_eq_false (by omega)]; exact Nat.zero_testBit j
  | succ n ih =>
    intro j
    show (if G n = 0 then ps_mk G n ||| 2 ^ n else ps_mk G n).testBit j = _
    by_cases g : G n = 0
    · rw [if_pos g, Nat.testBit_or, ih, Nat.testBit_two_pow, Bool.eq_iff_iff]
      simp only [Bool.or_eq_true, decide_eq_true_eq]
      constructor
      · rintro (⟨a, b⟩ | rfl)
        · exact ⟨by omega, b⟩
        · exact ⟨by omega, g⟩
      · rintro ⟨a, b⟩
        by_cases e : n = j
        · exact Or.inr e
        · exact Or.inl ⟨by omega, b⟩
    · rw [if_neg g, ih, Bool.eq_iff_iff]
      simp only [decide_eq_true_eq]
      constructor
      · rintro ⟨a, b⟩
        exact ⟨by omega, b⟩
      · rintro ⟨a, b⟩
        have e : j ≠ n := fun e => g (e ▸ b)
        exact ⟨by omega, b⟩
theorem ps_mk_q (G : Nat → Int32) {j : Nat} (hj : j < 8) : ps_mk G 8 / 2 ^ j % 2 = if G j = 0 then 1 else 0 := by
  have h := ps_mk_b G 8 j
  rw [Nat.testBit_eq_decide_div_mod_eq, Bool.eq_iff_iff] at h
  simp only [decide_eq_true_eq] at h
  have h2 := Nat.mod_lt (ps_mk G 8 / 2 ^ j) (show 2 > 0 by decide)
  by_cases g : G j = 0
  · rw [if_pos g]
    exact h.mpr ⟨hj, g⟩
  · rw [if_neg g]
    have h3 : ¬ ps_mk G 8 / 2 ^ j % 2 = 1 := fun e => g (h.mp e).2
    omega
theorem ps_or : ∀ m, m < 256 → ∀ k, k < 8 → nI m ||| ((1 : Int32) <<< (nI k &&& 31)) = nI (m ||| 2 ^ k) := by decide +kernel
theorem ps_sh8 : ∀ m, m < 256 → ∀ k, k < 8 → (nI m >>> (nI k &&& 31)) &&& 1 = nI (m / 2 ^ k % 2) := by decide +kernel
/-- the shares of a new object, after k places -/
def ps_ini : Nat → Nat → Int32
  | 0 => fun _ => 0
  | k + 1 => upd (ps_ini k) (4 * k + k / 2) 4
theorem ps_iniS : ∀ k, k < 8 → 0 ≤ (ps_ini 8 (4 * k + 0)).toInt ∧ 0 ≤ (ps_ini 8 (4 * k + 1)).toInt ∧ 0 ≤ (ps_ini 8 (4 * k + 2)).toInt ∧ 0 ≤ (ps_ini 8 (4 * k + 3)).toInt ∧ (ps_ini 8 (4 * k + 0)).toInt + (ps_ini 8 (4 * k + 1)).toInt + (ps_ini 8 (4 * k + 2)).toInt + (ps_ini 8 (4 * k + 3)).toInt = 4 := by decide +kernel
theorem ps_st0 : ps_st (fun _ => 0) (ps_ini 8) := ⟨fun _ _ => show -20 ≤ (0 : Int32).toInt ∧ (0 : Int32).toInt ≤ 20 by decide, fun k hk => ps_iniS k hk⟩
