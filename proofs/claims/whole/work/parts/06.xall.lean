/-! the class: solveEquations, order, isNowhereBeaten, solveAll -/
theorem ps_ccl (s : Nat) {t : Nat} (h : t < 4) : ps_cc s t < 5 := by
  unfold ps_cc
  split <;> omega
theorem ps_br {s c : Nat} {W : Int32 → Prop} (hs : s < 4) (hc : c < 4) (h : W (nI (ps_cc s c))) : (nI s = nI c → W 4) ∧ (¬ nI s = nI c → W (nI c)) := by
  rw [nI_eq (by omega) (by omega)]
  unfold ps_cc at h
  by_cases e : s = c
  · rw [if_pos e] at h
    exact br_t e h
  · rw [if_neg e] at h
    exact br_f e h
/-- the cells below m hold lowest terms -/
def ps_sol (R S : Nat → Int32) (m : Nat) (T B : Nat → Int32) : Prop := ∀ j, j < m → T j = Int32.ofInt (ps_T R S j) ∧ B j = Int32.ofInt (ps_B R S j)
theorem ps_sol1 {R S T B : Nat → Int32} {p s : Nat} (hs : s < 4) (h : ps_sol R S (4 * p + s) T B) : ps_sol R S (4 * p + (s + 1)) (upd T (4 * p + s) (Int32.ofInt ((ps_top R S p s).tdiv (Nat.gcd (ps_top R S p s).natAbs (ps_top R S p 4).natAbs : Nat)))) (upd B (4 * p + s) (Int32.ofInt ((ps_top R S p 4).tdiv (Nat.gcd (ps_top R S p s).natAbs (ps_top R S p 4).natAbs : Nat)))) := by
  intro j hj
  by_cases e : j = 4 * p + s
  · subst e
    rw [pk_us, pk_us]
    unfold ps_T ps_B ps_g
    rw [ps_jt R S p hs, ps_jb R S p hs]
    exact ⟨rfl, rfl⟩
  · rw [pk_un e, pk_un e]
    exact h j (by omega)
theorem ps_xs61 {post : SX → Prop} {J : Int32 → (Nat → Int32) → (Nat → Int32) → (Nat → Int32) → (Nat → Int32) → (Nat → Int32) → (Nat → Int32) → Prop} {R S E T B : Nat → Int32} (I : Nat → Int32) (h : ps_st R S) {p s : Nat} (hp : p < 16) (hs : s < 4) (hE : ps_rows R S p 4 E) (hT : ps_sol R S (4 * p + s) T B)
    (hJ : ∀ T' B', ps_sol R S (4 * p + (s + 1)) T' B' → J (nI (s + 1)) R S E T' B' I) : wX_solveEquations_61 post J (nI p) (Int32.ofInt (ps_top R S p 4)) (nI s) (nI (ps_cc s 0)) (nI (ps_cc s 1)) (nI (ps_cc s 2)) (nI (ps_cc s 3)) R S E T B I := by
  unfold wX_solveEquations_61
  refine ps_xdet R S E T B I hE (ps_ccl s (by decide)) (ps_ccl s (by decide)) (ps_ccl s (by decide)) (ps_ccl s (by decide)) (D := ps_top R S p s) rfl ?_
  dsimp only
  rw [ps_x4 p s]
  refine ps_xsto R S E T B I (by omega) (ps_top_b h p hs) (ps_bot_b h p) ?_
  exact nm_r (nI_1 s) (hJ _ _ (ps_sol1 hs hT))
theorem ps_xs25 {post : SX → Prop} {J : Int32 → (Nat → Int32) → (Nat → Int32) → (Nat → Int32) → (Nat → Int32) → (Nat → Int32) → (Nat → Int32) → Prop} {R S E T B : Nat → Int32} (I : Nat → Int32) (h : ps_st R S) {p s : Nat} (hp : p < 16) (hs : s < 4) (hE : ps_rows R S p 4 E) (hT : ps_sol R S (4 * p + s) T B)
    (hJ : ∀ T' B', ps_sol R S (4 * p + (s + 1)) T' B' → J (nI (s + 1)) R S E T' B' I) : wX_solveEquations_25 post J (nI p) (Int32.ofInt (ps_top R S p 4)) (nI s) (nI (ps_cc s 0)) R S E T B I := by
  unfold wX_solveEquations_25
  refine ps_br (c := 1) (W := fun z => wX_solveEquations_37 post J (nI p) (Int32.ofInt (ps_top R S p 4)) (nI s) (nI (ps_cc s 0)) z R S E T B I) hs (by decide) ?_
  unfold wX_solveEquations_37
  refine ps_br (c := 2) (W := fun z => wX_solveEquations_49 post J (nI p) (Int32.ofInt (ps_top R S p 4)) (nI s) (nI (ps_cc s 0)) (nI (ps_cc s 1)) z R S E T B I) hs (by decide) ?_
  unfold wX_solveEquations_49
  exact ps_br (c := 3) (W := fun z => wX_solveEquations_61 post J (nI p) (Int32.ofInt (ps_top R S p 4)) (nI s) (nI (ps_cc s 0)) (nI (ps_cc s 1)) (nI (ps_cc s 2)) z R S E T B I) hs (by decide) (ps_xs61 I h hp hs hE hT hJ)
theorem ps_xs11 {post : SX → Prop} {R S E : Nat → Int32} (I : Nat → Int32) (h : ps_st R S) {p : Nat} (hp : p < 16) (hE : ps_rows R S p 4 E) :
    ∀ n s T B, s ≤ 4 → 4 - s < n → ps_sol R S (4 * p + s) T B → (∀ T' B', ps_sol R S (4 * p + 4) T' B' → post (R, S, E, T', B', I)) → wX_solveEquations_11 post (nI p) (Int32.ofInt (ps_top R S p 4)) n (nI s) R S E T B I := by
  intro n
  induction n with
  | zero => intro s T B _ hn; omega
  | succ n ih =>
    intro s T B hs hn hT hJ
    by_cases e : s = 4
    · subst e
      exact br_t (nI_le (a := 4) (by decide) (by decide)) (hJ T B hT)
    · have hs4 : s < 4 := by omega
      refine br_f (nI_ge (b := 4) hs4 (by decide)) ?_
      exact ps_br (c := 0) (W := fun z => wX_solveEquations_25 post (wX_solveEquations_11 post (nI p) (Int32.ofInt (ps_top R S p 4)) n) (nI p) (Int32.ofInt (ps_top R S p 4)) (nI s) z R S E T B I) hs4 (by decide)
        (ps_xs25 I h hp hs4 hE hT (fun T' B' h' => ih (s + 1) T' B' (by omega) (by omega) h' hJ))
theorem ps_xse {post : SX → Prop} {R S E T B : Nat → Int32} (I : Nat → Int32) (h : ps_st R S) {p : Nat} (hp : p < 16) (hE : ps_rows R S p 4 E) (hT : ps_sol R S (4 * p) T B) (hJ : ∀ T' B', ps_sol R S (4 * p + 4) T' B' → post (R, S, E, T', B', I)) : wpX_solveEquations post (R, S, E, T, B, I) (nI p) := by
  unfold wpX_solveEquations
  dsimp only
  refine ps_xdet R S E T B I hE (c0 := 0) (c1 := 1) (c2 := 2) (c3 := 3) (by decide) (by decide) (by decide) (by decide) (D := ps_top R S p 4) rfl ?_
  exact ⟨5, ps_xs11 I h hp hE 5 0 T B (by decide) (by decide) hT hJ⟩
theorem ps_xord {post : Int32 → Prop} {R S T B : Nat → Int32} (E I : Nat → Int32) (h : ps_st R S) (hT : ps_sol R S 64 T B) {p q s : Nat} (hp : p < 16) (hq : q < 16) (hs : s < 4) (hpost : post (ps_ord R S p q s)) : wpX_order post (R, S, E, T, B, I) (nI p) (nI q) (nI s) := by
  have hi : vp_in (nI (4 * p + s)) 64 := vp_in_nI (by omega) (by decide)
  have hj : vp_in (nI (4 * q + s)) 64 := vp_in_nI (by omega) (by decide)
  have tp := hT (4 * p + s) (by omega)
  have tq := hT (4 * q + s) (by omega)
  have bp := ps_Tb h (4 * p + s)
  have bq := ps_Tb h (4 * q + s)
  have cp := ps_Bb h (4 * p + s)
  have cq := ps_Bb h (4 * q + s)
  have b1 : (ps_T R S (4 * p + s) * ps_B R S (4 * q + s)).natAbs < 9223372036854775808 := Nat.lt_of_le_of_lt (ps_pb bp cq) (by decide)
  have b2 : (ps_T R S (4 * q + s) * ps_B R S (4 * p + s)).natAbs < 9223372036854775808 := Nat.lt_of_le_of_lt (ps_pb bq cp) (by decide)
  have hE := ps_scE h p q hs
  have hL := ps_scL h p q hs
  have e1 : (T (nI (4 * p + s)).toNatClampNeg).toInt64 * (B (nI (4 * q + s)).toNatClampNeg).toInt64 = Int64.ofInt (ps_T R S (4 * p + s) * ps_B R S (4 * q + s)) := by
    rw [nI_clamp (by omega), nI_clamp (by omega), tp.1, tq.2, ps_i64 (by omega), ps_i64 (by omega), Int64.ofInt_mul]
  have e2 : (T (nI (4 * q + s)).toNatClampNeg).toInt64 * (B (nI (4 * p + s)).toNatClampNeg).toInt64 = Int64.ofInt (ps_T R S (4 * q + s) * ps_B R S (4 * p + s)) := by
    rw [nI_clamp (by omega), nI_clamp (by omega), tq.1, tp.2, ps_i64 (by omega), ps_i64 (by omega), Int64.ofInt_mul]
  unfold wpX_order
  dsimp only
  refine nm_r (ps_x4 p s) (nm_r (ps_x4 q s) ⟨hi, hj, nm_r e1 ⟨hj, hi, nm_r e2 ?_⟩⟩)
  generalize ps_T R S (4 * p + s) * ps_B R S (4 * q + s) = x at *
  generalize ps_T R S (4 * q + s) * ps_B R S (4 * p + s) = y at *
  unfold ps_ord at hpost
  by_cases c : ps_l R S p q s = ps_l R S q p s
  · rw [if_pos c] at hpost
    exact br_t ((ps_eq64 b1 b2).mpr (hE.mpr c)) hpost
  · rw [if_neg c] at hpost
    refine br_f (fun z => c (hE.mp ((ps_eq64 b1 b2).mp z))) ?_
    by_cases d : ps_l R S p q s < ps_l R S q p s
    · rw [if_pos d] at hpost
      have xy := hL.mpr d
      exact br_f (fun z => absurd ((ps_le64 b2 b1).mp z) (by omega)) hpost
    · rw [if_neg d] at hpost
      have xy : ¬ x < y := fun z => d (hL.mp z)
      exact br_t ((ps_le64 b2 b1).mpr (by omega)) hpost
theorem ps_ord0 (R S : Nat → Int32) (p q s : Nat) : 0 ≤ ps_ord R S p q s ↔ ¬ ps_l R S p q s < ps_l R S q p s := by
  unfold ps_ord
  by_cases c : ps_l R S p q s = ps_l R S q p s
  · rw [if_pos c]
    exact ⟨fun _ => by omega, fun _ => by decide⟩
  · rw [if_neg c]
    by_cases d : ps_l R S p q s < ps_l R S q p s
    · rw [if_pos d]
      exact ⟨fun z => absurd z (by decide), fun z => absurd d z⟩
    · rw [if_neg d]
      exact ⟨fun _ => d, fun _ => by decide⟩
theorem ps_ordN (R S : Nat → Int32) (p q s : Nat) : ps_ord R S q p s ≤ 0 ↔ ¬ ps_l R S p q s < ps_l R S q p s := by
  unfold ps_ord
  by_cases c : ps_l R S q p s = ps_l R S p q s
  · rw [if_pos c]
    exact ⟨fun _ => by omega, fun _ => by decide⟩
  · rw [if_neg c]
    by_cases d : ps_l R S q p s < ps_l R S p q s
    · rw [if_pos d]
      exact ⟨fun z => by omega, fun z => by decide⟩
    · rw [if_neg d]
      exact ⟨fun z => absurd z (by decide), fun z => by omega⟩
theorem ps_xb10 {post : Int32 → Prop} {J : Int32 → Prop} {R S T B : Nat → Int32} (E I : Nat → Int32) (h : ps_st R S) (hT : ps_sol R S 64 T B) {p q : Nat} (hp : p < 16) (hq : q < 16) (h0 : (∃ s, s < 4 ∧ ps_l R S p q s < ps_l R S q p s) → post 0) (hJ : (∀ s, s < 4 → ¬ ps_l R S p q s < ps_l R S q p s) → J (nI (q + 1))) :
    ∀ n s, s ≤ 4 → 4 - s < n → (∀ s', s' < s → ¬ ps_l R S p q s' < ps_l R S q p s') → wX_isNowhereBeaten_10 post J (nI p) (nI q) R S E T B I n (nI s) := by
  intro n
  induction n with
  | zero => intro s _ hn; omega
  | succ n ih =>
    intro s hs hn hl
    by_cases e : s = 4
    · subst e
      exact br_t (nI_le (a := 4) (by decide) (by decide)) (nm_r (nI_1 q) (hJ hl))
    · have hs4 : s < 4 := by omega
      refine br_f (nI_ge (b := 4) hs4 (by decide)) (ps_xord E I h hT hp hq hs4 ?_)
      by_cases c : ps_l R S p q s < ps_l R S q p s
      · exact br_f (fun z => (ps_ord0 R S p q s).mp z c) (h0 ⟨s, hs4, c⟩)
      · exact br_t ((ps_ord0 R S p q s).mpr c) (nm_r (nI_1 s) (ih (s + 1) (by omega) (by omega) (lt_s hl c)))
theorem ps_i1 {R S : Nat → Int32} {p : Nat} (h : ∀ q, q < 16 → ∀ s, s < 4 → ¬ ps_l R S p q s < ps_l R S q p s) : ps_i R S p = 1 := if_pos h
theorem ps_i0 {R S : Nat → Int32} {p q : Nat} (hq : q < 16) (h : ∃ s, s < 4 ∧ ps_l R S p q s < ps_l R S q p s) : ps_i R S p = 0 := if_neg (fun z => by
  obtain ⟨s, hs, c⟩ := h
  exact z q hq s hs c)
theorem ps_xb2 {post : Int32 → Prop} {R S T B : Nat → Int32} (E I : Nat → Int32) (h : ps_st R S) (hT : ps_sol R S 64 T B) {p : Nat} (hp : p < 16) (hpost : post (ps_i R S p)) :
    ∀ n q, q ≤ 16 → 16 - q < n → (∀ q', q' < q → ∀ s, s < 4 → ¬ ps_l R S p q' s < ps_l R S q' p s) → wX_isNowhereBeaten_2 post (nI p) R S E T B I n (nI q) := by
  intro n
  induction n with
  | zero => intro q _ hn; omega
  | succ n ih =>
    intro q hq hn hl
    by_cases e : q = 16
    · subst e
      rw [ps_i1 hl] at hpost
      exact br_t (nI_le (a := 16) (by decide) (by decide)) hpost
    · have hq16 : q < 16 := by omega
      refine br_f (nI_ge (b := 16) hq16 (by decide)) ⟨5, ?_⟩
      exact ps_xb10 E I h hT hp hq16 (fun z => by rw [ps_i0 hq16 z] at hpost; exact hpost) (fun z => ih (q + 1) (by omega) (by omega) (lt_s hl z)) 5 0 (by decide) (by decide) lt_0
theorem ps_xnb {post : Int32 → Prop} {R S T B : Nat → Int32} (E I : Nat → Int32) (h : ps_st R S) (hT : ps_sol R S 64 T B) {p : Nat} (hp : p < 16) (hpost : post (ps_i R S p)) : wpX_isNowhereBeaten post (R, S, E, T, B, I) (nI p) :=
  ⟨17, ps_xb2 E I h hT hp hpost 17 0 (by decide) (by decide) lt_0⟩
theorem ps_i01 (R S : Nat → Int32) (p : Nat) : ps_i R S p = 0 ∨ ps_i R S p = 1 := by
  unfold ps_i
  split
  · exact Or.inr rfl
  · exact Or.inl rfl
theorem ps_vn {r : Int32} (h : r = 0 ∨ r = 1) : vp_nar .boolean r = r := by
  rcases h with rfl | rfl <;> rfl
theorem ps_xa26 {post : SX → Prop} {R S T B : Nat → Int32} (E : Nat → Int32) (h : ps_st R S) (hT : ps_sol R S 64 T B) :
    ∀ n p I, p ≤ 16 → 16 - p < n → (∀ p', p' < p → I p' = ps_i R S p') → (∀ I', (∀ p', p' < 16 → I' p' = ps_i R S p') → post (R, S, E, T, B, I')) → wX_solveAll_26 post n (nI p) R S E T B I := by
  intro n
  induction n with
  | zero => intro p I _ hn; omega
  | succ n ih =>
    intro p I hp hn hI hJ
    by_cases e : p = 16
    · subst e
      exact br_t (nI_le (a := 16) (by decide) (by decide)) (hJ I hI)
    · have hp16 : p < 16 := by omega
      refine br_f (nI_ge (b := 16) hp16 (by decide)) (ps_xnb E I h hT hp16 ?_)
      refine ⟨vp_in_nI hp16 (by decide), nm_r (e' := upd I p (ps_i R S p)) (by rw [nI_clamp (by omega), ps_vn (ps_i01 R S p)]) (nm_r (nI_1 p) ?_)⟩
      refine ih (p + 1) _ (by omega) (by omega) (lt_s (fun p' hp' => ?_) pk_us) hJ
      rw [pk_un (by omega)]
      exact hI p' hp'
theorem ps_xa2 {post : SX → Prop} {R S : Nat → Int32} (I : Nat → Int32) (h : ps_st R S) (hJ : ∀ E' T' B' I', ps_sol R S 64 T' B' → (∀ p', p' < 16 → I' p' = ps_i R S p') → post (R, S, E', T', B', I')) :
    ∀ n p E T B, p ≤ 16 → 16 - p < n → ps_sol R S (4 * p) T B → wX_solveAll_2 post n (nI p) R S E T B I := by
  intro n
  induction n with
  | zero => intro p E T B _ hn; omega
  | succ n ih =>
    intro p E T B hp hn hT
    by_cases e : p = 16
    · subst e
      exact br_t (nI_le (a := 16) (by decide) (by decide)) ⟨17, ps_xa26 E h hT 17 0 I (by decide) (by decide) lt_0 (fun I' hI' => hJ E T B I' hT hI')⟩
    · have hp16 : p < 16 := by omega
      refine br_f (nI_ge (b := 16) hp16 (by decide)) (ps_xwr R S E T B I hp16 (fun E' hE' => ?_))
      exact ps_xse I h hp16 hE' hT (fun T' B' h' => nm_r (nI_1 p) (ih (p + 1) E' T' B' (by omega) (by omega) h'))
theorem ps_xall {post : SX → Prop} {R S : Nat → Int32} (E T B I : Nat → Int32) (h : ps_st R S) (hJ : ∀ E' T' B' I', ps_sol R S 64 T' B' → (∀ p', p' < 16 → I' p' = ps_i R S p') → post (R, S, E', T', B', I')) : wpX_solveAll post (R, S, E, T, B, I) :=
  ⟨17, ps_xa2 I h hJ 17 0 E T B (by decide) (by decide) (fun _ hj => absurd hj (Nat.not_lt_zero _))⟩
