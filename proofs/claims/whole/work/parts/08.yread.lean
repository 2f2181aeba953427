/-! the reference: common, order, isBest, the reading calls -/
theorem ps_ycd {post : Int64 → Prop} (R S : Nat → Int32) (W X Z : Nat → Int64) : ∀ m a b i, ps_eu m b a → i + m = 90 → a < 2147483648 → b < 2147483648 → 0 < Nat.gcd b a → post (lN (Nat.gcd b a)) → wY_common_39 post R S W X Z (m + 1) (lN a) (lN b) (nI i) := by
  intro m
  induction m with
  | zero =>
    intro a b i hu hi ha hb hg hp
    have e : a = 0 := hu
    subst e
    rw [Nat.gcd_zero_right] at hp hg
    exact br_t (nI_le (a := 90) (by omega) (by omega)) (br_t ((lN_le (a := 1) (by decide) hb).mpr hg) hp)
  | succ m ih =>
    intro a b i hu hi ha hb hg hp
    have n90 : ¬ (90 : Int32) ≤ nI i := nI_ge (b := 90) (by omega) (by decide)
    by_cases e : a = 0
    · subst e
      exact br_f n90 (br_t rfl (nm_r (nI_1 i) (ih 0 b (i + 1) (ps_eu0 m b) (by omega) ha hb hg hp)))
    · have ha0 : 0 < a := by omega
      have hu' : ps_eu m a (b % a) := hu.resolve_left e
      have hlt : b % a < a := Nat.mod_lt _ ha0
      have n0 : ¬ lN a = 0 := fun z => e ((lN_eq (b := 0) ha (by decide)).mp z)
      have hgs := ps_gs b a
      exact br_f n90 (br_f n0 (br_f n0 ⟨n0, nm_r (pk_lRem (by omega) ha0 (by omega)) (nm_r (nI_1 i) (ih (b % a) a (i + 1) hu' (by omega) (by omega) ha (by rw [hgs]; exact hg) (by rw [hgs]; exact hp)))⟩))
theorem ps_ycom {post : Int64 → Prop} {R S : Nat → Int32} (W : Nat → Int64) {X Z : Nat → Int64} (h : ps_st R S) (hX : ps_ys R S 64 X Z) {j : Nat} (hj : j < 64) (hp : post (lN (ps_g R S j))) : wpY_common post (R, S, W, X, Z) (nI j) := by
  have hi : vp_in (nI j) 64 := vp_in_nI hj (by decide)
  have ht := ps_tJb h j
  have hb := ps_bJb h j
  have hg := (ps_gp h j).1
  have eg : Nat.gcd (ps_bJ R S j).natAbs (ps_tJ R S j).natAbs = ps_g R S j := Nat.gcd_comm _ _
  have hx := hX j hj
  have ec : (nI j).toNatClampNeg = j := nI_clamp (by omega)
  have eb : Z (nI j).toNatClampNeg = lN (ps_bJ R S j).natAbs := by
    rw [ec, hx.2, ← ps_lN]
    congr 1
    omega
  have key := ps_ycd (post := post) R S W X Z 90 (ps_tJ R S j).natAbs (ps_bJ R S j).natAbs 0 (ps_eum 42 90 _ _ (ps_eul 21 _ _ (Nat.lt_of_le_of_lt ht (by decide))) (by decide)) (by decide) (by omega) (by omega) (by rw [eg]; exact hg) (by rw [eg]; exact hp)
  unfold wpY_common
  dsimp only
  rw [ec, hx.1]
  by_cases h0 : 0 ≤ ps_tJ R S j
  · have e : Int64.ofInt (ps_tJ R S j) = lN (ps_tJ R S j).natAbs := by
      rw [← ps_lN]
      congr 1
      omega
    refine ⟨hi, br_t ((ps_le64 (x := 0) (by decide) (by omega)).mpr h0) ⟨hi, ?_⟩⟩
    rw [e]
    exact ⟨hi, nm_r eb ⟨_, key⟩⟩
  · have e : -Int64.ofInt (ps_tJ R S j) = lN (ps_tJ R S j).natAbs := by
      rw [← ps_lN, ← Int64.ofInt_neg]
      congr 1
      omega
    refine ⟨hi, br_f (fun z => h0 ((ps_le64 (x := 0) (by decide) (by omega)).mp z)) ⟨hi, ?_⟩⟩
    rw [e]
    exact ⟨hi, nm_r eb ⟨_, key⟩⟩
theorem ps_yord {post : Int32 → Prop} {R S : Nat → Int32} (W : Nat → Int64) {X Z : Nat → Int64} (h : ps_st R S) (hX : ps_ys R S 64 X Z) {p q s : Nat} (hp : p < 16) (hq : q < 16) (hs : s < 4) (hpost : post (ps_ord R S p q s)) : wpY_order post (R, S, W, X, Z) (nI p) (nI q) (nI s) := by
  have hi : vp_in (nI (4 * p + s)) 64 := vp_in_nI (by omega) (by decide)
  have hj : vp_in (nI (4 * q + s)) 64 := vp_in_nI (by omega) (by decide)
  have tp := hX (4 * p + s) (by omega)
  have tq := hX (4 * q + s) (by omega)
  rw [ps_jt R S p hs, ps_jb R S p hs] at tp
  rw [ps_jt R S q hs, ps_jb R S q hs] at tq
  have cp := ps_bot_b h p
  have cq := ps_bot_b h q
  have b1 : (ps_l R S p q s).natAbs < 9223372036854775808 := Nat.lt_of_le_of_lt (ps_pb (b := 98304) (ps_top_b h p hs) (by omega)) (by decide)
  have b2 : (ps_l R S q p s).natAbs < 9223372036854775808 := Nat.lt_of_le_of_lt (ps_pb (b := 98304) (ps_top_b h q hs) (by omega)) (by decide)
  unfold wpY_order
  dsimp only
  rw [ps_y4 p s, ps_y4 q s]
  have e1 : X (nI (4 * p + s)).toNatClampNeg * Z (nI (4 * q + s)).toNatClampNeg = Int64.ofInt (ps_l R S p q s) := by
    rw [nI_clamp (by omega), nI_clamp (by omega), tp.1, tq.2, ← Int64.ofInt_mul]
    rfl
  have e2 : X (nI (4 * q + s)).toNatClampNeg * Z (nI (4 * p + s)).toNatClampNeg = Int64.ofInt (ps_l R S q p s) := by
    rw [nI_clamp (by omega), nI_clamp (by omega), tq.1, tp.2, ← Int64.ofInt_mul]
    rfl
  refine ⟨hi, hj, nm_r e1 ⟨hj, hi, nm_r e2 ?_⟩⟩
  unfold ps_ord at hpost
  generalize ps_l R S p q s = x at *
  generalize ps_l R S q p s = y at *
  by_cases c : x = y
  · rw [if_pos c] at hpost
    exact br_t ((ps_le64 b2 b1).mpr (by omega)) (br_t ((ps_le64 b1 b2).mpr (by omega)) hpost)
  · rw [if_neg c] at hpost
    by_cases d : x < y
    · rw [if_pos d] at hpost
      exact br_f (fun z => absurd ((ps_le64 b2 b1).mp z) (by omega)) hpost
    · rw [if_neg d] at hpost
      exact br_t ((ps_le64 b2 b1).mpr (by omega)) (br_f (fun z => absurd ((ps_le64 b1 b2).mp z) (by omega)) hpost)
theorem ps_yb10 {post : Int32 → Prop} {J : Int32 → Prop} {R S : Nat → Int32} (W : Nat → Int64) {X Z : Nat → Int64} (h : ps_st R S) (hX : ps_ys R S 64 X Z) {p q : Nat} (hp : p < 16) (hq : q < 16) (h0 : (∃ s, s < 4 ∧ ps_l R S p q s < ps_l R S q p s) → post 0) (hJ : (∀ s, s < 4 → ¬ ps_l R S p q s < ps_l R S q p s) → J (nI (q + 1))) :
    ∀ n s, s ≤ 4 → 4 - s < n → (∀ s', s' < s → ¬ ps_l R S p q s' < ps_l R S q p s') → wY_isBest_10 post J (nI p) (nI q) R S W X Z n (nI s) := by
  intro n
  induction n with
  | zero => intro s _ hn; omega
  | succ n ih =>
    intro s hs hn hl
    by_cases e : s = 4
    · subst e
      exact br_t (nI_le (a := 4) (by decide) (by decide)) (nm_r (nI_1 q) (hJ hl))
    · have hs4 : s < 4 := by omega
      refine br_f (nI_ge (b := 4) hs4 (by decide)) (ps_yord W h hX hq hp hs4 ?_)
      by_cases c : ps_l R S p q s < ps_l R S q p s
      · exact br_f (fun z => (ps_ordN R S p q s).mp z c) (h0 ⟨s, hs4, c⟩)
      · exact br_t ((ps_ordN R S p q s).mpr c) (nm_r (nI_1 s) (ih (s + 1) (by omega) (by omega) (lt_s hl c)))
theorem ps_yb2 {post : Int32 → Prop} {R S : Nat → Int32} (W : Nat → Int64) {X Z : Nat → Int64} (h : ps_st R S) (hX : ps_ys R S 64 X Z) {p : Nat} (hp : p < 16) (hpost : post (ps_i R S p)) :
    ∀ n q, q ≤ 16 → 16 - q < n → (∀ q', q' < q → ∀ s, s < 4 → ¬ ps_l R S p q' s < ps_l R S q' p s) → wY_isBest_2 post (nI p) R S W X Z n (nI q) := by
  intro n
  induction n with
  | zero => intro q _ hn; omega
  | succ n ih =>
    intro q hq hn hl
    by_cases e : q = 16
    · subst e
      rw [ps_i1 hl] at hpost
      exact br_t (nI_le (a := 16) (by decide) (by decide)) hpost
    · have hq16 : q < 16 := by omega
      refine br_f (nI_ge (b := 16) hq16 (by decide)) ⟨5, ?_⟩
      exact ps_yb10 W h hX hp hq16 (fun z => by rw [ps_i0 hq16 z] at hpost; exact hpost) (fun z => ih (q + 1) (by omega) (by omega) (lt_s hl z)) 5 0 (by decide) (by decide) lt_0
theorem ps_ynb {post : Int32 → Prop} {R S : Nat → Int32} (W : Nat → Int64) {X Z : Nat → Int64} (h : ps_st R S) (hX : ps_ys R S 64 X Z) {p : Nat} (hp : p < 16) (hpost : post (ps_i R S p)) : wpY_isBest post (R, S, W, X, Z) (nI p) :=
  ⟨17, ps_yb2 W h hX hp hpost 17 0 (by decide) (by decide) lt_0⟩
theorem ps_yf6 {post : Int32 → SY → Prop} {R S : Nat → Int32} (W : Nat → Int64) {X Z : Nat → Int64} (h : ps_st R S) (hX : ps_ys R S 64 X Z) : ∀ d i, i + d = 16 → post (nI (ps_fb (ps_i R S) d i)) (R, S, W, X, Z) → wY_firstBest_6 post R S W X Z (d + 1) (nI i) := by
  intro d
  induction d with
  | zero =>
    intro i hi hp
    exact br_t (nI_le (a := 16) (by omega) (by omega)) hp
  | succ d ih =>
    intro i hi hp
    have hi16 : i < 16 := by omega
    refine br_f (nI_ge (b := 16) hi16 (by decide)) (ps_ynb W h hX hi16 ?_)
    have hp' : post (nI (if ps_i R S i = 0 then ps_fb (ps_i R S) d (i + 1) else i)) (R, S, W, X, Z) := hp
    by_cases e : ps_i R S i = 0
    · rw [if_pos e] at hp'
      exact br_t e (nm_r (nI_1 i) (ih (i + 1) (by omega) hp'))
    · rw [if_neg e] at hp'
      exact br_f e hp'
theorem ps_yfb {post : Int32 → SY → Prop} {R S : Nat → Int32} (W X Z : Nat → Int64) (h : ps_st R S) (hJ : ∀ W' X' Z', post (nI (ps_fb (ps_i R S) 16 0)) (R, S, W', X', Z')) : wpY_firstBest post (R, S, W, X, Z) :=
  ps_ysol W X Z h (fun W' X' Z' hX => ⟨17, ps_yf6 W' h hX 16 0 rfl (hJ W' X' Z')⟩)
theorem ps_yp8 {post : Int32 → SY → Prop} {R S : Nat → Int32} (W : Nat → Int64) {X Z : Nat → Int64} (h : ps_st R S) (hX : ps_ys R S 64 X Z) (hp : post (nI (ps_cnt (ps_i R S) 16)) (R, S, W, X, Z)) : ∀ d i, i + d = 16 → wY_policies_8 post R S W X Z (d + 1) (nI (ps_cnt (ps_i R S) i)) (nI i) := by
  intro d
  induction d with
  | zero =>
    intro i hi
    have e : i = 16 := by omega
    subst e
    exact br_t (nI_le (a := 16) (by omega) (by omega)) hp
  | succ d ih =>
    intro i hi
    have hi16 : i < 16 := by omega
    refine br_f (nI_ge (b := 16) hi16 (by decide)) (ps_ynb W h hX hi16 ?_)
    have ih' := ih (i + 1) (by omega)
    have ec : ps_cnt (ps_i R S) (i + 1) = if ps_i R S i = 0 then ps_cnt (ps_i R S) i else ps_cnt (ps_i R S) i + 1 := rfl
    by_cases e : ps_i R S i = 0
    · rw [ec, if_pos e] at ih'
      exact br_t e (nm_r (nI_1 i) ih')
    · rw [ec, if_neg e] at ih'
      exact br_f e (nm_r (nI_1 _) (nm_r (nI_1 i) ih'))
theorem ps_ypc {post : Int32 → SY → Prop} {R S : Nat → Int32} (W X Z : Nat → Int64) (h : ps_st R S) (hJ : ∀ W' X' Z', post (nI (ps_cnt (ps_i R S) 16)) (R, S, W', X', Z')) : wpY_policies post (R, S, W, X, Z) :=
  ps_ysol W X Z h (fun W' X' Z' hX => ⟨17, ps_yp8 W' h hX (hJ W' X' Z') 16 0 rfl⟩)
/-! the checks of the arguments -/
theorem ps_lts {x : Int32} (n : Nat) (hn : n + 1 < 2 ^ 31) (h : nI (n + 1) ≤ x) : nI n < x := by
  rw [Int32.le_iff_toInt_le, nI_toInt hn] at h
  rw [Int32.lt_iff_toInt_lt, nI_toInt (by omega)]
  omega
theorem ps_xip {post : Int32 → Prop} {p : Nat} (hp : p < 16) (h : post 1) : wpX_isPolicy post (nI p) := br_f (nI_pos (by omega)) (br_f (nI_ge (b := 16) hp (by decide)) h)
theorem ps_xip0 {post : Int32 → Prop} {x : Int32} (hx : x < 0 ∨ nI 16 ≤ x) (h : post 0) : wpX_isPolicy post x := by
  by_cases c : x < 0
  · exact br_t c h
  · exact br_f c (br_t (hx.resolve_left c) h)
theorem ps_yip {post : Int32 → Prop} (R S : Nat → Int32) (W X Z : Nat → Int64) {p : Nat} (hp : p < 16) (h : post 1) : wpY_isPolicy post (R, S, W, X, Z) (nI p) := br_f (nI_pos (by omega)) (br_f (nI_nlt (a := 15) (by omega) (by decide)) h)
theorem ps_yip0 {post : Int32 → Prop} (R S : Nat → Int32) (W X Z : Nat → Int64) {x : Int32} (hx : x < 0 ∨ nI 16 ≤ x) (h : post 0) : wpY_isPolicy post (R, S, W, X, Z) x := by
  by_cases c : x < 0
  · exact br_t c h
  · exact br_f c (br_t (ps_lts 15 (by decide) (hx.resolve_left c)) h)
theorem ps_xis {post : Int32 → Prop} {s : Nat} (hs : s < 4) (h : post 1) : wpX_isState post (nI s) := br_f (nI_pos (by omega)) (br_f (nI_ge (b := 4) hs (by decide)) h)
theorem ps_xis0 {post : Int32 → Prop} {x : Int32} (hx : x < 0 ∨ nI 4 ≤ x) (h : post 0) : wpX_isState post x := by
  by_cases c : x < 0
  · exact br_t c h
  · exact br_f c (br_t (hx.resolve_left c) h)
theorem ps_yis {post : Int32 → Prop} (R S : Nat → Int32) (W X Z : Nat → Int64) {s : Nat} (hs : s < 4) (h : post 1) : wpY_isState post (R, S, W, X, Z) (nI s) := br_f (nI_pos (by omega)) (br_f (nI_nlt (a := 3) (by omega) (by decide)) h)
theorem ps_yis0 {post : Int32 → Prop} (R S : Nat → Int32) (W X Z : Nat → Int64) {x : Int32} (hx : x < 0 ∨ nI 4 ≤ x) (h : post 0) : wpY_isState post (R, S, W, X, Z) x := by
  by_cases c : x < 0
  · exact br_t c h
  · exact br_f c (br_t (ps_lts 3 (by decide) (hx.resolve_left c)) h)
theorem ps_xic {post : Int32 → Prop} {s a : Nat} (hs : s < 4) (ha : a < 2) (h : post 1) : wpX_isChoice post (nI s) (nI a) := br_f (nI_pos (by omega)) (br_f (nI_ge (b := 4) hs (by decide)) (br_f (nI_pos (by omega)) (br_f (nI_ge (b := 2) ha (by decide)) h)))
theorem ps_xic0 {post : Int32 → Prop} {x y : Int32} (hx : (x < 0 ∨ nI 4 ≤ x) ∨ (y < 0 ∨ nI 2 ≤ y)) (h : post 0) : wpX_isChoice post x y := by
  by_cases c : x < 0
  · exact br_t c h
  · refine br_f c ?_
    by_cases d : nI 4 ≤ x
    · exact br_t d h
    · refine br_f d ?_
      by_cases e : y < 0
      · exact br_t e h
      · exact br_f e (br_t ((hx.resolve_left (fun z => z.elim c d)).resolve_left e) h)
theorem ps_yic {post : Int32 → Prop} (R S : Nat → Int32) (W X Z : Nat → Int64) {s a : Nat} (hs : s < 4) (ha : a < 2) (h : post 1) : wpY_isAction post (R, S, W, X, Z) (nI s) (nI a) := br_f (nI_pos (by omega)) (br_f (nI_nlt (a := 3) (by omega) (by decide)) (br_f (nI_pos (by omega)) (br_f (nI_nlt (a := 1) (by omega) (by decide)) h)))
theorem ps_yic0 {post : Int32 → Prop} (R S : Nat → Int32) (W X Z : Nat → Int64) {x y : Int32} (hx : (x < 0 ∨ nI 4 ≤ x) ∨ (y < 0 ∨ nI 2 ≤ y)) (h : post 0) : wpY_isAction post (R, S, W, X, Z) x y := by
  by_cases c : x < 0
  · exact br_t c h
  · refine br_f c ?_
    by_cases d : nI 4 ≤ x
    · exact br_t (ps_lts 3 (by decide) d) h
    · have d' : ¬ (3 : Int32) < x := by
        obtain ⟨j, hj, rfl⟩ := nI_of c
        have hl : j < 4 := Nat.not_le.mp fun q => d (nI_le q hj)
        exact nI_nlt (a := 3) (by omega) (by decide)
      refine br_f d' ?_
      by_cases e : y < 0
      · exact br_t e h
      · exact br_f e (br_t (ps_lts 1 (by decide) ((hx.resolve_left (fun z => z.elim c d)).resolve_left e)) h)
/-! the values and the named actions, as the reference answers them -/
theorem ps_yvt {post : Int32 → SY → Prop} {R S : Nat → Int32} (W X Z : Nat → Int64) (h : ps_st R S) {p s : Nat} (hp : p < 16) (hs : s < 4) (hJ : ∀ W' X' Z', post (Int32.ofInt (ps_T R S (4 * p + s))) (R, S, W', X', Z')) : wpY_valueTop post (R, S, W, X, Z) (nI p) (nI s) := by
  unfold wpY_valueTop
  dsimp only
  refine ps_yip R S W X Z hp (br_f (by decide) (ps_yis R S W X Z hs (br_f (by decide) (ps_ysol W X Z h (fun W' X' Z' hX => ?_)))))
  dsimp only
  rw [ps_y4]
  have hg := ps_gp h (4 * p + s)
  have ht := ps_tJb h (4 * p + s)
  refine ps_ycom W' h hX (by omega) ⟨vp_in_nI (by omega) (by decide), fun z => ?_, ?_⟩
  · have := (lN_eq (a := ps_g R S (4 * p + s)) (b := 0) (by omega) (by decide)).mp z
    omega
  · rw [nI_clamp (by omega), (hX (4 * p + s) (by omega)).1, ← ps_lN, ps_div64 (by omega) (by omega), Int64.toInt32_ofInt]
    exact hJ W' X' Z'
theorem ps_yvb {post : Int32 → SY → Prop} {R S : Nat → Int32} (W X Z : Nat → Int64) (h : ps_st R S) {p s : Nat} (hp : p < 16) (hs : s < 4) (hJ : ∀ W' X' Z', post (Int32.ofInt (ps_B R S (4 * p + s))) (R, S, W', X', Z')) : wpY_valueBottom post (R, S, W, X, Z) (nI p) (nI s) := by
  unfold wpY_valueBottom
  dsimp only
  refine ps_yip R S W X Z hp (br_f (by decide) (ps_yis R S W X Z hs (br_f (by decide) (ps_ysol W X Z h (fun W' X' Z' hX => ?_)))))
  dsimp only
  rw [ps_y4]
  have hg := ps_gp h (4 * p + s)
  have ht := ps_bJb h (4 * p + s)
  refine ps_ycom W' h hX (by omega) ⟨vp_in_nI (by omega) (by decide), fun z => ?_, ?_⟩
  · have := (lN_eq (a := ps_g R S (4 * p + s)) (b := 0) (by omega) (by decide)).mp z
    omega
  · rw [nI_clamp (by omega), (hX (4 * p + s) (by omega)).2, ← ps_lN, ps_div64 (by omega) (by omega), Int64.toInt32_ofInt]
    exact hJ W' X' Z'
theorem ps_nm1 {J : Nat → Int32} {s a : Nat} (p : Nat) (hp : p < 16) (h : ¬ J p = 0) (e : p / 2 ^ s % 2 = a) : ps_nm J s a = 1 := if_pos ⟨p, hp, h, e⟩
theorem ps_nm0 {J : Nat → Int32} {s a : Nat} (h : ∀ p, p < 16 → ¬ (¬ J p = 0 ∧ p / 2 ^ s % 2 = a)) : ps_nm J s a = 0 := if_neg (fun z => by
  obtain ⟨p, hp, hh⟩ := z
  exact h p hp hh)
theorem ps_nm01 (J : Nat → Int32) (s a : Nat) : ps_nm J s a = 0 ∨ ps_nm J s a = 1 := by
  unfold ps_nm
  split
  · exact Or.inr rfl
  · exact Or.inl rfl
theorem ps_yg17 {post : Int32 → SY → Prop} {R S : Nat → Int32} (W : Nat → Int64) {X Z : Nat → Int64} (h : ps_st R S) (hX : ps_ys R S 64 X Z) {s a : Nat} (hs : s < 4) (ha : a < 2) (hp : post (ps_nm (ps_i R S) s a) (R, S, W, X, Z)) :
    ∀ d i, i + d = 16 → (∀ p, p < i → ¬ (¬ ps_i R S p = 0 ∧ p / 2 ^ s % 2 = a)) → wY_good_17 post (nI s) (nI a) R S W X Z (d + 1) (nI i) := by
  intro d
  induction d with
  | zero =>
    intro i hi hl
    have e : i = 16 := by omega
    subst e
    rw [ps_nm0 hl] at hp
    exact br_t (nI_le (a := 16) (by omega) (by omega)) hp
  | succ d ih =>
    intro i hi hl
    have hi16 : i < 16 := by omega
    have eb := ps_bits i hi16 s hs
    have hm := Nat.mod_lt (i / 2 ^ s) (show 2 > 0 by decide)
    refine br_f (nI_ge (b := 16) hi16 (by decide)) ?_
    rw [eb]
    by_cases e : i / 2 ^ s % 2 = a
    · refine br_t (congrArg nI e) (ps_ynb W h hX hi16 ?_)
      by_cases g : ps_i R S i = 0
      · exact br_t g (nm_r (nI_1 i) (ih (i + 1) (by omega) (lt_s hl (fun z => z.1 g))))
      · rw [ps_nm1 i hi16 g e] at hp
        exact br_f g hp
    · exact br_f (fun z => e ((nI_eq (by omega) (by omega)).mp z)) (nm_r (nI_1 i) (ih (i + 1) (by omega) (lt_s hl (fun z => e z.2))))
theorem ps_ygd {post : Int32 → SY → Prop} {R S : Nat → Int32} (W X Z : Nat → Int64) (h : ps_st R S) {s a : Nat} (hs : s < 4) (ha : a < 2) (hJ : ∀ W' X' Z', post (ps_nm (ps_i R S) s a) (R, S, W', X', Z')) : wpY_good post (R, S, W, X, Z) (nI s) (nI a) := by
  unfold wpY_good
  dsimp only
  exact ps_yic R S W X Z hs ha (br_f (by decide) (ps_ysol W X Z h (fun W' X' Z' hX => ⟨17, ps_yg17 W' h hX hs ha (hJ W' X' Z') 16 0 rfl lt_0⟩)))
