/-! what is owed -/
def i_Rel (k : Nat) (u : SX) (v : SY) : Prop := ∃ (R S E T B M : Nat → Int32) (W X Z : Nat → Int64), u = (R, S, E, T, B, M) ∧ v = (R, S, W, X, Z) ∧ ps_st R S ∧ ps_sol R S 64 T B ∧ ∀ p, p < 16 → M p = ps_i R S p
theorem i_up {k : Nat} {u : SX} {v : SY} (h : i_Rel k u v) : i_Rel (k + 4) u v := h
theorem i_vc0 : wpX_init (fun u => wpY_init (fun v => i_Rel 0 u v)) :=
  ⟨5, ps_xi54 (fun _ => 0) (fun _ => 0) (fun _ => 0) (fun _ => 0) ps_st0 (fun E T B M hT hM => ⟨9, ps_yi46 (fun _ => 0) (fun _ => 0) (fun _ => 0) (fun _ => 0) ⟨_, _, _, _, _, _, _, _, _, rfl, rfl, ps_st0, hT, hM⟩ 8 0 rfl⟩) 4 0 rfl⟩
theorem i_vc_reward {k : Nat} {u : SX} {v : SY} (I : i_Rel k u v) (hk : k + 4 ≤ 2048) (v1 : Int32) (v2 : Int32) (v3 : Int32) : wpX_reward (fun r u' => wpY_reward (fun r' v' => r' = r ∧ i_Rel (k + 4) u' v') v v1 v2 v3) u v1 v2 v3 := by
  obtain ⟨R, S, E, T, B, M, W, X, Z, rfl, rfl, hst, hT, hM⟩ := I
  by_cases c : ((v1 < 0 ∨ nI 4 ≤ v1) ∨ (v2 < 0 ∨ nI 2 ≤ v2)) ∨ (v3 < -20 ∨ ¬ v3 ≤ 20)
  · exact ps_xrw0 R S E T B M c (ps_yrw0 R S W X Z c ⟨rfl, R, S, E, T, B, M, W, X, Z, rfl, rfl, hst, hT, hM⟩)
  · obtain ⟨s, hs, rfl⟩ := ps_rng (n := 4) (by decide) (fun q => c (Or.inl (Or.inl q)))
    obtain ⟨a, ha, rfl⟩ := ps_rng (n := 2) (by decide) (fun q => c (Or.inl (Or.inr q)))
    have h1 : ¬ v3 < -20 := fun q => c (Or.inr (Or.inl q))
    have h2 : v3 ≤ 20 := Classical.byContradiction fun q => c (Or.inr (Or.inr q))
    have hx : -20 ≤ v3.toInt ∧ v3.toInt ≤ 20 := by
      have g1 := h1
      have g2 := h2
      rw [Int32.lt_iff_toInt_lt, show (-20 : Int32).toInt = -20 by decide] at g1
      rw [Int32.le_iff_toInt_le, show (20 : Int32).toInt = 20 by decide] at g2
      omega
    have hst' := ps_stR hst (2 * s + a) hx
    exact ps_xrw E T B M hst' hs ha h1 h2 (fun E' T' B' M' hT' hM' => ps_yrw R S W X Z hs ha h1 h2 ⟨rfl, _, _, _, _, _, _, _, _, _, rfl, rfl, hst', hT', hM'⟩)
theorem i_vc_shares {k : Nat} {u : SX} {v : SY} (I : i_Rel k u v) (hk : k + 4 ≤ 2048) (v1 : Int32) (v2 : Int32) (v3 : Int32) : wpX_shares (fun r u' => wpY_shares (fun r' v' => r' = r ∧ i_Rel (k + 4) u' v') v v1 v2 v3) u v1 v2 v3 := by
  obtain ⟨R, S, E, T, B, M, W, X, Z, rfl, rfl, hst, hT, hM⟩ := I
  by_cases c : ((v1 < 0 ∨ nI 4 ≤ v1) ∨ (v2 < 0 ∨ nI 2 ≤ v2)) ∨ ((v3 < 0 ∨ nI 625 ≤ v3) ∨ ∃ c, c < 625 ∧ v3 = nI c ∧ ¬ ps_sum c = 4)
  · exact ps_xsh0 R S E T B M c (ps_ysh0 R S W X Z c ⟨rfl, R, S, E, T, B, M, W, X, Z, rfl, rfl, hst, hT, hM⟩)
  · obtain ⟨s, hs, rfl⟩ := ps_rng (n := 4) (by decide) (fun q => c (Or.inl (Or.inl q)))
    obtain ⟨a, ha, rfl⟩ := ps_rng (n := 2) (by decide) (fun q => c (Or.inl (Or.inr q)))
    obtain ⟨d, hd, rfl⟩ := ps_rng (n := 625) (by decide) (fun q => c (Or.inr (Or.inl q)))
    have h4 : ps_sum d = 4 := Classical.byContradiction fun q => c (Or.inr (Or.inr ⟨d, hd, rfl, q⟩))
    have hst' : ps_st R (ps_w S (4 * (2 * s + a)) d) := ps_stW hst hd h4
    exact ps_xsh E T B M hst' hs ha hd h4 (fun E' T' B' M' hT' hM' => ps_ysh R S W X Z hs ha hd h4 ⟨rfl, _, _, _, _, _, _, _, _, _, rfl, rfl, hst', hT', hM'⟩)
theorem i_vc_valueTop {k : Nat} {u : SX} {v : SY} (I : i_Rel k u v) (hk : k + 4 ≤ 2048) (v1 : Int32) (v2 : Int32) : wpX_valueTop (fun r => wpY_valueTop (fun r' v' => r' = r ∧ i_Rel (k + 4) u v') v v1 v2) u v1 v2 := by
  obtain ⟨R, S, E, T, B, M, W, X, Z, rfl, rfl, hst, hT, hM⟩ := I
  by_cases c : (v1 < 0 ∨ nI 16 ≤ v1) ∨ (v2 < 0 ∨ nI 4 ≤ v2)
  · exact ps_xvt0 R S E T B M c (ps_yvt0 R S W X Z c ⟨rfl, R, S, E, T, B, M, W, X, Z, rfl, rfl, hst, hT, hM⟩)
  · obtain ⟨p, hp, rfl⟩ := ps_rng (n := 16) (by decide) (fun q => c (Or.inl q))
    obtain ⟨s, hs, rfl⟩ := ps_rng (n := 4) (by decide) (fun q => c (Or.inr q))
    exact ps_xvt E M hT hp hs (ps_yvt W X Z hst hp hs (fun W' X' Z' => ⟨rfl, R, S, E, T, B, M, W', X', Z', rfl, rfl, hst, hT, hM⟩))
theorem i_vc_valueBottom {k : Nat} {u : SX} {v : SY} (I : i_Rel k u v) (hk : k + 4 ≤ 2048) (v1 : Int32) (v2 : Int32) : wpX_valueBottom (fun r => wpY_valueBottom (fun r' v' => r' = r ∧ i_Rel (k + 4) u v') v v1 v2) u v1 v2 := by
  obtain ⟨R, S, E, T, B, M, W, X, Z, rfl, rfl, hst, hT, hM⟩ := I
  by_cases c : (v1 < 0 ∨ nI 16 ≤ v1) ∨ (v2 < 0 ∨ nI 4 ≤ v2)
  · exact ps_xvb0 R S E T B M c (ps_yvb0 R S W X Z c ⟨rfl, R, S, E, T, B, M, W, X, Z, rfl, rfl, hst, hT, hM⟩)
  · obtain ⟨p, hp, rfl⟩ := ps_rng (n := 16) (by decide) (fun q => c (Or.inl q))
    obtain ⟨s, hs, rfl⟩ := ps_rng (n := 4) (by decide) (fun q => c (Or.inr q))
    exact ps_xvb E M hT hp hs (ps_yvb W X Z hst hp hs (fun W' X' Z' => ⟨rfl, R, S, E, T, B, M, W', X', Z', rfl, rfl, hst, hT, hM⟩))
theorem i_vc_bestTop {k : Nat} {u : SX} {v : SY} (I : i_Rel k u v) (hk : k + 4 ≤ 2048) (v1 : Int32) : wpX_bestTop (fun r => wpY_bestTop (fun r' v' => r' = r ∧ i_Rel (k + 4) u v') v v1) u v1 := by
  obtain ⟨R, S, E, T, B, M, W, X, Z, rfl, rfl, hst, hT, hM⟩ := I
  by_cases c : v1 < 0 ∨ nI 4 ≤ v1
  · exact ps_xbt0 R S E T B M c (ps_ybt0 R S W X Z c ⟨rfl, R, S, E, T, B, M, W, X, Z, rfl, rfl, hst, hT, hM⟩)
  · obtain ⟨s, hs, rfl⟩ := ps_rng (n := 4) (by decide) c
    exact ps_xbt E hT hM hs (ps_ybt W X Z hst hs (fun W' X' Z' => ⟨rfl, R, S, E, T, B, M, W', X', Z', rfl, rfl, hst, hT, hM⟩))
theorem i_vc_bestBottom {k : Nat} {u : SX} {v : SY} (I : i_Rel k u v) (hk : k + 4 ≤ 2048) (v1 : Int32) : wpX_bestBottom (fun r => wpY_bestBottom (fun r' v' => r' = r ∧ i_Rel (k + 4) u v') v v1) u v1 := by
  obtain ⟨R, S, E, T, B, M, W, X, Z, rfl, rfl, hst, hT, hM⟩ := I
  by_cases c : v1 < 0 ∨ nI 4 ≤ v1
  · exact ps_xbb0 R S E T B M c (ps_ybb0 R S W X Z c ⟨rfl, R, S, E, T, B, M, W, X, Z, rfl, rfl, hst, hT, hM⟩)
  · obtain ⟨s, hs, rfl⟩ := ps_rng (n := 4) (by decide) c
    exact ps_xbb E hT hM hs (ps_ybb W X Z hst hs (fun W' X' Z' => ⟨rfl, R, S, E, T, B, M, W', X', Z', rfl, rfl, hst, hT, hM⟩))
theorem i_vc_policy {k : Nat} {u : SX} {v : SY} (I : i_Rel k u v) (hk : k + 4 ≤ 2048) : wpX_policy (fun r => wpY_policy (fun r' v' => r' = r ∧ i_Rel (k + 4) u v') v) u := by
  obtain ⟨R, S, E, T, B, M, W, X, Z, rfl, rfl, hst, hT, hM⟩ := I
  exact ps_xpo E T B hM (ps_ypo W X Z hst (fun W' X' Z' => ⟨rfl, R, S, E, T, B, M, W', X', Z', rfl, rfl, hst, hT, hM⟩))
theorem i_vc_policies {k : Nat} {u : SX} {v : SY} (I : i_Rel k u v) (hk : k + 4 ≤ 2048) : wpX_policies (fun r => wpY_policies (fun r' v' => r' = r ∧ i_Rel (k + 4) u v') v) u := by
  obtain ⟨R, S, E, T, B, M, W, X, Z, rfl, rfl, hst, hT, hM⟩ := I
  exact ps_xps E T B hM (ps_ypc W X Z hst (fun W' X' Z' => ⟨rfl, R, S, E, T, B, M, W', X', Z', rfl, rfl, hst, hT, hM⟩))
theorem i_vc_good {k : Nat} {u : SX} {v : SY} (I : i_Rel k u v) (hk : k + 4 ≤ 2048) (v1 : Int32) (v2 : Int32) : wpX_good (fun r => wpY_good (fun r' v' => r' = r ∧ i_Rel (k + 4) u v') v v1 v2) u v1 v2 := by
  obtain ⟨R, S, E, T, B, M, W, X, Z, rfl, rfl, hst, hT, hM⟩ := I
  by_cases c : (v1 < 0 ∨ nI 4 ≤ v1) ∨ (v2 < 0 ∨ nI 2 ≤ v2)
  · exact ps_xgo0 R S E T B M c (ps_ygo0 R S W X Z c ⟨rfl, R, S, E, T, B, M, W, X, Z, rfl, rfl, hst, hT, hM⟩)
  · obtain ⟨s, hs, rfl⟩ := ps_rng (n := 4) (by decide) (fun q => c (Or.inl q))
    obtain ⟨a, ha, rfl⟩ := ps_rng (n := 2) (by decide) (fun q => c (Or.inr q))
    exact ps_xgo E T B hM hs ha (ps_ygd W X Z hst hs ha (fun W' X' Z' => ⟨rfl, R, S, E, T, B, M, W', X', Z', rfl, rfl, hst, hT, hM⟩))
theorem i_vc_prune {k : Nat} {u : SX} {v : SY} (I : i_Rel k u v) (hk : k + 4 ≤ 2048) : wpX_prune (fun r u' => wpY_prune (fun r' v' => r' = r ∧ i_Rel (k + 4) u' v') v) u := by
  obtain ⟨R, S, E, T, B, M, W, X, Z, rfl, rfl, hst, hT, hM⟩ := I
  exact ps_xpr E T B hst hM (fun E' T' B' M' hT' hM' => ps_ypr W X Z hst (fun W' X' Z' => ⟨rfl, _, _, _, _, _, _, _, _, _, rfl, rfl, (ps_fold_st hst 8 (by decide)).1, hT', hM'⟩))
theorem i_vc_compare {k : Nat} {u : SX} {v : SY} (I : i_Rel k u v) (hk : k + 4 ≤ 2048) (v1 : Int32) (v2 : Int32) (v3 : Int32) : wpX_compare (fun r => wpY_compare (fun r' v' => r' = r ∧ i_Rel (k + 4) u v') v v1 v2 v3) u v1 v2 v3 := by
  obtain ⟨R, S, E, T, B, M, W, X, Z, rfl, rfl, hst, hT, hM⟩ := I
  by_cases c : (v1 < 0 ∨ nI 16 ≤ v1) ∨ (v2 < 0 ∨ nI 16 ≤ v2) ∨ (v3 < 0 ∨ nI 4 ≤ v3)
  · exact ps_xcm0 R S E T B M c (ps_ycm0 R S W X Z c ⟨rfl, R, S, E, T, B, M, W, X, Z, rfl, rfl, hst, hT, hM⟩)
  · obtain ⟨p, hp, rfl⟩ := ps_rng (n := 16) (by decide) (fun q => c (Or.inl q))
    obtain ⟨q, hq, rfl⟩ := ps_rng (n := 16) (by decide) (fun z => c (Or.inr (Or.inl z)))
    obtain ⟨s, hs, rfl⟩ := ps_rng (n := 4) (by decide) (fun z => c (Or.inr (Or.inr z)))
    exact ps_xcm E M hst hT hp hq hs (ps_ycm W X Z hst hp hq hs (fun W' X' Z' => ⟨rfl, R, S, E, T, B, M, W', X', Z', rfl, rfl, hst, hT, hM⟩))
