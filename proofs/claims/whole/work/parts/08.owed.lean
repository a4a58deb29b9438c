def i_Rel (k : Nat) (u : SX) (v : SY) : Prop :=
  ∃ (n L : Nat) (W V S F : Nat → Nat) (bp : Nat → Int32) (hv wo : Int32) (tk : Nat → Int32), u = (nI n, nI L, kf_a W, kf_a V, kf_a S, kf_a F, bp) ∧ v = (nI n, nI L, hv, wo, kf_a W, kf_a V, kf_a S, kf_a F, tk) ∧ kf_G n L W V S F
theorem kf_rel {k n L : Nat} {W V S F : Nat → Nat} {bp : Nat → Int32} {hv wo : Int32} {tk : Nat → Int32} (G : kf_G n L W V S F) : i_Rel k (nI n, nI L, kf_a W, kf_a V, kf_a S, kf_a F, bp) (nI n, nI L, hv, wo, kf_a W, kf_a V, kf_a S, kf_a F, tk) :=
  ⟨n, L, W, V, S, F, bp, hv, wo, tk, rfl, rfl, G⟩
theorem i_up {k : Nat} {u : SX} {v : SY} (h : i_Rel k u v) : i_Rel (k + 4) u v := h
theorem i_vc0 : wpX_init (fun u => wpY_init (fun v => i_Rel 0 u v)) :=
  ⟨0, 20, fun _ => 0, fun _ => 0, fun _ => 0, fun _ => 0, fun _ => 0, 0, 0, fun _ => 0, rfl, rfl, by decide, by decide, fun _ => Nat.zero_le 20, fun _ => Nat.zero_le 50, fun _ => Nat.zero_le 2, fun _ => Nat.zero_le 3⟩
theorem i_vc_add {k : Nat} {u : SX} {v : SY} (I : i_Rel k u v) (hk : k + 4 ≤ 2048) (v1 : Int32) (v2 : Int32) (v3 : Int32) : wpX_add (fun r u' => wpY_add (fun r' v' => r' = r ∧ i_Rel (k + 4) u' v') v v1 v2 v3) u v1 v2 v3 := by
  obtain ⟨n, L, W, V, S, F, bp, hv, wo, tk, rfl, rfl, G⟩ := I
  by_cases h1 : v1 < 1
  · exact br_t h1 (br_t h1 ⟨rfl, kf_rel G⟩)
  by_cases h2 : v1 ≤ 20
  rotate_left
  · exact br_f h1 (br_f h2 (br_f h1 (br_f h2 ⟨rfl, kf_rel G⟩)))
  by_cases h3 : v2 < 0
  · exact br_f h1 (br_t h2 (br_t h3 (br_f h1 (br_t h2 (br_t h3 ⟨rfl, kf_rel G⟩)))))
  by_cases h4 : v2 ≤ 50
  rotate_left
  · exact br_f h1 (br_t h2 (br_f h3 (br_f h4 (br_f h1 (br_t h2 (br_f h3 (br_f h4 ⟨rfl, kf_rel G⟩)))))))
  by_cases h5 : v3 < 4
  · exact br_f h1 (br_t h2 (br_f h3 (br_t h4 (br_t h5 (br_f h1 (br_t h2 (br_f h3 (br_t h4 (br_t h5 ⟨rfl, kf_rel G⟩)))))))))
  by_cases h6 : v3 ≤ 11
  rotate_left
  · exact br_f h1 (br_t h2 (br_f h3 (br_t h4 (br_f h5 (br_f h6 (br_f h1 (br_t h2 (br_f h3 (br_t h4 (br_f h5 (br_f h6 ⟨rfl, kf_rel G⟩)))))))))))
  obtain ⟨w, hw, rfl⟩ := nI_of2 (M := 20) (n := 20) (by decide) (fun z => h1 (Int32.lt_trans z (by decide))) h2
  obtain ⟨y, hy, rfl⟩ := nI_of2 (M := 50) (n := 50) (by decide) h3 h4
  obtain ⟨s, hs, rfl⟩ := nI_of2 (M := 11) (n := 11) (by decide) (fun z => h5 (Int32.lt_trans z (by decide))) h6
  have e5 : nI s - nI s / 4 * 4 = nI (s % 4) := pk_rem (d := 4) (by omega) (by decide) (by decide)
  have e4 : nI s / 4 = nI (s / 4) := pk_div (d := 4) (by omega) (by decide) (by decide)
  refine br_f h1 (br_t h2 (br_f h3 (br_t h4 (br_f h5 (br_t h6 ?_)))))
  by_cases hn : n < 7
  · refine br_t (nI_lt (b := 7) hn (by decide)) ⟨by decide, by decide, ?_⟩
    rw [e5, e4]
    refine kf_putX hn ?_
    refine br_f h1 (br_t h2 (br_f h3 (br_t h4 (br_f h5 (br_t h6 ⟨by decide, by decide, ?_⟩)))))
    rw [e5, e4]
    exact kf_putY hn ⟨(nI_pred n).symm, kf_rel (kf_Gu G (by omega) hw hy (by omega) (by omega))⟩
  · refine br_f (nI_nlt (b := 7) (by omega) (by have := G.1; omega)) ?_
    refine br_f h1 (br_t h2 (br_f h3 (br_t h4 (br_f h5 (br_t h6 ⟨by decide, by decide, ?_⟩)))))
    exact kf_putY7 G.1 hn ⟨rfl, kf_rel G⟩
theorem i_vc_sow {k : Nat} {u : SX} {v : SY} (I : i_Rel k u v) (hk : k + 4 ≤ 2048) (v1 : Int32) (v2 : Int32) : wpX_sow (fun r u' => wpY_sow (fun r' v' => r' = r ∧ i_Rel (k + 4) u' v') v v1 v2) u v1 v2 := by
  obtain ⟨n, L, W, V, S, F, bp, hv, wo, tk, rfl, rfl, G⟩ := I
  by_cases h1 : v1 < 0
  · exact br_t h1 (br_t h1 ⟨rfl, kf_rel G⟩)
  by_cases h2 : v1 ≤ 100
  rotate_left
  · exact br_f h1 (br_f h2 (br_f h1 (br_f h2 ⟨rfl, kf_rel G⟩)))
  by_cases h3 : v2 < 1
  · exact br_f h1 (br_t h2 (br_t h3 (br_f h1 (br_t h2 (br_t h3 ⟨rfl, kf_rel G⟩)))))
  by_cases h4 : v2 ≤ 7
  rotate_left
  · exact br_f h1 (br_t h2 (br_f h3 (br_f h4 (br_f h1 (br_t h2 (br_f h3 (br_f h4 ⟨rfl, kf_rel G⟩)))))))
  obtain ⟨a, ha, rfl⟩ := nI_of2 (M := 100) (n := 100) (by decide) h1 h2
  obtain ⟨m, hm, rfl⟩ := nI_of2 (M := 7) (n := 7) (by decide) (fun z => h3 (Int32.lt_trans z (by decide))) h4
  obtain ⟨n', W', V', S', F', G', hX, hY⟩ := kf_sow ha hm m 0 n W V S F (Nat.zero_add m) G
  refine br_f h1 (br_t h2 (br_f h3 (br_t h4 ⟨m + 1, hX _ bp (m + 1) (Nat.lt_succ_self m) ?_⟩)))
  exact br_f h1 (br_t h2 (br_f h3 (br_t h4 ⟨m + 1, hY _ hv wo tk (m + 1) (Nat.lt_succ_self m) ⟨rfl, kf_rel G'⟩⟩)))
theorem i_vc_drop {k : Nat} {u : SX} {v : SY} (I : i_Rel k u v) (hk : k + 4 ≤ 2048) (v1 : Int32) : wpX_drop (fun r u' => wpY_drop (fun r' v' => r' = r ∧ i_Rel (k + 4) u' v') v v1) u v1 := by
  obtain ⟨n, L, W, V, S, F, bp, hv, wo, tk, rfl, rfl, G⟩ := I
  unfold wpX_drop
  dsimp only
  have bad : (v1 < 0 ∨ nI n ≤ v1) ∨ ∃ j : Nat, j < n ∧ v1 = nI j := by
    rcases pk_ix v1 (n := n) (by have := G.1; omega) with h | h | h
    · exact Or.inl (Or.inl h)
    · exact Or.inl (Or.inr h)
    · exact Or.inr h
  rcases bad with h | ⟨j, hj, rfl⟩
  · refine kf_gX0 h (br_t rfl ?_)
    unfold wpY_drop
    dsimp only
    exact kf_gY1 h (br_f (by decide) ⟨rfl, kf_rel G⟩)
  · obtain ⟨m, rfl⟩ : ∃ m, n = m + 1 := ⟨n - 1, by omega⟩
    have hn := G.1
    obtain ⟨W', V', S', F', G', hX, hY⟩ := kf_drop (L := L) (m := m) (by omega) (m - j) j W V S F (by omega) G
    refine kf_gX1 hn hj (br_f (by decide) ⟨m - j + 1, hX _ bp _ (Nat.lt_succ_self _) ?_⟩)
    unfold wpY_drop
    dsimp only
    exact kf_gY0 hn hj (br_t rfl ⟨m - j + 1, hY _ hv wo tk _ (Nat.lt_succ_self _) ⟨rfl, kf_rel G'⟩⟩)
theorem i_vc_limit {k : Nat} {u : SX} {v : SY} (I : i_Rel k u v) (hk : k + 4 ≤ 2048) (v1 : Int32) : wpX_limit (fun r u' => wpY_limit (fun r' v' => r' = r ∧ i_Rel (k + 4) u' v') v v1) u v1 := by
  obtain ⟨n, L, W, V, S, F, bp, hv, wo, tk, rfl, rfl, G⟩ := I
  by_cases h1 : v1 < 0
  · exact br_t h1 (br_t h1 ⟨rfl, kf_rel G⟩)
  by_cases h2 : v1 ≤ 60
  rotate_left
  · exact br_f h1 (br_f h2 (br_f h1 (br_f h2 ⟨rfl, kf_rel G⟩)))
  obtain ⟨l, hl, rfl⟩ := nI_of2 (M := 60) (n := 60) (by decide) h1 h2
  exact br_f h1 (br_t h2 (br_f h1 (br_t h2 ⟨rfl, kf_rel ⟨G.1, hl, G.2.2⟩⟩)))
theorem i_vc_goods {k : Nat} {u : SX} {v : SY} (I : i_Rel k u v) (hk : k + 4 ≤ 2048) : wpX_goods (fun r => wpY_goods (fun r' => r' = r ∧ i_Rel (k + 4) u v) v) u := by
  obtain ⟨n, L, W, V, S, F, bp, hv, wo, tk, rfl, rfl, G⟩ := I
  exact ⟨rfl, kf_rel G⟩
theorem i_vc_weightOf {k : Nat} {u : SX} {v : SY} (I : i_Rel k u v) (hk : k + 4 ≤ 2048) (v1 : Int32) : wpX_weightOf (fun r => wpY_weightOf (fun r' v' => r' = r ∧ i_Rel (k + 4) u v') v v1) u v1 := by
  obtain ⟨n, L, W, V, S, F, bp, hv, wo, tk, rfl, rfl, G⟩ := I
  unfold wpX_weightOf wpY_weightOf
  dsimp only
  by_cases h0 : 0 ≤ v1
  · obtain ⟨c, hc, rfl⟩ := nI_of (Int32.not_lt.mpr h0)
    refine kf_isChoice G.1 G.2.2.2.2.1 hc (fun a1 => br_f (by decide) ?_) (fun a0 => br_t rfl ?_)
    · refine kf_sumW G.1 hc ?_
      exact kf_choice G.1 G.2.2.2.2.1 hc (fun _ tk' _ => br_f (by decide) ⟨rfl, kf_rel G⟩) (fun a => absurd a1 (kf_ft a))
    · exact kf_choice G.1 G.2.2.2.2.1 hc (fun a => absurd a (kf_ft a0)) (fun _ hv wo tk => br_t rfl ⟨rfl, kf_rel G⟩)
  · refine kf_isChoiceN h0 (br_t rfl ?_)
    exact kf_choiceN h0 (fun hv wo tk => br_t rfl ⟨rfl, kf_rel G⟩)
theorem i_vc_valueOf {k : Nat} {u : SX} {v : SY} (I : i_Rel k u v) (hk : k + 4 ≤ 2048) (v1 : Int32) : wpX_valueOf (fun r => wpY_valueOf (fun r' v' => r' = r ∧ i_Rel (k + 4) u v') v v1) u v1 := by
  obtain ⟨n, L, W, V, S, F, bp, hv, wo, tk, rfl, rfl, G⟩ := I
  unfold wpX_valueOf wpY_valueOf
  dsimp only
  by_cases h0 : 0 ≤ v1
  · obtain ⟨c, hc, rfl⟩ := nI_of (Int32.not_lt.mpr h0)
    refine kf_isChoice G.1 G.2.2.2.2.1 hc (fun a1 => br_f (by decide) ?_) (fun a0 => br_t rfl ?_)
    · refine kf_sumV G.1 hc ?_
      exact kf_choice G.1 G.2.2.2.2.1 hc (fun _ tk' _ => br_f (by decide) ⟨rfl, kf_rel G⟩) (fun a => absurd a1 (kf_ft a))
    · exact kf_choice G.1 G.2.2.2.2.1 hc (fun a => absurd a (kf_ft a0)) (fun _ hv wo tk => br_t rfl ⟨rfl, kf_rel G⟩)
  · refine kf_isChoiceN h0 (br_t rfl ?_)
    exact kf_choiceN h0 (fun hv wo tk => br_t rfl ⟨rfl, kf_rel G⟩)
theorem i_vc_best {k : Nat} {u : SX} {v : SY} (I : i_Rel k u v) (hk : k + 4 ≤ 2048) : wpX_best (fun r => wpY_best (fun r' v' => r' = r ∧ i_Rel (k + 4) u v') v) u := by
  obtain ⟨n, L, W, V, S, F, bp, hv, wo, tk, rfl, rfl, G⟩ := I
  obtain ⟨c, hc, ho, e⟩ := kf_bc_ok (W := W) (V := V) (S := S) (F := F) (L := L) G.1 false none
  unfold wpX_best wpY_best
  dsimp only
  refine kf_findX (st := false) (g := none) G.1 G.2.2.2.2.1 G.2.2.2.2.2 (fun x hx => nomatch hx) ?_
  rw [e]
  refine kf_sumV G.1 hc ?_
  refine kf_findY (st := false) (g := none) G.1 G.2.2.2.2.1 G.2.2.2.2.2 (fun x hx => nomatch hx) (fun hv wo tk => ?_)
  rw [e]
  exact kf_valY G.1 G.2.2.2.2.1 hc ho (fun hv wo tk => ⟨rfl, kf_rel G⟩)
theorem i_vc_bestStrict {k : Nat} {u : SX} {v : SY} (I : i_Rel k u v) (hk : k + 4 ≤ 2048) : wpX_bestStrict (fun r => wpY_bestStrict (fun r' v' => r' = r ∧ i_Rel (k + 4) u v') v) u := by
  obtain ⟨n, L, W, V, S, F, bp, hv, wo, tk, rfl, rfl, G⟩ := I
  obtain ⟨c, hc, ho, e⟩ := kf_bc_ok (W := W) (V := V) (S := S) (F := F) (L := L) G.1 true none
  unfold wpX_bestStrict wpY_bestStrict
  dsimp only
  refine kf_findX (st := true) (g := none) G.1 G.2.2.2.2.1 G.2.2.2.2.2 (fun x hx => nomatch hx) ?_
  rw [e]
  refine kf_sumV G.1 hc ?_
  refine kf_findY (st := true) (g := none) G.1 G.2.2.2.2.1 G.2.2.2.2.2 (fun x hx => nomatch hx) (fun hv wo tk => ?_)
  rw [e]
  exact kf_valY G.1 G.2.2.2.2.1 hc ho (fun hv wo tk => ⟨rfl, kf_rel G⟩)
theorem i_vc_bestCode {k : Nat} {u : SX} {v : SY} (I : i_Rel k u v) (hk : k + 4 ≤ 2048) : wpX_bestCode (fun r => wpY_bestCode (fun r' v' => r' = r ∧ i_Rel (k + 4) u v') v) u := by
  obtain ⟨n, L, W, V, S, F, bp, hv, wo, tk, rfl, rfl, G⟩ := I
  unfold wpX_bestCode wpY_bestCode
  dsimp only
  refine kf_findX (st := false) (g := none) G.1 G.2.2.2.2.1 G.2.2.2.2.2 (fun x hx => nomatch hx) ?_
  exact kf_findY (st := false) (g := none) G.1 G.2.2.2.2.1 G.2.2.2.2.2 (fun x hx => nomatch hx) (fun hv wo tk => ⟨rfl, kf_rel G⟩)
theorem i_vc_bestStrictCode {k : Nat} {u : SX} {v : SY} (I : i_Rel k u v) (hk : k + 4 ≤ 2048) : wpX_bestStrictCode (fun r => wpY_bestStrictCode (fun r' v' => r' = r ∧ i_Rel (k + 4) u v') v) u := by
  obtain ⟨n, L, W, V, S, F, bp, hv, wo, tk, rfl, rfl, G⟩ := I
  unfold wpX_bestStrictCode wpY_bestStrictCode
  dsimp only
  refine kf_findX (st := true) (g := none) G.1 G.2.2.2.2.1 G.2.2.2.2.2 (fun x hx => nomatch hx) ?_
  exact kf_findY (st := true) (g := none) G.1 G.2.2.2.2.1 G.2.2.2.2.2 (fun x hx => nomatch hx) (fun hv wo tk => ⟨rfl, kf_rel G⟩)
theorem i_vc_fitting {k : Nat} {u : SX} {v : SY} (I : i_Rel k u v) (hk : k + 4 ≤ 2048) : wpX_fitting (fun r => wpY_fitting (fun r' v' => r' = r ∧ i_Rel (k + 4) u v') v) u := by
  obtain ⟨n, L, W, V, S, F, bp, hv, wo, tk, rfl, rfl, G⟩ := I
  exact kf_fitX G.1 G.2.2.2.2.1 (kf_fitY G.1 G.2.2.2.2.1 (fun hv wo tk => ⟨rfl, kf_rel G⟩))
theorem i_vc_weighing {k : Nat} {u : SX} {v : SY} (I : i_Rel k u v) (hk : k + 4 ≤ 2048) (v1 : Int32) : wpX_weighing (fun r => wpY_weighing (fun r' v' => r' = r ∧ i_Rel (k + 4) u v') v v1) u v1 := by
  obtain ⟨n, L, W, V, S, F, bp, hv, wo, tk, rfl, rfl, G⟩ := I
  by_cases h1 : v1 < 0
  · exact br_t h1 (br_t h1 ⟨rfl, kf_rel G⟩)
  by_cases h2 : v1 ≤ 300
  rotate_left
  · exact br_f h1 (br_f h2 (br_f h1 (br_f h2 ⟨rfl, kf_rel G⟩)))
  refine br_f h1 (br_t h2 ?_)
  refine kf_cwX G.1 G.2.2.2.2.1 ?_
  refine br_f h1 (br_t h2 ?_)
  exact kf_cwY G.1 G.2.2.2.2.1 (fun hv wo tk => ⟨rfl, kf_rel G⟩)
theorem i_vc_fullest {k : Nat} {u : SX} {v : SY} (I : i_Rel k u v) (hk : k + 4 ≤ 2048) : wpX_fullest (fun r => wpY_fullest (fun r' v' => r' = r ∧ i_Rel (k + 4) u v') v) u := by
  obtain ⟨n, L, W, V, S, F, bp, hv, wo, tk, rfl, rfl, G⟩ := I
  exact kf_fuX G.1 G.2.2.2.2.1 (kf_fuY G.1 G.2.2.2.2.1 (fun hv wo tk => ⟨rfl, kf_rel G⟩))
theorem i_vc_lightest {k : Nat} {u : SX} {v : SY} (I : i_Rel k u v) (hk : k + 4 ≤ 2048) (v1 : Int32) : wpX_lightest (fun r => wpY_lightest (fun r' v' => r' = r ∧ i_Rel (k + 4) u v') v v1) u v1 := by
  obtain ⟨n, L, W, V, S, F, bp, hv, wo, tk, rfl, rfl, G⟩ := I
  exact kf_liX G.1 G.2.2.2.2.1 (kf_liY G.1 G.2.2.2.2.1 (fun hv wo tk => ⟨rfl, kf_rel G⟩))
theorem i_vc_two {k : Nat} {u : SX} {v : SY} (I : i_Rel k u v) (hk : k + 4 ≤ 2048) (v1 : Int32) : wpX_two (fun r u' => wpY_two (fun r' => r' = r ∧ i_Rel (k + 4) u' v) v v1) u v1 := by
  obtain ⟨n, L, W, V, S, F, bp, hv, wo, tk, rfl, rfl, G⟩ := I
  by_cases h1 : v1 < 0
  · exact br_t h1 (br_t h1 ⟨rfl, kf_rel G⟩)
  by_cases h2 : v1 ≤ 60
  rotate_left
  · exact br_f h1 (br_f h2 (br_f h1 (br_f h2 ⟨rfl, kf_rel G⟩)))
  obtain ⟨o, ho, rfl⟩ := nI_of2 (M := 60) (n := 60) (by decide) h1 h2
  obtain ⟨hn, hL, hW, hV, hS, hF⟩ := G
  exact kf_twoX hn hL hW hV hS ho (fun bp => kf_twoY hn hL hW hV hS ho ⟨rfl, kf_rel ⟨hn, hL, hW, hV, hS, hF⟩⟩)
theorem i_vc_without {k : Nat} {u : SX} {v : SY} (I : i_Rel k u v) (hk : k + 4 ≤ 2048) (v1 : Int32) : wpX_without (fun r => wpY_without (fun r' v' => r' = r ∧ i_Rel (k + 4) u v') v v1) u v1 := by
  obtain ⟨n, L, W, V, S, F, bp, hv, wo, tk, rfl, rfl, G⟩ := I
  unfold wpX_without wpY_without
  dsimp only
  have bad : (v1 < 0 ∨ nI n ≤ v1) ∨ ∃ j : Nat, j < n ∧ v1 = nI j := by
    rcases pk_ix v1 (n := n) (by have := G.1; omega) with h | h | h
    · exact Or.inl (Or.inl h)
    · exact Or.inl (Or.inr h)
    · exact Or.inr h
  rcases bad with h | ⟨j, hj, rfl⟩
  · exact kf_gX0 h (br_t rfl (kf_gY1 h (br_f (by decide) ⟨rfl, kf_rel G⟩)))
  · have hg : ∀ x, some j = some x → x < n := fun x hx => by cases hx; exact hj
    obtain ⟨c, hc, ho, e⟩ := kf_bc_ok (W := W) (V := V) (S := S) (F := F) (L := L) G.1 false (some j)
    refine kf_gX1 G.1 hj (br_f (by decide) ?_)
    refine kf_findX (st := false) (g := some j) G.1 G.2.2.2.2.1 G.2.2.2.2.2 hg ?_
    rw [e]
    refine kf_sumV G.1 hc ?_
    refine kf_gY0 G.1 hj (br_t rfl ?_)
    refine kf_findY (st := false) (g := some j) G.1 G.2.2.2.2.1 G.2.2.2.2.2 hg (fun hv wo tk => ?_)
    rw [e]
    exact kf_valY G.1 G.2.2.2.2.1 hc ho (fun hv wo tk => ⟨rfl, kf_rel G⟩)
theorem i_vc_halves {k : Nat} {u : SX} {v : SY} (I : i_Rel k u v) (hk : k + 4 ≤ 2048) : wpX_halves (fun r => wpY_halves (fun r' v' => r' = r ∧ i_Rel (k + 4) u v') v) u := by
  obtain ⟨n, L, W, V, S, F, bp, hv, wo, tk, rfl, rfl, G⟩ := I
  exact kf_haX G.1 G.2.2.1 G.2.2.2.2.1 (kf_haY G.1 G.2.2.1 G.2.2.2.2.1 (fun hv wo tk => ⟨rfl, kf_rel G⟩))
