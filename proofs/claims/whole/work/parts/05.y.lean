section
variable {n L : Nat} {W V S F : Nat → Nat} {hv wo : Int32} {tk : Nat → Int32}
theorem kf_yc {post : Int32 → SY → Prop} (hS : ∀ i, S i ≤ 2) : ∀ m c h w tk k, m ≤ 7 → c < 2 ^ 31 → m < k →
    (kf_oc S m c = true → ∀ tk' : Nat → Int32, (∀ i, i < m → tk' i = nI (kf_dg m c i)) → (∀ i, m ≤ i → tk' i = tk i) → post 1 (nI n, nI L, nI (h + kf_sd W m c), nI (w + kf_sd V m c), kf_a W, kf_a V, kf_a S, kf_a F, tk')) →
    (kf_oc S m c = false → ∀ hv wo tk, post 0 (nI n, nI L, hv, wo, kf_a W, kf_a V, kf_a S, kf_a F, tk)) →
    wY_choice_25 post (nI n) (nI L) k (nI c) (nI m - 1) (nI h) (nI w) (kf_a W) (kf_a V) (kf_a S) (kf_a F) tk := by
  intro m
  induction m with
  | zero =>
    intro c h w tk k _ hc hk h1 h0
    cases k with
    | zero => omega
    | succ k =>
      exact br_t kf_lo (ek_if (d := c = 0) (nI_eq (b := 0) hc (by decide)) (fun e => h1 (by simp [kf_oc, e]) tk (fun i hi => absurd hi (Nat.not_lt_zero i)) (fun _ _ => rfl)) (fun e => h0 (by simp [kf_oc, e]) _ _ _))
  | succ m ih =>
    intro c h w tk k hm hc hk h1 h0
    cases k with
    | zero => omega
    | succ k =>
      rw [nI_pred]
      have hs := hS m
      have hin : vp_in (nI m) 7 := vp_in_nI (by omega) (by omega)
      refine br_f (nI_pos (by omega)) (br_f (nI_ge (b := 7) (by omega) (by decide)) ⟨by decide, nm_r (kf_e3 hc) ⟨hin, ek_if (d := c % 3 ≤ S m) ?_ (fun e => ⟨hin, nm_e ⟨hin, nm_r (e' := nI (h + c % 3 * W m)) ?_ ⟨hin, nm_r (e' := nI (w + c % 3 * V m)) ?_ ⟨by decide, nm_r (kf_d3 hc) (nm_r (kf_m1 _) (ih (c / 3) (h + c % 3 * W m) (w + c % 3 * V m) _ k (by omega) (by omega) (by omega) (fun o tk' t1 t2 => ?_) (fun o => h0 ?_)))⟩⟩⟩⟩) (fun e => h0 ?_ _ _ _)⟩⟩)
      · rw [kf_at S (by omega)]; exact nI_leI (by omega) (by omega)
      · rw [kf_at W (by omega), pk_mul, nI_add]
      · rw [kf_at V (by omega), pk_mul, nI_add]
      · have o' : kf_oc S (m + 1) c = true := by simp [kf_oc, e, o]
        have r := h1 o' tk' (fun i hi => ?_) (fun i hi => ?_)
        · rw [Nat.add_assoc, Nat.add_assoc]; exact r
        · by_cases him : i = m
          · rw [him, t2 m (Nat.le_refl m), kf_dg_m, nI_clamp (by omega), pk_us]
          · rw [kf_dg_lt (by omega)]; exact t1 i (by omega)
        · rw [t2 i (by omega), nI_clamp (by omega), pk_un (by omega)]
      · simp [kf_oc, o]
      · simp [kf_oc, e]
theorem kf_choice {post : Int32 → SY → Prop} (hn : n ≤ 7) (hS : ∀ i, S i ≤ 2) {c : Nat} (hc : c < 2 ^ 31)
    (h1 : kf_oc S n c = true → ∀ tk' : Nat → Int32, (∀ i, i < n → tk' i = nI (kf_dg n c i)) → post 1 (nI n, nI L, nI (kf_sd W n c), nI (kf_sd V n c), kf_a W, kf_a V, kf_a S, kf_a F, tk'))
    (h0 : kf_oc S n c = false → ∀ hv wo tk, post 0 (nI n, nI L, hv, wo, kf_a W, kf_a V, kf_a S, kf_a F, tk)) : wpY_choice post (nI n, nI L, hv, wo, kf_a W, kf_a V, kf_a S, kf_a F, tk) (nI c) := by
  refine br_t (nI_pos' hc) (nm_e ⟨n + 1, kf_yc hS n c 0 0 tk (n + 1) hn hc (by omega) (fun o tk' t _ => ?_) h0⟩)
  rw [Nat.zero_add, Nat.zero_add]
  exact h1 o tk' t
theorem kf_choiceN {post : Int32 → SY → Prop} {x : Int32} (h : ¬ 0 ≤ x) (h0 : ∀ hv wo tk, post 0 (nI n, nI L, hv, wo, kf_a W, kf_a V, kf_a S, kf_a F, tk)) : wpY_choice post (nI n, nI L, hv, wo, kf_a W, kf_a V, kf_a S, kf_a F, tk) x := br_f h (h0 _ _ _)
theorem kf_ye {post : Int32 → Prop} (hn : n ≤ 7) (h : post (nI (3 ^ n))) : ∀ d i k, i + d = n → d < k → wY_end_4 post (nI n) (nI L) hv wo (kf_a W) (kf_a V) (kf_a S) (kf_a F) tk k (nI (3 ^ i)) (nI i) := by
  intro d
  induction d with
  | zero =>
    intro i k hi hk
    cases k with
    | zero => omega
    | succ k =>
      have hi : i = n := by omega
      rw [hi]
      exact br_t (nI_le (Nat.le_refl _) (by omega)) h
  | succ d ih =>
    intro i k hi hk
    cases k with
    | zero => omega
    | succ k =>
      refine br_f (nI_ge (by omega) (by omega)) (nm_r (e' := nI (3 ^ (i + 1))) ?_ (nm_r (nI_1 i) (ih (i + 1) k (by omega) (by omega))))
      rw [Nat.pow_succ, Nat.mul_comm]; exact pk_mul 3 (3 ^ i)
theorem kf_endY {post : Int32 → Prop} (hn : n ≤ 7) (h : post (nI (3 ^ n))) : wpY_end post (nI n, nI L, hv, wo, kf_a W, kf_a V, kf_a S, kf_a F, tk) :=
  ⟨n + 1, kf_ye hn h n 0 (n + 1) (by omega) (by omega)⟩
theorem kf_ys1 {post : Int32 → Prop} {J : Int32 → Prop} {D : Nat → Nat} (hD : ∀ i, i < n → tk i = nI (D i)) (hD2 : ∀ i, D i ≤ 2) (hF : ∀ i, F i ≤ 3) {i : Nat} (hi : i < n) (hn : n ≤ 7) : ∀ d j k, j + d = i → d < k →
    (∀ b, j ≤ b → b < i → 0 < D i → 0 < D b → F i = F b → post 0) →
    ((∀ b, j ≤ b → b < i → 0 < D i → 0 < D b → F i = F b → False) → J (nI (i + 1))) →
    wY_strict_18 post J (nI i) (nI n) (nI L) hv wo (kf_a W) (kf_a V) (kf_a S) (kf_a F) tk k (nI j) := by
  have ti : tk (nI i).toNatClampNeg = nI (D i) := by rw [nI_clamp (by omega)]; exact hD i hi
  have hDi := hD2 i
  have hFi := hF i
  intro d
  induction d with
  | zero =>
    intro j k hj hk _ hok
    cases k with
    | zero => omega
    | succ k => exact br_t (nI_le (by omega) (by omega)) (nm_r (nI_1 i) (hok (fun b h1 h2 => by omega)))
  | succ d ih =>
    intro j k hj hk hbad hok
    cases k with
    | zero => omega
    | succ k =>
      have tj : tk (nI j).toNatClampNeg = nI (D j) := by rw [nI_clamp (by omega)]; exact hD j (by omega)
      have hDj := hD2 j
      have hFj := hF j
      have hin : vp_in (nI i) 7 := vp_in_nI (by omega) (by omega)
      have hjn : vp_in (nI j) 7 := vp_in_nI (by omega) (by omega)
      have go : (0 < D i → 0 < D j → F i = F j → False) → wY_strict_18 post J (nI i) (nI n) (nI L) hv wo (kf_a W) (kf_a V) (kf_a S) (kf_a F) tk k (nI (j + 1)) := by
        intro no
        refine ih (j + 1) k (by omega) (by omega) (fun b hb => hbad b (by omega)) (fun z => hok (fun b hb hbi d1 d2 f => ?_))
        by_cases hbj : b = j
        · subst hbj; exact no d1 d2 f
        · exact z b (by omega) hbi d1 d2 f
      refine br_f (nI_ge (by omega) (by omega)) ⟨hin, ek_if (d := D i ≤ 0) ?_ (fun a => nm_r (nI_1 j) (go (fun d1 => by omega))) (fun a => ⟨hjn, ek_if (d := D j ≤ 0) ?_ (fun b => nm_r (nI_1 j) (go (fun _ d2 => by omega))) (fun b => ⟨hin, hjn, ek_if (d := F i = F j) ?_ (fun f => hbad j (Nat.le_refl j) (by omega) (by omega) (by omega) f) (fun f => nm_r (nI_1 j) (go (fun _ _ e => f e)))⟩)⟩)⟩
      · rw [ti]; exact nI_leI (b := 0) (by omega) (by decide)
      · rw [tj]; exact nI_leI (b := 0) (by omega) (by decide)
      · rw [kf_at F (by omega), kf_at F (by omega)]; exact nI_eq (by omega) (by omega)
theorem kf_ys2 {post : Int32 → Prop} {D : Nat → Nat} (hD : ∀ i, i < n → tk i = nI (D i)) (hD2 : ∀ i, D i ≤ 2) (hF : ∀ i, F i ≤ 3) (hn : n ≤ 7) : ∀ d i k, i + d = n → d < k →
    (∀ a b, b < a → i ≤ a → a < n → 0 < D a → 0 < D b → F a = F b → post 0) →
    ((∀ a b, b < a → i ≤ a → a < n → 0 < D a → 0 < D b → F a = F b → False) → post 1) →
    wY_strict_2 post (nI n) (nI L) hv wo (kf_a W) (kf_a V) (kf_a S) (kf_a F) tk k (nI i) := by
  intro d
  induction d with
  | zero =>
    intro i k hi hk _ hok
    cases k with
    | zero => omega
    | succ k => exact br_t (nI_le (by omega) (by omega)) (hok (fun a b _ h1 h2 => by omega))
  | succ d ih =>
    intro i k hi hk hbad hok
    cases k with
    | zero => omega
    | succ k =>
      refine br_f (nI_ge (by omega) (by omega)) (br_f (nI_ge (b := 7) (by omega) (by decide)) ⟨i + 1, ?_⟩)
      refine kf_ys1 hD hD2 hF (by omega) hn i 0 (i + 1) (by omega) (by omega) (fun b _ hb => hbad i b hb (Nat.le_refl i) (by omega)) (fun z => ?_)
      refine ih (i + 1) k (by omega) (by omega) (fun a b hb ha => hbad a b hb (by omega)) (fun z2 => hok (fun a b hb ha han d1 d2 f => ?_))
      by_cases hai : a = i
      · subst hai; exact z b (Nat.zero_le b) hb d1 d2 f
      · exact z2 a b hb (by omega) han d1 d2 f
theorem kf_dg_le : ∀ m c i, kf_dg m c i ≤ 2 := by
  intro m
  induction m with
  | zero => intro c i; exact Nat.zero_le 2
  | succ m ih =>
    intro c i
    unfold kf_dg
    split
    · omega
    · exact ih _ _
theorem kf_strictY {post : Int32 → Prop} (hn : n ≤ 7) (hF : ∀ i, F i ≤ 3) {c : Nat} (hD : ∀ i, i < n → tk i = nI (kf_dg n c i)) (h1 : kf_ms F n c 0 = true → post 1) (h0 : kf_ms F n c 0 = false → post 0) : wpY_strict post (nI n, nI L, hv, wo, kf_a W, kf_a V, kf_a S, kf_a F, tk) := by
  refine ⟨n + 1, kf_ys2 (D := kf_dg n c) hD (kf_dg_le n c) hF hn n 0 (n + 1) (by omega) (by omega) (fun a b hb _ han d1 d2 f => h0 ?_) (fun z => h1 ?_)⟩
  · have : ¬ kf_ms F n c 0 = true := fun t => (kf_ms_st F n c).mp t a b hb han d1 d2 f
    simpa using this
  · exact (kf_ms_st F n c).mpr (fun a b hb han d1 d2 f => z a b hb (Nat.zero_le a) han d1 d2 f)
theorem kf_yfit {post : Int32 → SY → Prop} (hn : n ≤ 7) (hS : ∀ i, S i ≤ 2) {e : Nat} (he : e ≤ 2187) : ∀ d c r hv wo tk k, c + d = e → d < k → (∀ hv wo tk, post (kf_run (kf_gf W S n L) d c r) (nI n, nI L, hv, wo, kf_a W, kf_a V, kf_a S, kf_a F, tk)) → wY_fitting_9 post (nI e) k r (nI c) (nI n) (nI L) hv wo (kf_a W) (kf_a V) (kf_a S) (kf_a F) tk := by
  intro d
  induction d with
  | zero =>
    intro c r hv wo tk k hc hk h
    cases k with
    | zero => omega
    | succ k => exact br_t (nI_le (by omega) (by omega)) (h hv wo tk)
  | succ d ih =>
    intro c r hv wo tk k hc hk h
    cases k with
    | zero => omega
    | succ k =>
      have h : ∀ hv wo tk, post (kf_run (kf_gf W S n L) d (c + 1) (kf_gf W S n L c r)) (nI n, nI L, hv, wo, kf_a W, kf_a V, kf_a S, kf_a F, tk) := h
      refine br_f (nI_ge (by omega) (by omega)) ?_
      refine kf_choice hn hS (by omega) (fun h1 tk' _ => br_f (by decide) (br_c (fun hl => nm_r (nI_1 c) (ih _ _ _ _ _ _ (by omega) (by omega) ?_)) (fun hl => nm_e (nm_r (nI_1 c) (ih _ _ _ _ _ _ (by omega) (by omega) ?_))))) (fun h0 hv wo tk => br_t rfl (nm_r (nI_1 c) (ih _ _ _ _ _ _ (by omega) (by omega) ?_)))
      · rwa [show kf_gf W S n L c r = r from if_neg (fun z => z.2 hl)] at h
      · rwa [show kf_gf W S n L c r = r + 1 from if_pos ⟨h1, hl⟩] at h
      · rwa [show kf_gf W S n L c r = r from if_neg (fun z => kf_ft h0 z.1)] at h
theorem kf_fitY {post : Int32 → SY → Prop} (hn : n ≤ 7) (hS : ∀ i, S i ≤ 2) (h : ∀ hv wo tk, post (kf_run (kf_gf W S n L) (3 ^ n) 0 0) (nI n, nI L, hv, wo, kf_a W, kf_a V, kf_a S, kf_a F, tk)) : wpY_fitting post (nI n, nI L, hv, wo, kf_a W, kf_a V, kf_a S, kf_a F, tk) := by
  unfold wpY_fitting
  dsimp only
  refine kf_endY hn ?_
  exact ⟨3 ^ n + 1, kf_yfit hn hS (kf_p3 hn) (3 ^ n) 0 0 _ _ _ _ (Nat.zero_add _) (Nat.lt_succ_self _) h⟩
theorem kf_ycw {post : Int32 → SY → Prop} (hn : n ≤ 7) (hS : ∀ i, S i ≤ 2) {x : Int32} {e : Nat} (he : e ≤ 2187) : ∀ d c r hv wo tk k, c + d = e → d < k → (∀ hv wo tk, post (kf_run (kf_gw W S n x) d c r) (nI n, nI L, hv, wo, kf_a W, kf_a V, kf_a S, kf_a F, tk)) → wY_having_10 post x (nI e) k r (nI c) (nI n) (nI L) hv wo (kf_a W) (kf_a V) (kf_a S) (kf_a F) tk := by
  intro d
  induction d with
  | zero =>
    intro c r hv wo tk k hc hk h
    cases k with
    | zero => omega
    | succ k => exact br_t (nI_le (by omega) (by omega)) (h hv wo tk)
  | succ d ih =>
    intro c r hv wo tk k hc hk h
    cases k with
    | zero => omega
    | succ k =>
      have h : ∀ hv wo tk, post (kf_run (kf_gw W S n x) d (c + 1) (kf_gw W S n x c r)) (nI n, nI L, hv, wo, kf_a W, kf_a V, kf_a S, kf_a F, tk) := h
      refine br_f (nI_ge (by omega) (by omega)) ?_
      refine kf_choice hn hS (by omega) (fun h1 tk' _ => br_f (by decide) (br_c (fun hl => nm_e (nm_r (nI_1 c) (ih _ _ _ _ _ _ (by omega) (by omega) ?_))) (fun hl => nm_r (nI_1 c) (ih _ _ _ _ _ _ (by omega) (by omega) ?_)))) (fun h0 hv wo tk => br_t rfl (nm_r (nI_1 c) (ih _ _ _ _ _ _ (by omega) (by omega) ?_)))
      · rwa [show kf_gw W S n x c r = r + 1 from if_pos ⟨h1, hl⟩] at h
      · rwa [show kf_gw W S n x c r = r from if_neg (fun z => hl z.2)] at h
      · rwa [show kf_gw W S n x c r = r from if_neg (fun z => kf_ft h0 z.1)] at h
theorem kf_cwY {post : Int32 → SY → Prop} (hn : n ≤ 7) (hS : ∀ i, S i ≤ 2) {x : Int32} (h : ∀ hv wo tk, post (kf_run (kf_gw W S n x) (3 ^ n) 0 0) (nI n, nI L, hv, wo, kf_a W, kf_a V, kf_a S, kf_a F, tk)) : wpY_having post (nI n, nI L, hv, wo, kf_a W, kf_a V, kf_a S, kf_a F, tk) x := by
  unfold wpY_having
  dsimp only
  refine kf_endY hn ?_
  exact ⟨3 ^ n + 1, kf_ycw hn hS (kf_p3 hn) (3 ^ n) 0 0 _ _ _ _ (Nat.zero_add _) (Nat.lt_succ_self _) h⟩
theorem kf_yfu {post : Int32 → SY → Prop} (hn : n ≤ 7) (hS : ∀ i, S i ≤ 2) {e : Nat} (he : e ≤ 2187) : ∀ d c r hv wo tk k, c + d = e → d < k → (∀ hv wo tk, post (kf_run (kf_gu W S n L) d c r) (nI n, nI L, hv, wo, kf_a W, kf_a V, kf_a S, kf_a F, tk)) → wY_fullest_9 post (nI e) k r (nI c) (nI n) (nI L) hv wo (kf_a W) (kf_a V) (kf_a S) (kf_a F) tk := by
  intro d
  induction d with
  | zero =>
    intro c r hv wo tk k hc hk h
    cases k with
    | zero => omega
    | succ k => exact br_t (nI_le (by omega) (by omega)) (h hv wo tk)
  | succ d ih =>
    intro c r hv wo tk k hc hk h
    cases k with
    | zero => omega
    | succ k =>
      have h : ∀ hv wo tk, post (kf_run (kf_gu W S n L) d (c + 1) (kf_gu W S n L c r)) (nI n, nI L, hv, wo, kf_a W, kf_a V, kf_a S, kf_a F, tk) := h
      refine br_f (nI_ge (by omega) (by omega)) ?_
      refine kf_choice hn hS (by omega) (fun h1 tk' _ => br_f (by decide) (br_c (fun hl => nm_r (nI_1 c) (ih _ _ _ _ _ _ (by omega) (by omega) ?_)) (fun hl => br_c (fun hm => nm_r (nI_1 c) (ih _ _ _ _ _ _ (by omega) (by omega) ?_)) (fun hm => nm_r (nI_1 c) (ih _ _ _ _ _ _ (by omega) (by omega) ?_))))) (fun h0 hv wo tk => br_t rfl (nm_r (nI_1 c) (ih _ _ _ _ _ _ (by omega) (by omega) ?_)))
      · rwa [show kf_gu W S n L c r = r from if_neg (fun z => z.2.1 hl)] at h
      · rwa [show kf_gu W S n L c r = r from if_neg (fun z => z.2.2 hm)] at h
      · rwa [show kf_gu W S n L c r = nI (kf_sd W n c) from if_pos ⟨h1, hl, hm⟩] at h
      · rwa [show kf_gu W S n L c r = r from if_neg (fun z => kf_ft h0 z.1)] at h
theorem kf_fuY {post : Int32 → SY → Prop} (hn : n ≤ 7) (hS : ∀ i, S i ≤ 2) (h : ∀ hv wo tk, post (kf_run (kf_gu W S n L) (3 ^ n) 0 0) (nI n, nI L, hv, wo, kf_a W, kf_a V, kf_a S, kf_a F, tk)) : wpY_fullest post (nI n, nI L, hv, wo, kf_a W, kf_a V, kf_a S, kf_a F, tk) := by
  unfold wpY_fullest
  dsimp only
  refine kf_endY hn ?_
  exact ⟨3 ^ n + 1, kf_yfu hn hS (kf_p3 hn) (3 ^ n) 0 0 _ _ _ _ (Nat.zero_add _) (Nat.lt_succ_self _) h⟩
theorem kf_yli {post : Int32 → SY → Prop} (hn : n ≤ 7) (hS : ∀ i, S i ≤ 2) {x : Int32} {e : Nat} (he : e ≤ 2187) : ∀ d c r hv wo tk k, c + d = e → d < k → (∀ hv wo tk, post (kf_run (kf_gl W V S n x) d c r) (nI n, nI L, hv, wo, kf_a W, kf_a V, kf_a S, kf_a F, tk)) → wY_lightest_10 post x (nI e) k r (nI c) (nI n) (nI L) hv wo (kf_a W) (kf_a V) (kf_a S) (kf_a F) tk := by
  intro d
  induction d with
  | zero =>
    intro c r hv wo tk k hc hk h
    cases k with
    | zero => omega
    | succ k => exact br_t (nI_le (by omega) (by omega)) (h hv wo tk)
  | succ d ih =>
    intro c r hv wo tk k hc hk h
    cases k with
    | zero => omega
    | succ k =>
      have h : ∀ hv wo tk, post (kf_run (kf_gl W V S n x) d (c + 1) (kf_gl W V S n x c r)) (nI n, nI L, hv, wo, kf_a W, kf_a V, kf_a S, kf_a F, tk) := h
      refine br_f (nI_ge (by omega) (by omega)) ?_
      refine kf_choice hn hS (by omega) (fun h1 tk' _ => br_f (by decide) (br_c (fun hl => nm_r (nI_1 c) (ih _ _ _ _ _ _ (by omega) (by omega) ?_)) (fun hl => br_c (fun hm => nm_r (nI_1 c) (ih _ _ _ _ _ _ (by omega) (by omega) ?_)) (fun hm => br_c (fun hq => nm_r (nI_1 c) (ih _ _ _ _ _ _ (by omega) (by omega) ?_)) (fun hq => nm_r (nI_1 c) (ih _ _ _ _ _ _ (by omega) (by omega) ?_)))))) (fun h0 hv wo tk => br_t rfl (nm_r (nI_1 c) (ih _ _ _ _ _ _ (by omega) (by omega) ?_)))
      · rwa [show kf_gl W V S n x c r = r from if_neg (fun z => z.2.1 hl)] at h
      · rwa [show kf_gl W V S n x c r = nI (kf_sd W n c) from if_pos ⟨h1, hl, Or.inl hm⟩] at h
      · rwa [show kf_gl W V S n x c r = r from if_neg (fun z => z.2.2.elim hm (fun y => y hq))] at h
      · rwa [show kf_gl W V S n x c r = nI (kf_sd W n c) from if_pos ⟨h1, hl, Or.inr hq⟩] at h
      · rwa [show kf_gl W V S n x c r = r from if_neg (fun z => kf_ft h0 z.1)] at h
theorem kf_liY {post : Int32 → SY → Prop} (hn : n ≤ 7) (hS : ∀ i, S i ≤ 2) {x : Int32} (h : ∀ hv wo tk, post (kf_run (kf_gl W V S n x) (3 ^ n) 0 (-1)) (nI n, nI L, hv, wo, kf_a W, kf_a V, kf_a S, kf_a F, tk)) : wpY_lightest post (nI n, nI L, hv, wo, kf_a W, kf_a V, kf_a S, kf_a F, tk) x := by
  unfold wpY_lightest
  dsimp only
  refine kf_endY hn ?_
  exact ⟨3 ^ n + 1, kf_yli hn hS (kf_p3 hn) (3 ^ n) 0 (-1) _ _ _ _ (Nat.zero_add _) (Nat.lt_succ_self _) h⟩
theorem kf_y79 {post : Int32 → SY → Prop} {J : Int32 → Int32 → Int32 → Int32 → Int32 → Int32 → Int32 → Int32 → (Nat → Int32) → (Nat → Int32) → (Nat → Int32) → (Nat → Int32) → (Nat → Int32) → Prop} {x1 x2 x3 x4 x5 x6 : Int32} {c : Nat} (hy : (x5 < wo ∨ (wo = x5 ∧ ¬ x6 ≤ hv)) → J (nI c) wo hv (nI (c + 1)) (nI n) (nI L) hv wo (kf_a W) (kf_a V) (kf_a S) (kf_a F) tk) (hz : ¬ (x5 < wo ∨ (wo = x5 ∧ ¬ x6 ≤ hv)) → J x4 x5 x6 (nI (c + 1)) (nI n) (nI L) hv wo (kf_a W) (kf_a V) (kf_a S) (kf_a F) tk) : wY_search_79 post J x1 x2 x3 x4 x5 x6 (nI c) (nI n) (nI L) hv wo (kf_a W) (kf_a V) (kf_a S) (kf_a F) tk :=
  br_c (fun q => nm_r (nI_1 c) (hy (Or.inl q))) (fun q => br_c (fun q2 => br_c (fun q3 => nm_r (nI_1 c) (hz (fun b => b.elim q (fun y => y.2 q3)))) (fun q3 => nm_r (nI_1 c) (hy (Or.inr ⟨q2, q3⟩)))) (fun q2 => nm_r (nI_1 c) (hz (fun b => b.elim q (fun y => q2 y.1)))))
theorem kf_ysr {post : Int32 → SY → Prop} (hn : n ≤ 7) (hS : ∀ i, S i ≤ 2) (hF : ∀ i, F i ≤ 3) {st : Bool} {g : Option Nat} (hg : ∀ x, g = some x → x < n) {e : Nat} (he : e ≤ 2187) : ∀ d c s hv wo tk k, c + d = e → d < k → (∀ hv wo tk, post (kf_run (kf_gb W V n L (kf_al S F n st g)) d c s).1 (nI n, nI L, hv, wo, kf_a W, kf_a V, kf_a S, kf_a F, tk)) → wY_search_17 post (kf_b st) (kf_br g) (nI e) k s.1 s.2.1 s.2.2 (nI c) (nI n) (nI L) hv wo (kf_a W) (kf_a V) (kf_a S) (kf_a F) tk := by
  intro d
  induction d with
  | zero =>
    intro c s hv wo tk k hc hk h
    cases k with
    | zero => omega
    | succ k => exact br_t (nI_le (by omega) (by omega)) (h hv wo tk)
  | succ d ih =>
    intro c s hv wo tk k hc hk h
    cases k with
    | zero => omega
    | succ k =>
      have h : ∀ hv wo tk, post (kf_run (kf_gb W V n L (kf_al S F n st g)) d (c + 1) (kf_gb W V n L (kf_al S F n st g) c s)).1 (nI n, nI L, hv, wo, kf_a W, kf_a V, kf_a S, kf_a F, tk) := h
      have hz : ¬ (kf_al S F n st g c = true ∧ ¬ nI L < nI (kf_sd W n c) ∧ (s.2.1 < nI (kf_sd V n c) ∨ (nI (kf_sd V n c) = s.2.1 ∧ ¬ s.2.2 ≤ nI (kf_sd W n c)))) → ∀ hv wo tk, wY_search_17 post (kf_b st) (kf_br g) (nI e) k s.1 s.2.1 s.2.2 (nI (c + 1)) (nI n) (nI L) hv wo (kf_a W) (kf_a V) (kf_a S) (kf_a F) tk := by
        intro a hv wo tk
        refine ih (c + 1) s hv wo tk k (by omega) (by omega) ?_
        rwa [show kf_gb W V n L (kf_al S F n st g) c s = s from if_neg a] at h
      have hy : (kf_al S F n st g c = true ∧ ¬ nI L < nI (kf_sd W n c) ∧ (s.2.1 < nI (kf_sd V n c) ∨ (nI (kf_sd V n c) = s.2.1 ∧ ¬ s.2.2 ≤ nI (kf_sd W n c)))) → ∀ hv wo tk, wY_search_17 post (kf_b st) (kf_br g) (nI e) k (nI c) (nI (kf_sd V n c)) (nI (kf_sd W n c)) (nI (c + 1)) (nI n) (nI L) hv wo (kf_a W) (kf_a V) (kf_a S) (kf_a F) tk := by
        intro a hv wo tk
        refine ih (c + 1) (nI c, nI (kf_sd V n c), nI (kf_sd W n c)) hv wo tk k (by omega) (by omega) ?_
        rwa [show kf_gb W V n L (kf_al S F n st g) c s = (nI c, nI (kf_sd V n c), nI (kf_sd W n c)) from if_pos a] at h
      refine br_f (nI_ge (by omega) (by omega)) ?_
      refine kf_choice hn hS (by omega) (fun h1 tk' ht => br_f (by decide) (br_c (fun hl => ?_) (fun hl => ?_))) (fun h0 hv wo tk => br_t rfl ?_)
      · exact br_t rfl (nm_r (nI_1 c) (hz (fun z => z.2.1 hl) _ _ _))
      · have tail : (!st || kf_ms F n c 0) = true → wY_search_54 post (wY_search_17 post (kf_b st) (kf_br g) (nI e) k) (kf_b st) (kf_br g) (nI e) s.1 s.2.1 s.2.2 (nI c) (nI n) (nI L) (nI (kf_sd W n c)) (nI (kf_sd V n c)) (kf_a W) (kf_a V) (kf_a S) (kf_a F) tk' := by
          intro a2
          refine br_f (by decide) ?_
          cases g with
          | none =>
            have al : kf_al S F n st none c = true := by unfold kf_al; rw [h1, a2]; rfl
            exact br_t (by decide) (kf_y79 (fun b => hy ⟨al, hl, b⟩ _ _ _) (fun b => hz (fun z => b z.2.2) _ _ _))
          | some x =>
            have hx := hg x rfl
            refine br_f (nI_pos (by omega)) ⟨vp_in_nI (by omega) (by omega), ek_if (d := kf_dg n c x = 0) ?_ (fun t => ?_) (fun t => ?_)⟩
            · rw [show kf_br (some x) = nI x from rfl, nI_clamp (by omega), ht x hx]
              exact nI_eq (b := 0) (by have := kf_dg_le n c x; omega) (by decide)
            · have al : kf_al S F n st (some x) c = true := by unfold kf_al; rw [h1, a2]; simp [t]
              exact kf_y79 (fun b => hy ⟨al, hl, b⟩ _ _ _) (fun b => hz (fun z => b z.2.2) _ _ _)
            · have al : kf_al S F n st (some x) c = false := by unfold kf_al; rw [h1, a2]; simp [t]
              exact nm_r (nI_1 c) (hz (fun z => kf_ft al z.1) _ _ _)
        cases st with
        | false => exact br_t rfl (tail rfl)
        | true =>
          refine br_f (by decide) ?_
          refine kf_strictY hn hF ht (fun b1 => br_f (by decide) (tail ?_)) (fun b0 => br_t rfl ?_)
          · rw [b1]; rfl
          · have al : kf_al S F n true g c = false := by unfold kf_al; rw [h1, b0]; rfl
            exact br_t rfl (nm_r (nI_1 c) (hz (fun z => kf_ft al z.1) _ _ _))
      · exact br_t rfl (nm_r (nI_1 c) (hz (fun z => kf_ft h0 (kf_al_oc z.1)) _ _ _))
theorem kf_findY {post : Int32 → SY → Prop} (hn : n ≤ 7) (hS : ∀ i, S i ≤ 2) (hF : ∀ i, F i ≤ 3) {st : Bool} {g : Option Nat} (hg : ∀ x, g = some x → x < n) (h : ∀ hv wo tk, post (kf_bc W V S F n L st g) (nI n, nI L, hv, wo, kf_a W, kf_a V, kf_a S, kf_a F, tk)) : wpY_search post (nI n, nI L, hv, wo, kf_a W, kf_a V, kf_a S, kf_a F, tk) (kf_b st) (kf_br g) := by
  unfold wpY_search
  dsimp only
  refine kf_endY hn ?_
  exact ⟨3 ^ n + 1, kf_ysr hn hS hF hg (kf_p3 hn) (3 ^ n) 0 (0, 0, 0) _ _ _ _ (Nat.zero_add _) (Nat.lt_succ_self _) h⟩
theorem kf_valY {post : Int32 → SY → Prop} (hn : n ≤ 7) (hS : ∀ i, S i ≤ 2) {c : Nat} (hc : c < 2 ^ 31) (ho : kf_oc S n c = true) (h : ∀ hv wo tk, post (nI (kf_sd V n c)) (nI n, nI L, hv, wo, kf_a W, kf_a V, kf_a S, kf_a F, tk)) : wpY_valueAt post (nI n, nI L, hv, wo, kf_a W, kf_a V, kf_a S, kf_a F, tk) (nI c) := by
  unfold wpY_valueAt
  dsimp only
  exact kf_choice hn hS hc (fun _ tk' _ => br_f (by decide) (h _ _ _)) (fun o => absurd ho (kf_ft o))
theorem kf_yha {post : Int32 → SY → Prop} (hn : n ≤ 7) (hW : ∀ i, W i ≤ 20) (hS : ∀ i, S i ≤ 2) (h : ∀ hv wo tk, post (kf_hv W S n) (nI n, nI L, hv, wo, kf_a W, kf_a V, kf_a S, kf_a F, tk)) : ∀ d i k, i + d = n → d < k → wY_halves_4 post (nI n) (nI L) hv wo (kf_a W) (kf_a V) (kf_a S) (kf_a F) tk k (nI (kf_wh W S i)) (nI i) := by
  intro d
  induction d with
  | zero =>
    intro i k hi hk
    cases k with
    | zero => omega
    | succ k =>
      have hi : i = n := by omega
      rw [hi]
      have hb := kf_wh_le hW hS n
      refine br_t (nI_le (Nat.le_refl _) (by omega)) ⟨by decide, ek_if (d := kf_wh W S n % 2 = 0) ?_ (fun e => ⟨by decide, ?_⟩) (fun e => ?_)⟩
      · rw [show nI (kf_wh W S n) - nI (kf_wh W S n) / 2 * 2 = nI (kf_wh W S n % 2) from pk_rem (d := 2) (by omega) (by decide) (by decide)]
        exact nI_eq (b := 0) (by omega) (by decide)
      · rw [show nI (kf_wh W S n) / 2 = nI (kf_wh W S n / 2) from pk_div (d := 2) (by omega) (by decide) (by decide)]
        refine kf_cwY hn hS (fun hv wo tk => ?_)
        refine br_c (fun q => ?_) (fun q => ?_)
        · rw [show kf_hv W S n = 0 from if_neg (fun z => z.2 q)] at h; exact h _ _ _
        · rw [show kf_hv W S n = 1 from if_pos ⟨e, q⟩] at h; exact h _ _ _
      · rw [show kf_hv W S n = 0 from if_neg (fun z => e z.1)] at h; exact h _ _ _
  | succ d ih =>
    intro i k hi hk
    cases k with
    | zero => omega
    | succ k =>
      refine br_f (nI_ge (by omega) (by omega)) (br_f (nI_ge (b := 7) (by omega) (by decide)) ⟨vp_in_nI (by omega) (by omega), vp_in_nI (by omega) (by omega), nm_r (e' := nI (kf_wh W S (i + 1))) ?_ (nm_r (nI_1 i) (ih (i + 1) k (by omega) (by omega)))⟩)
      rw [kf_at W (by omega), kf_at S (by omega), pk_mul, nI_add, Nat.mul_comm]
      rfl
theorem kf_haY {post : Int32 → SY → Prop} (hn : n ≤ 7) (hW : ∀ i, W i ≤ 20) (hS : ∀ i, S i ≤ 2) (h : ∀ hv wo tk, post (kf_hv W S n) (nI n, nI L, hv, wo, kf_a W, kf_a V, kf_a S, kf_a F, tk)) : wpY_halves post (nI n, nI L, hv, wo, kf_a W, kf_a V, kf_a S, kf_a F, tk) :=
  ⟨n + 1, kf_yha hn hW hS h n 0 (n + 1) (by omega) (by omega)⟩
end
