section
variable {n L : Nat} {W V S F : Nat → Nat} {bp : Nat → Int32}
def kf_run {σ : Type} (g : Nat → σ → σ) : Nat → Nat → σ → σ
  | 0, _, s => s
  | d + 1, c, s => kf_run g d (c + 1) (g c s)
theorem kf_run_inv {σ : Type} {g : Nat → σ → σ} {P : σ → Prop} {e : Nat} (hs : ∀ c t, c < e → P t → P (g c t)) : ∀ d c s, c + d ≤ e → P s → P (kf_run g d c s) := by
  intro d
  induction d with
  | zero => intro c s _ h; exact h
  | succ d ih => intro c s hc h; exact ih (c + 1) (g c s) (by omega) (hs c s (by omega) h)
def kf_gf (W S : Nat → Nat) (n L : Nat) (c : Nat) (r : Int32) : Int32 := if kf_oc S n c = true ∧ ¬ nI L < nI (kf_sd W n c) then r + 1 else r
def kf_gw (W S : Nat → Nat) (n : Nat) (x : Int32) (c : Nat) (r : Int32) : Int32 := if kf_oc S n c = true ∧ nI (kf_sd W n c) = x then r + 1 else r
def kf_gu (W S : Nat → Nat) (n L : Nat) (c : Nat) (r : Int32) : Int32 := if kf_oc S n c = true ∧ ¬ nI L < nI (kf_sd W n c) ∧ ¬ nI (kf_sd W n c) ≤ r then nI (kf_sd W n c) else r
def kf_gl (W V S : Nat → Nat) (n : Nat) (x : Int32) (c : Nat) (r : Int32) : Int32 := if kf_oc S n c = true ∧ ¬ nI (kf_sd V n c) < x ∧ (r < 0 ∨ ¬ r ≤ nI (kf_sd W n c)) then nI (kf_sd W n c) else r
def kf_gb (W V : Nat → Nat) (n L : Nat) (al : Nat → Bool) (c : Nat) (s : Int32 × Int32 × Int32) : Int32 × Int32 × Int32 :=
  if al c = true ∧ ¬ nI L < nI (kf_sd W n c) ∧ (s.2.1 < nI (kf_sd V n c) ∨ (nI (kf_sd V n c) = s.2.1 ∧ ¬ s.2.2 ≤ nI (kf_sd W n c))) then (nI c, nI (kf_sd V n c), nI (kf_sd W n c)) else s
theorem kf_xfit {post : Int32 → Prop} (hn : n ≤ 7) (hS : ∀ i, S i ≤ 2) {e : Nat} (he : e ≤ 2187) : ∀ d c r k, c + d = e → d < k → post (kf_run (kf_gf W S n L) d c r) → wX_fitting_9 post (nI e) (nI n) (nI L) (kf_a W) (kf_a V) (kf_a S) (kf_a F) bp k r (nI c) := by
  intro d
  induction d with
  | zero =>
    intro c r k hc hk h
    cases k with
    | zero => omega
    | succ k => exact br_t (nI_le (by omega) (by omega)) h
  | succ d ih =>
    intro c r k hc hk h
    cases k with
    | zero => omega
    | succ k =>
      have h : post (kf_run (kf_gf W S n L) d (c + 1) (kf_gf W S n L c r)) := h
      refine br_f (nI_ge (by omega) (by omega)) ?_
      refine kf_isChoice hn hS (by omega) (fun h1 => br_f (by decide) ?_) (fun h0 => br_t rfl (nm_r (nI_1 c) (ih _ _ _ (by omega) (by omega) ?_)))
      · refine kf_sumW hn (by omega) ?_
        refine br_c (fun hl => nm_r (nI_1 c) (ih _ _ _ (by omega) (by omega) ?_)) (fun hl => nm_e (nm_r (nI_1 c) (ih _ _ _ (by omega) (by omega) ?_)))
        · rwa [show kf_gf W S n L c r = r from if_neg (fun z => z.2 hl)] at h
        · rwa [show kf_gf W S n L c r = r + 1 from if_pos ⟨h1, hl⟩] at h
      · rwa [show kf_gf W S n L c r = r from if_neg (fun z => kf_ft h0 z.1)] at h
theorem kf_fitX {post : Int32 → Prop} (hn : n ≤ 7) (hS : ∀ i, S i ≤ 2) (h : post (kf_run (kf_gf W S n L) (3 ^ n) 0 0)) : wpX_fitting post (nI n, nI L, kf_a W, kf_a V, kf_a S, kf_a F, bp) := by
  unfold wpX_fitting
  dsimp only
  refine kf_endX hn ?_
  exact ⟨3 ^ n + 1, kf_xfit hn hS (kf_p3 hn) (3 ^ n) 0 0 _ (Nat.zero_add _) (Nat.lt_succ_self _) h⟩
theorem kf_xcw {post : Int32 → Prop} (hn : n ≤ 7) (hS : ∀ i, S i ≤ 2) {x : Int32} {e : Nat} (he : e ≤ 2187) : ∀ d c r k, c + d = e → d < k → post (kf_run (kf_gw W S n x) d c r) → wX_countWeighing_10 post x (nI e) (nI n) (nI L) (kf_a W) (kf_a V) (kf_a S) (kf_a F) bp k r (nI c) := by
  intro d
  induction d with
  | zero =>
    intro c r k hc hk h
    cases k with
    | zero => omega
    | succ k => exact br_t (nI_le (by omega) (by omega)) h
  | succ d ih =>
    intro c r k hc hk h
    cases k with
    | zero => omega
    | succ k =>
      have h : post (kf_run (kf_gw W S n x) d (c + 1) (kf_gw W S n x c r)) := h
      refine br_f (nI_ge (by omega) (by omega)) ?_
      refine kf_isChoice hn hS (by omega) (fun h1 => br_f (by decide) ?_) (fun h0 => br_t rfl (nm_r (nI_1 c) (ih _ _ _ (by omega) (by omega) ?_)))
      · refine kf_sumW hn (by omega) ?_
        refine br_c (fun hl => nm_e (nm_r (nI_1 c) (ih _ _ _ (by omega) (by omega) ?_))) (fun hl => nm_r (nI_1 c) (ih _ _ _ (by omega) (by omega) ?_))
        · rwa [show kf_gw W S n x c r = r + 1 from if_pos ⟨h1, hl⟩] at h
        · rwa [show kf_gw W S n x c r = r from if_neg (fun z => hl z.2)] at h
      · rwa [show kf_gw W S n x c r = r from if_neg (fun z => kf_ft h0 z.1)] at h
theorem kf_cwX {post : Int32 → Prop} (hn : n ≤ 7) (hS : ∀ i, S i ≤ 2) {x : Int32} (h : post (kf_run (kf_gw W S n x) (3 ^ n) 0 0)) : wpX_countWeighing post (nI n, nI L, kf_a W, kf_a V, kf_a S, kf_a F, bp) x := by
  unfold wpX_countWeighing
  dsimp only
  refine kf_endX hn ?_
  exact ⟨3 ^ n + 1, kf_xcw hn hS (kf_p3 hn) (3 ^ n) 0 0 _ (Nat.zero_add _) (Nat.lt_succ_self _) h⟩
theorem kf_xfu {post : Int32 → Prop} (hn : n ≤ 7) (hS : ∀ i, S i ≤ 2) {e : Nat} (he : e ≤ 2187) : ∀ d c r k, c + d = e → d < k → post (kf_run (kf_gu W S n L) d c r) → wX_fullest_9 post (nI e) (nI n) (nI L) (kf_a W) (kf_a V) (kf_a S) (kf_a F) bp k r (nI c) := by
  intro d
  induction d with
  | zero =>
    intro c r k hc hk h
    cases k with
    | zero => omega
    | succ k => exact br_t (nI_le (by omega) (by omega)) h
  | succ d ih =>
    intro c r k hc hk h
    cases k with
    | zero => omega
    | succ k =>
      have h : post (kf_run (kf_gu W S n L) d (c + 1) (kf_gu W S n L c r)) := h
      refine br_f (nI_ge (by omega) (by omega)) ?_
      refine kf_isChoice hn hS (by omega) (fun h1 => br_f (by decide) ?_) (fun h0 => br_t rfl (nm_r (nI_1 c) (ih _ _ _ (by omega) (by omega) ?_)))
      · refine kf_sumW hn (by omega) ?_
        refine br_c (fun hl => nm_r (nI_1 c) (ih _ _ _ (by omega) (by omega) ?_)) (fun hl => br_c (fun hm => nm_r (nI_1 c) (ih _ _ _ (by omega) (by omega) ?_)) (fun hm => nm_r (nI_1 c) (ih _ _ _ (by omega) (by omega) ?_)))
        · rwa [show kf_gu W S n L c r = r from if_neg (fun z => z.2.1 hl)] at h
        · rwa [show kf_gu W S n L c r = r from if_neg (fun z => z.2.2 hm)] at h
        · rwa [show kf_gu W S n L c r = nI (kf_sd W n c) from if_pos ⟨h1, hl, hm⟩] at h
      · rwa [show kf_gu W S n L c r = r from if_neg (fun z => kf_ft h0 z.1)] at h
theorem kf_fuX {post : Int32 → Prop} (hn : n ≤ 7) (hS : ∀ i, S i ≤ 2) (h : post (kf_run (kf_gu W S n L) (3 ^ n) 0 0)) : wpX_fullest post (nI n, nI L, kf_a W, kf_a V, kf_a S, kf_a F, bp) := by
  unfold wpX_fullest
  dsimp only
  refine kf_endX hn ?_
  exact ⟨3 ^ n + 1, kf_xfu hn hS (kf_p3 hn) (3 ^ n) 0 0 _ (Nat.zero_add _) (Nat.lt_succ_self _) h⟩
theorem kf_xli {post : Int32 → Prop} (hn : n ≤ 7) (hS : ∀ i, S i ≤ 2) {x : Int32} {e : Nat} (he : e ≤ 2187) : ∀ d c r k, c + d = e → d < k → post (kf_run (kf_gl W V S n x) d c r) → wX_lightest_10 post x (nI e) (nI n) (nI L) (kf_a W) (kf_a V) (kf_a S) (kf_a F) bp k r (nI c) := by
  intro d
  induction d with
  | zero =>
    intro c r k hc hk h
    cases k with
    | zero => omega
    | succ k => exact br_t (nI_le (by omega) (by omega)) h
  | succ d ih =>
    intro c r k hc hk h
    cases k with
    | zero => omega
    | succ k =>
      have h : post (kf_run (kf_gl W V S n x) d (c + 1) (kf_gl W V S n x c r)) := h
      refine br_f (nI_ge (by omega) (by omega)) ?_
      refine kf_isChoice hn hS (by omega) (fun h1 => br_f (by decide) ?_) (fun h0 => br_t rfl (nm_r (nI_1 c) (ih _ _ _ (by omega) (by omega) ?_)))
      · refine kf_sumV hn (by omega) ?_
        refine br_c (fun hl => nm_r (nI_1 c) (ih _ _ _ (by omega) (by omega) ?_)) (fun hl => ?_)
        · rwa [show kf_gl W V S n x c r = r from if_neg (fun z => z.2.1 hl)] at h
        · refine kf_sumW hn (by omega) ?_
          refine br_c (fun hm => nm_r (nI_1 c) (ih _ _ _ (by omega) (by omega) ?_)) (fun hm => br_c (fun hq => nm_r (nI_1 c) (ih _ _ _ (by omega) (by omega) ?_)) (fun hq => nm_r (nI_1 c) (ih _ _ _ (by omega) (by omega) ?_)))
          · rwa [show kf_gl W V S n x c r = nI (kf_sd W n c) from if_pos ⟨h1, hl, Or.inl hm⟩] at h
          · rwa [show kf_gl W V S n x c r = r from if_neg (fun z => z.2.2.elim hm (fun y => y hq))] at h
          · rwa [show kf_gl W V S n x c r = nI (kf_sd W n c) from if_pos ⟨h1, hl, Or.inr hq⟩] at h
      · rwa [show kf_gl W V S n x c r = r from if_neg (fun z => kf_ft h0 z.1)] at h
theorem kf_liX {post : Int32 → Prop} (hn : n ≤ 7) (hS : ∀ i, S i ≤ 2) {x : Int32} (h : post (kf_run (kf_gl W V S n x) (3 ^ n) 0 (-1))) : wpX_lightest post (nI n, nI L, kf_a W, kf_a V, kf_a S, kf_a F, bp) x := by
  unfold wpX_lightest
  dsimp only
  refine kf_endX hn ?_
  exact ⟨3 ^ n + 1, kf_xli hn hS (kf_p3 hn) (3 ^ n) 0 (-1) _ (Nat.zero_add _) (Nat.lt_succ_self _) h⟩
theorem kf_x85 {post : Int32 → Prop} {J : Int32 → Int32 → Int32 → Int32 → Prop} {x1 x2 x3 x4 x5 x6 x8 x9 z0 : Int32} {c : Nat} (hno : (nI L < x9 ∨ z0 = 0) → J x3 x4 x5 (nI (c + 1))) (hyes : ¬ nI L < x9 → ¬ z0 = 0 → J (nI c) x8 x9 (nI (c + 1))) : wX_findBest_85 post J x1 x2 x3 x4 x5 x6 (nI c) x8 x9 z0 (nI n) (nI L) (kf_a W) (kf_a V) (kf_a S) (kf_a F) bp :=
  br_c (fun h => nm_r (nI_1 c) (hno (Or.inl h))) (fun h => br_c (fun z => nm_r (nI_1 c) (hno (Or.inr z))) (fun z => nm_r (nI_1 c) (hyes h z)))
theorem kf_xfb {post : Int32 → Prop} (hn : n ≤ 7) (hS : ∀ i, S i ≤ 2) (hF : ∀ i, F i ≤ 3) {st : Bool} {g : Option Nat} (hg : ∀ x, g = some x → x < n) {e : Nat} (he : e ≤ 2187) : ∀ d c s k, c + d = e → d < k → post (kf_run (kf_gb W V n L (kf_al S F n st g)) d c s).1 → wX_findBest_17 post (kf_b st) (kf_br g) (nI e) (nI n) (nI L) (kf_a W) (kf_a V) (kf_a S) (kf_a F) bp k s.1 s.2.1 s.2.2 (nI c) := by
  intro d
  induction d with
  | zero =>
    intro c s k hc hk h
    cases k with
    | zero => omega
    | succ k => exact br_t (nI_le (by omega) (by omega)) h
  | succ d ih =>
    intro c s k hc hk h
    cases k with
    | zero => omega
    | succ k =>
      have h : post (kf_run (kf_gb W V n L (kf_al S F n st g)) d (c + 1) (kf_gb W V n L (kf_al S F n st g) c s)).1 := h
      refine br_f (nI_ge (by omega) (by omega)) ?_
      refine kf_isAllowed hn hS hF (by omega) hg (fun h1 => br_f (by decide) ?_) (fun h0 => br_t rfl (nm_r (nI_1 c) (ih (c + 1) s k (by omega) (by omega) ?_)))
      · have hy : ¬ nI L < nI (kf_sd W n c) → (s.2.1 < nI (kf_sd V n c) ∨ (nI (kf_sd V n c) = s.2.1 ∧ ¬ s.2.2 ≤ nI (kf_sd W n c))) → wX_findBest_17 post (kf_b st) (kf_br g) (nI e) (nI n) (nI L) (kf_a W) (kf_a V) (kf_a S) (kf_a F) bp k (nI c) (nI (kf_sd V n c)) (nI (kf_sd W n c)) (nI (c + 1)) := by
          intro a b
          refine ih (c + 1) (nI c, nI (kf_sd V n c), nI (kf_sd W n c)) k (by omega) (by omega) ?_
          rwa [show kf_gb W V n L (kf_al S F n st g) c s = (nI c, nI (kf_sd V n c), nI (kf_sd W n c)) from if_pos ⟨h1, a, b⟩] at h
        have hz : (nI L < nI (kf_sd W n c) ∨ ¬ (s.2.1 < nI (kf_sd V n c) ∨ (nI (kf_sd V n c) = s.2.1 ∧ ¬ s.2.2 ≤ nI (kf_sd W n c)))) → wX_findBest_17 post (kf_b st) (kf_br g) (nI e) (nI n) (nI L) (kf_a W) (kf_a V) (kf_a S) (kf_a F) bp k s.1 s.2.1 s.2.2 (nI (c + 1)) := by
          intro a
          refine ih (c + 1) s k (by omega) (by omega) ?_
          rwa [show kf_gb W V n L (kf_al S F n st g) c s = s from if_neg (fun z => a.elim z.2.1 (fun y => y z.2.2))] at h
        refine kf_sumV hn (by omega) ?_
        refine kf_sumW hn (by omega) ?_
        refine br_c (fun q => ?_) (fun q => br_c (fun q2 => br_c (fun q3 => ?_) (fun q3 => ?_)) (fun q2 => ?_))
        · exact kf_x85 (fun z => hz (z.elim Or.inl (fun y => absurd y (by decide)))) (fun a _ => hy a (Or.inl q))
        · exact kf_x85 (fun _ => hz (Or.inr (fun b => b.elim q (fun y => y.2 q3)))) (fun _ y => absurd rfl y)
        · exact kf_x85 (fun z => hz (z.elim Or.inl (fun y => absurd y (by decide)))) (fun a _ => hy a (Or.inr ⟨q2, q3⟩))
        · exact kf_x85 (fun _ => hz (Or.inr (fun b => b.elim q (fun y => q2 y.1)))) (fun _ y => absurd rfl y)
      · rwa [show kf_gb W V n L (kf_al S F n st g) c s = s from if_neg (fun z => kf_ft h0 z.1)] at h
/-- the code that the search finds -/
def kf_bc (W V S F : Nat → Nat) (n L : Nat) (st : Bool) (g : Option Nat) : Int32 := (kf_run (kf_gb W V n L (kf_al S F n st g)) (3 ^ n) 0 (0, 0, 0)).1
theorem kf_gb_0 (al : Nat → Bool) : kf_gb W V n L al 0 (0, 0, 0) = (0, 0, 0) := by
  unfold kf_gb
  rw [kf_sd_0, kf_sd_0]
  exact if_neg (fun z => z.2.2.elim (fun y => absurd y (by decide)) (fun y => absurd y.2 (by decide)))
theorem kf_bc_1 (st : Bool) (g : Option Nat) : kf_bc W V S F n L st g = (kf_run (kf_gb W V n L (kf_al S F n st g)) (3 ^ n - 1) 1 (0, 0, 0)).1 := by
  unfold kf_bc
  have hp : 0 < 3 ^ n := Nat.pow_pos (by decide)
  obtain ⟨m, hm⟩ : ∃ m, 3 ^ n = m + 1 := ⟨3 ^ n - 1, by omega⟩
  rw [hm]
  show (kf_run (kf_gb W V n L (kf_al S F n st g)) m (0 + 1) (kf_gb W V n L (kf_al S F n st g) 0 (0, 0, 0))).1 = _
  rw [kf_gb_0]
  rfl
theorem kf_bc_ok (hn : n ≤ 7) (st : Bool) (g : Option Nat) : ∃ c, c < 2 ^ 31 ∧ kf_oc S n c = true ∧ kf_bc W V S F n L st g = nI c := by
  have hp := kf_p3 hn
  refine kf_run_inv (g := kf_gb W V n L (kf_al S F n st g)) (P := fun s => ∃ c, c < 2 ^ 31 ∧ kf_oc S n c = true ∧ s.1 = nI c) (e := 3 ^ n) ?_ (3 ^ n) 0 (0, 0, 0) (by omega) ⟨0, by decide, kf_oc_0 S n, rfl⟩
  intro c t hc ht
  by_cases hh : kf_al S F n st g c = true ∧ ¬ nI L < nI (kf_sd W n c) ∧ (t.2.1 < nI (kf_sd V n c) ∨ (nI (kf_sd V n c) = t.2.1 ∧ ¬ t.2.2 ≤ nI (kf_sd W n c)))
  · rw [show kf_gb W V n L (kf_al S F n st g) c t = (nI c, nI (kf_sd V n c), nI (kf_sd W n c)) from if_pos hh]
    exact ⟨c, by omega, kf_al_oc hh.1, rfl⟩
  · rw [show kf_gb W V n L (kf_al S F n st g) c t = t from if_neg hh]
    exact ht
theorem kf_findX {post : Int32 → Prop} (hn : n ≤ 7) (hS : ∀ i, S i ≤ 2) (hF : ∀ i, F i ≤ 3) {st : Bool} {g : Option Nat} (hg : ∀ x, g = some x → x < n) (h : post (kf_bc W V S F n L st g)) : wpX_findBest post (nI n, nI L, kf_a W, kf_a V, kf_a S, kf_a F, bp) (kf_b st) (kf_br g) := by
  rw [kf_bc_1] at h
  have hp : 0 < 3 ^ n := Nat.pow_pos (by decide)
  unfold wpX_findBest
  dsimp only
  refine kf_endX hn ?_
  exact ⟨3 ^ n, kf_xfb hn hS hF hg (kf_p3 hn) (3 ^ n - 1) 1 (0, 0, 0) _ (by omega) (by omega) h⟩
/-- the weight of all pieces -/
def kf_wh (W S : Nat → Nat) : Nat → Nat
  | 0 => 0
  | i + 1 => kf_wh W S i + W i * S i
theorem kf_wh_le (hW : ∀ i, W i ≤ 20) (hS : ∀ i, S i ≤ 2) : ∀ i, kf_wh W S i ≤ 40 * i := by
  intro i
  induction i with
  | zero => exact Nat.le_refl 0
  | succ i ih =>
    have h := Nat.mul_le_mul (hW i) (hS i)
    show kf_wh W S i + W i * S i ≤ 40 * (i + 1)
    omega
/-- whether all can be shared by halves -/
def kf_hv (W S : Nat → Nat) (n : Nat) : Int32 := if kf_wh W S n % 2 = 0 ∧ ¬ kf_run (kf_gw W S n (nI (kf_wh W S n / 2))) (3 ^ n) 0 0 ≤ 0 then 1 else 0
theorem kf_xha {post : Int32 → Prop} (hn : n ≤ 7) (hW : ∀ i, W i ≤ 20) (hS : ∀ i, S i ≤ 2) (h : post (kf_hv W S n)) : ∀ d i k, i + d = n → d < k → wX_halves_4 post (nI n) (nI L) (kf_a W) (kf_a V) (kf_a S) (kf_a F) bp k (nI (kf_wh W S i)) (nI i) := by
  intro d
  induction d with
  | zero =>
    intro i k hi hk
    cases k with
    | zero => omega
    | succ k =>
      have hi : i = n := by omega
      rw [hi]
      have hb := kf_wh_le hW hS n
      refine br_t (nI_le (Nat.le_refl _) (by omega)) ⟨by decide, ek_if (d := kf_wh W S n % 2 = 0) ?_ (fun e => ⟨by decide, ?_⟩) (fun e => ?_)⟩
      · rw [show nI (kf_wh W S n) - nI (kf_wh W S n) / 2 * 2 = nI (kf_wh W S n % 2) from pk_rem (d := 2) (by omega) (by decide) (by decide)]
        exact nI_eq (b := 0) (by omega) (by decide)
      · rw [show nI (kf_wh W S n) / 2 = nI (kf_wh W S n / 2) from pk_div (d := 2) (by omega) (by decide) (by decide)]
        refine kf_cwX hn hS ?_
        refine br_c (fun q => ?_) (fun q => ?_)
        · rwa [show kf_hv W S n = 0 from if_neg (fun z => z.2 q)] at h
        · rwa [show kf_hv W S n = 1 from if_pos ⟨e, q⟩] at h
      · rwa [show kf_hv W S n = 0 from if_neg (fun z => e z.1)] at h
  | succ d ih =>
    intro i k hi hk
    cases k with
    | zero => omega
    | succ k =>
      refine br_f (nI_ge (by omega) (by omega)) ⟨vp_in_nI (by omega) (by omega), vp_in_nI (by omega) (by omega), nm_r (e' := nI (kf_wh W S (i + 1))) ?_ (nm_r (nI_1 i) (ih (i + 1) k (by omega) (by omega)))⟩
      rw [kf_at W (by omega), kf_at S (by omega), pk_mul, nI_add]
      rfl
theorem kf_haX {post : Int32 → Prop} (hn : n ≤ 7) (hW : ∀ i, W i ≤ 20) (hS : ∀ i, S i ≤ 2) (h : post (kf_hv W S n)) : wpX_halves post (nI n, nI L, kf_a W, kf_a V, kf_a S, kf_a F, bp) :=
  ⟨n + 1, kf_xha hn hW hS h n 0 (n + 1) (by omega) (by omega)⟩
end
