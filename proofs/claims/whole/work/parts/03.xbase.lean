section
variable {n L : Nat} {W V S F : Nat → Nat} {bp : Nat → Int32}
abbrev kf_a (A : Nat → Nat) : Nat → Int32 := fun i => nI (A i)
theorem kf_m1 (x : Int32) : x + (-1) = x - 1 := (Int32.sub_eq_add_neg x 1).symm
theorem kf_lo : nI 0 - 1 < 0 := by decide
theorem kf_e3 {c : Nat} (h : c < 2 ^ 31) : nI c - nI c / 3 * 3 = nI (c % 3) := pk_rem (d := 3) h (by decide) (by decide)
theorem kf_d3 {c : Nat} (h : c < 2 ^ 31) : nI c / 3 = nI (c / 3) := pk_div (d := 3) h (by decide) (by decide)
theorem kf_at (A : Nat → Nat) {m : Nat} (h : m < 2 ^ 31) : kf_a A (nI m).toNatClampNeg = nI (A m) := by rw [nI_clamp h]
theorem kf_ft {b : Bool} (h : b = false) : ¬ b = true := by rw [h]; decide
theorem kf_p3 {n : Nat} (h : n ≤ 7) : 3 ^ n ≤ 2187 := Nat.pow_le_pow_right (by decide) h
theorem kf_p6 {n : Nat} (h : n ≤ 7) : 6 ^ n ≤ 279936 := Nat.pow_le_pow_right (by decide) h
theorem kf_xc {post : Int32 → Prop} (hS : ∀ i, S i ≤ 2) : ∀ m c k, m ≤ 7 → c < 2 ^ 31 → m < k → (kf_oc S m c = true → post 1) → (kf_oc S m c = false → post 0) → wX_isChoice_15 post (nI n) (nI L) (kf_a W) (kf_a V) (kf_a S) (kf_a F) bp k (nI c) (nI m - 1) := by
  intro m
  induction m with
  | zero =>
    intro c k _ hc hk h1 h0
    cases k with
    | zero => omega
    | succ k =>
      exact br_t kf_lo (ek_if (d := c = 0) (nI_eq (b := 0) hc (by decide)) (fun h => h1 (by simp [kf_oc, h])) (fun h => h0 (by simp [kf_oc, h])))
  | succ m ih =>
    intro c k hm hc hk h1 h0
    cases k with
    | zero => omega
    | succ k =>
      rw [nI_pred]
      have hs := hS m
      refine br_f (nI_pos (by omega)) ⟨by decide, vp_in_nI (by omega) (by omega), ek_if (d := c % 3 ≤ S m) ?_ (fun h => ⟨by decide, nm_r (kf_d3 hc) (nm_r (kf_m1 _) (ih (c / 3) k (by omega) (by omega) (by omega) (fun e => h1 ?_) (fun e => h0 ?_)))⟩) (fun h => h0 ?_)⟩
      · rw [kf_e3 hc, kf_at S (by omega)]; exact nI_leI (by omega) (by omega)
      · simp [kf_oc, h, e]
      · simp [kf_oc, e]
      · simp [kf_oc, h]
theorem kf_isChoice {post : Int32 → Prop} (hn : n ≤ 7) (hS : ∀ i, S i ≤ 2) {c : Nat} (hc : c < 2 ^ 31) (h1 : kf_oc S n c = true → post 1) (h0 : kf_oc S n c = false → post 0) : wpX_isChoice post (nI n, nI L, kf_a W, kf_a V, kf_a S, kf_a F, bp) (nI c) :=
  br_t (nI_pos' hc) (nm_e ⟨n + 1, kf_xc hS n c (n + 1) hn hc (by omega) h1 h0⟩)
theorem kf_isChoiceN {post : Int32 → Prop} {x : Int32} (h : ¬ 0 ≤ x) (hp : post 0) : wpX_isChoice post (nI n, nI L, kf_a W, kf_a V, kf_a S, kf_a F, bp) x := br_f h hp
theorem kf_xsW {post : Int32 → Prop} : ∀ m c s k, m ≤ 7 → c < 2 ^ 31 → m < k → post (nI (s + kf_sd W m c)) → wX_sumOver__weights_13 post (nI n) (nI L) (kf_a W) (kf_a V) (kf_a S) (kf_a F) bp k (nI s) (nI c) (nI m - 1) := by
  intro m
  induction m with
  | zero =>
    intro c s k _ _ hk h
    cases k with
    | zero => omega
    | succ k => exact br_t kf_lo h
  | succ m ih =>
    intro c s k hm hc hk h
    cases k with
    | zero => omega
    | succ k =>
      rw [nI_pred]
      refine br_f (nI_pos (by omega)) ⟨by decide, vp_in_nI (by omega) (by omega), nm_r (e' := nI (s + c % 3 * W m)) ?_ ⟨by decide, nm_r (kf_d3 hc) (nm_r (kf_m1 _) (ih (c / 3) (s + c % 3 * W m) k (by omega) (by omega) (by omega) ?_))⟩⟩
      · rw [kf_e3 hc, kf_at W (by omega), pk_mul, nI_add]
      · rw [Nat.add_assoc]; exact h
theorem kf_sumW {post : Int32 → Prop} (hn : n ≤ 7) {c : Nat} (hc : c < 2 ^ 31) (h : post (nI (kf_sd W n c))) : wpX_sumOver__weights post (nI n, nI L, kf_a W, kf_a V, kf_a S, kf_a F, bp) (nI c) :=
  nm_e ⟨n + 1, kf_xsW n c 0 (n + 1) hn hc (by omega) (by rw [Nat.zero_add]; exact h)⟩
theorem kf_xsV {post : Int32 → Prop} : ∀ m c s k, m ≤ 7 → c < 2 ^ 31 → m < k → post (nI (s + kf_sd V m c)) → wX_sumOver__values_13 post (nI n) (nI L) (kf_a W) (kf_a V) (kf_a S) (kf_a F) bp k (nI s) (nI c) (nI m - 1) := by
  intro m
  induction m with
  | zero =>
    intro c s k _ _ hk h
    cases k with
    | zero => omega
    | succ k => exact br_t kf_lo h
  | succ m ih =>
    intro c s k hm hc hk h
    cases k with
    | zero => omega
    | succ k =>
      rw [nI_pred]
      refine br_f (nI_pos (by omega)) ⟨by decide, vp_in_nI (by omega) (by omega), nm_r (e' := nI (s + c % 3 * V m)) ?_ ⟨by decide, nm_r (kf_d3 hc) (nm_r (kf_m1 _) (ih (c / 3) (s + c % 3 * V m) k (by omega) (by omega) (by omega) ?_))⟩⟩
      · rw [kf_e3 hc, kf_at V (by omega), pk_mul, nI_add]
      · rw [Nat.add_assoc]; exact h
theorem kf_sumV {post : Int32 → Prop} (hn : n ≤ 7) {c : Nat} (hc : c < 2 ^ 31) (h : post (nI (kf_sd V n c))) : wpX_sumOver__values post (nI n, nI L, kf_a W, kf_a V, kf_a S, kf_a F, bp) (nI c) :=
  nm_e ⟨n + 1, kf_xsV n c 0 (n + 1) hn hc (by omega) (by rw [Nat.zero_add]; exact h)⟩
theorem kf_xe {post : Int32 → Prop} (hn : n ≤ 7) (h : post (nI (3 ^ n))) : ∀ d i k, i + d = n → d < k → wX_endOfCodes_4 post (nI n) (nI L) (kf_a W) (kf_a V) (kf_a S) (kf_a F) bp k (nI (3 ^ i)) (nI i) := by
  intro d
  induction d with
  | zero =>
    intro i k hi hk
    cases k with
    | zero => omega
    | succ k =>
      have hi : i = n := by omega
      rw [hi]
      exact br_t (nI_le (Nat.le_refl _) (by omega)) h
  | succ d ih =>
    intro i k hi hk
    cases k with
    | zero => omega
    | succ k =>
      refine br_f (nI_ge (by omega) (by omega)) (nm_r (e' := nI (3 ^ (i + 1))) ?_ (nm_r (nI_1 i) (ih (i + 1) k (by omega) (by omega))))
      rw [Nat.pow_succ]; exact pk_mul (3 ^ i) 3
theorem kf_endX {post : Int32 → Prop} (hn : n ≤ 7) (h : post (nI (3 ^ n))) : wpX_endOfCodes post (nI n, nI L, kf_a W, kf_a V, kf_a S, kf_a F, bp) :=
  ⟨n + 1, kf_xe hn h n 0 (n + 1) (by omega) (by omega)⟩
theorem kf_sh : ∀ f, f < 4 → (1 : Int32) <<< (nI f &&& 31) = nI (2 ^ f) := by decide +kernel
theorem kf_an : ∀ k, k < 16 → ∀ f, f < 4 → ((nI k &&& nI (2 ^ f)) = 0 ↔ k.testBit f = false) := by decide +kernel
theorem kf_or : ∀ k, k < 16 → ∀ f, f < 4 → (nI k ||| nI (2 ^ f) = nI (k ||| 2 ^ f) ∧ k ||| 2 ^ f < 16) := by decide +kernel
theorem kf_xst {post : Int32 → Prop} (hF : ∀ i, F i ≤ 3) : ∀ m c q k, m ≤ 7 → c < 2 ^ 31 → q < 16 → m < k → (kf_ms F m c q = true → post 1) → (kf_ms F m c q = false → post 0) → wX_isStrict_12 post (nI n) (nI L) (kf_a W) (kf_a V) (kf_a S) (kf_a F) bp k (nI q) (nI c) (nI m - 1) := by
  intro m
  induction m with
  | zero =>
    intro c q k _ _ _ hk h1 _
    cases k with
    | zero => omega
    | succ k => exact br_t kf_lo (h1 rfl)
  | succ m ih =>
    intro c q k hm hc hq hk h1 h0
    cases k with
    | zero => omega
    | succ k =>
      rw [nI_pred]
      have hf : F m < 4 := by have := hF m; omega
      refine br_f (nI_pos (by omega)) ⟨by decide, ek_if (d := c % 3 ≤ 0) ?_ (fun h => ⟨by decide, nm_r (kf_d3 hc) (nm_r (kf_m1 _) (ih (c / 3) q k (by omega) (by omega) hq (by omega) (fun e => h1 ?_) (fun e => h0 ?_)))⟩) (fun h => ⟨vp_in_nI (by omega) (by omega), nm_r (e' := nI (2 ^ F m)) ?_ (ek_if (kf_an q hq (F m) hf) (fun t => nm_r (kf_or q hq (F m) hf).1 ⟨by decide, nm_r (kf_d3 hc) (nm_r (kf_m1 _) (ih (c / 3) (q ||| 2 ^ F m) k (by omega) (by omega) (kf_or q hq (F m) hf).2 (by omega) (fun e => h1 ?_) (fun e => h0 ?_)))⟩) (fun t => h0 ?_))⟩)⟩
      · rw [kf_e3 hc]; exact nI_leI (b := 0) (by omega) (by decide)
      · have h' : ¬ 0 < c % 3 := by omega
        simp only [kf_ms, if_neg h']; exact e
      · have h' : ¬ 0 < c % 3 := by omega
        simp only [kf_ms, if_neg h']; exact e
      · rw [kf_at F (by omega)]; exact kf_sh (F m) hf
      · have h' : 0 < c % 3 := by omega
        simp only [kf_ms, if_pos h', t]; exact e
      · have h' : 0 < c % 3 := by omega
        simp only [kf_ms, if_pos h', t]; exact e
      · have h' : 0 < c % 3 := by omega
        have t' : q.testBit (F m) = true := by simpa using t
        simp only [kf_ms, if_pos h', t']; rfl
theorem kf_isStrict {post : Int32 → Prop} (hn : n ≤ 7) (hF : ∀ i, F i ≤ 3) {c : Nat} (hc : c < 2 ^ 31) (h1 : kf_ms F n c 0 = true → post 1) (h0 : kf_ms F n c 0 = false → post 0) : wpX_isStrict post (nI n, nI L, kf_a W, kf_a V, kf_a S, kf_a F, bp) (nI c) :=
  nm_e ⟨n + 1, kf_xst hF n c 0 (n + 1) hn hc (by decide) (by omega) h1 h0⟩
theorem kf_xtk {post : Int32 → Prop} {g : Nat} (hg : g < 7) : ∀ m c k, g < m → m ≤ 7 → c < 2 ^ 31 → m < k → (kf_dg m c g = 0 → post 0) → (¬ kf_dg m c g = 0 → post 1) → wX_takes_10 post (nI g) (nI n) (nI L) (kf_a W) (kf_a V) (kf_a S) (kf_a F) bp k (nI c) (nI m - 1) := by
  intro m
  induction m with
  | zero => intro c k h; omega
  | succ m ih =>
    intro c k hgm hm hc hk h0 h1
    cases k with
    | zero => omega
    | succ k =>
      rw [nI_pred]
      refine ek_if (d := m ≤ g) (nI_leI (by omega) (by omega)) (fun h => ⟨by decide, ek_if (d := c % 3 ≤ 0) ?_ (fun t => h0 ?_) (fun t => h1 ?_)⟩) (fun h => ⟨by decide, nm_r (kf_d3 hc) (nm_r (kf_m1 _) (ih (c / 3) k (by omega) (by omega) (by omega) (by omega) (fun e => h0 ?_) (fun e => h1 ?_)))⟩)
      · rw [kf_e3 hc]; exact nI_leI (b := 0) (by omega) (by decide)
      · have : g = m := by omega
        rw [this, kf_dg_m]; omega
      · have : g = m := by omega
        rw [this, kf_dg_m]; omega
      · rw [kf_dg_lt (by omega)]; exact e
      · rw [kf_dg_lt (by omega)]; exact e
theorem kf_takes {post : Int32 → Prop} (hn : n ≤ 7) {g c : Nat} (hg : g < n) (hc : c < 2 ^ 31) (h0 : kf_dg n c g = 0 → post 0) (h1 : ¬ kf_dg n c g = 0 → post 1) : wpX_takes post (nI n, nI L, kf_a W, kf_a V, kf_a S, kf_a F, bp) (nI c) (nI g) :=
  nm_e ⟨n + 1, kf_xtk (by omega) n c (n + 1) hg hn hc (by omega) h0 h1⟩
/-- what the search allows -/
def kf_al (S F : Nat → Nat) (n : Nat) (st : Bool) (g : Option Nat) (c : Nat) : Bool :=
  kf_oc S n c && ((!st || kf_ms F n c 0) && (match g with | none => true | some x => decide (kf_dg n c x = 0)))
def kf_b (st : Bool) : Int32 := match st with | true => 1 | false => 0
def kf_br (g : Option Nat) : Int32 := match g with | none => -1 | some x => nI x
theorem kf_nI_m1 {x : Nat} (h : x < 2 ^ 31) : ¬ nI x = -1 := fun z => nI_pos h (by rw [z]; decide)
theorem kf_al_oc {S F : Nat → Nat} {n c : Nat} {st : Bool} {g : Option Nat} (h : kf_al S F n st g c = true) : kf_oc S n c = true := by
  unfold kf_al at h
  exact (Bool.and_eq_true_iff.mp h).1
theorem kf_isAllowed {post : Int32 → Prop} (hn : n ≤ 7) (hS : ∀ i, S i ≤ 2) (hF : ∀ i, F i ≤ 3) {c : Nat} (hc : c < 2 ^ 31) {st : Bool} {g : Option Nat} (hg : ∀ x, g = some x → x < n) (h1 : kf_al S F n st g c = true → post 1) (h0 : kf_al S F n st g c = false → post 0) : wpX_isAllowed post (nI n, nI L, kf_a W, kf_a V, kf_a S, kf_a F, bp) (nI c) (kf_b st) (kf_br g) := by
  have tail : kf_oc S n c = true → (!st || kf_ms F n c 0) = true → wX_isAllowed_24 post (nI c) (kf_br g) (nI n) (nI L) (kf_a W) (kf_a V) (kf_a S) (kf_a F) bp := by
    intro a1 a2
    cases g with
    | none => exact br_t rfl (h1 (by unfold kf_al; rw [a1, a2]; rfl))
    | some x =>
      have hx := hg x rfl
      refine br_f (kf_nI_m1 (by omega)) ?_
      refine kf_takes hn hx hc (fun e => br_t rfl (h1 ?_)) (fun e => br_f (by decide) (h0 ?_))
      · unfold kf_al; rw [a1, a2]; simp [e]
      · unfold kf_al; rw [a1, a2]; simp [e]
  unfold wpX_isAllowed
  dsimp only
  refine kf_isChoice hn hS hc (fun a1 => br_f (by decide) ?_) (fun a0 => br_t rfl (h0 ?_))
  · cases st with
    | false => exact br_t rfl (tail a1 rfl)
    | true =>
      refine br_f (by decide) ?_
      refine kf_isStrict hn hF hc (fun b1 => br_f (by decide) (tail a1 ?_)) (fun b0 => br_t rfl (h0 ?_))
      · rw [b1]; rfl
      · unfold kf_al; rw [a1, b0]; rfl
  · unfold kf_al; rw [a0]; rfl
end
