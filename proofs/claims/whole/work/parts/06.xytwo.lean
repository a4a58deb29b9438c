section
variable {n L : Nat} {W V S F : Nat → Nat} {bp : Nat → Int32} {hv wo : Int32} {tk : Nat → Int32}
theorem kf_xem {post : SX → Prop} (h : ∀ bp, (∀ j, j < 3721 → bp j = 0) → post (nI n, nI L, kf_a W, kf_a V, kf_a S, kf_a F, bp)) : ∀ d i bp k, i + d = 3721 → d < k → (∀ j, j < i → bp j = 0) → wX_emptyBothSacks_2 post (nI n) (nI L) k (nI i) (kf_a W) (kf_a V) (kf_a S) (kf_a F) bp := by
  intro d
  induction d with
  | zero =>
    intro i bp k hi hk hb
    cases k with
    | zero => omega
    | succ k => exact br_t (nI_le (a := 3721) (by omega) (by omega)) (h bp (fun j hj => hb j (by omega)))
  | succ d ih =>
    intro i bp k hi hk hb
    cases k with
    | zero => omega
    | succ k =>
      refine br_f (nI_ge (b := 3721) (by omega) (by decide)) ⟨vp_in_nI (by omega) (by decide), nm_e (nm_r (nI_1 i) (ih (i + 1) _ k (by omega) (by omega) (fun j hj => ?_)))⟩
      rw [nI_clamp (by omega)]
      by_cases hji : j = i
      · rw [hji, pk_us]
      · rw [pk_un hji]; exact hb j (by omega)
theorem kf_emptyX {post : SX → Prop} (h : ∀ bp, (∀ j, j < 3721 → bp j = 0) → post (nI n, nI L, kf_a W, kf_a V, kf_a S, kf_a F, bp)) : wpX_emptyBothSacks post (nI n, nI L, kf_a W, kf_a V, kf_a S, kf_a F, bp) :=
  ⟨3722, kf_xem h 3721 0 bp 3722 (by decide) (by decide) (fun j hj => absurd hj (Nat.not_lt_zero j))⟩
/-- the table holds f -/
def kf_tab (f : Nat → Nat → Nat) (bp : Nat → Int32) : Prop := ∀ x y, x ≤ 60 → y ≤ 60 → bp (x * 61 + y) = nI (f x y)
/-- rows above a, and in row a the columns from q on, know of the piece -/
def kf_T (w v : Nat) (f : Nat → Nat → Nat) (a q : Nat) (bp : Nat → Int32) : Prop := ∀ x y, x ≤ 60 → y ≤ 60 → bp (x * 61 + y) = nI (if a < x ∨ (x = a ∧ q ≤ y) then kf_op w v f x y else f x y)
theorem kf_T_rd {w v : Nat} {f : Nat → Nat → Nat} {a q : Nat} {bp : Nat → Int32} (h : kf_T w v f a q bp) {x y : Nat} (hx : x ≤ a) (hy : y < q) (ha : a ≤ 60) (hq : y ≤ 60) : bp (x * 61 + y) = nI (f x y) := by
  rw [h x y (by omega) hq, if_neg (by omega)]
theorem kf_T_wr {w v : Nat} {f : Nat → Nat → Nat} {a q : Nat} {bp : Nat → Int32} (h : kf_T w v f a (q + 1) bp) (hq : q ≤ 60) : kf_T w v f a q (upd bp (a * 61 + q) (nI (kf_op w v f a q))) := by
  intro x y hx hy
  by_cases e : x = a ∧ y = q
  · rw [e.1, e.2, pk_us, if_pos (by omega)]
  · rw [pk_un (by omega), h x y hx hy]
    by_cases c : a < x ∨ (x = a ∧ q ≤ y)
    · rw [if_pos c, if_pos (by omega)]
    · rw [if_neg c, if_neg (by omega)]
/-- the greater of what was there and what the first sack would hold -/
def kf_o1 (w v : Nat) (f : Nat → Nat → Nat) (a q : Nat) : Nat := if w ≤ a then (if f a q < f (a - w) q + v then f (a - w) q + v else f a q) else f a q
theorem kf_op_o1 (w v : Nat) (f : Nat → Nat → Nat) (a q : Nat) : kf_op w v f a q = if w ≤ q then (if kf_o1 w v f a q < f a (q - w) + v then f a (q - w) + v else kf_o1 w v f a q) else kf_o1 w v f a q := rfl
theorem kf_x71 {post : SX → Prop} {J3 J11 : Int32 → (Nat → Int32) → (Nat → Int32) → (Nat → Int32) → (Nat → Int32) → (Nat → Int32) → Prop} {w v a q : Nat} {f : Nat → Nat → Nat} (hf : ∀ x y, f x y ≤ 2000) (hv : v ≤ 50) (hw : w ≤ 20) (ha : a ≤ 60) (hq : q ≤ 60) {bp : Nat → Int32} (hT : kf_T w v f a (q + 1) bp)
    (h : J11 (nI q - 1) (kf_a W) (kf_a V) (kf_a S) (kf_a F) (upd bp (a * 61 + q) (nI (kf_op w v f a q)))) :
    wX_offerToBothSacks_71 post J3 J11 (nI w) (nI v) (nI a) (nI q) (nI (a * 61 + q)) (nI (kf_o1 w v f a q)) (nI n) (nI L) (kf_a W) (kf_a V) (kf_a S) (kf_a F) bp := by
  have hb : kf_o1 w v f a q ≤ 2050 := by
    unfold kf_o1
    have h1 := hf a q
    have h2 := hf (a - w) q
    split
    · split <;> omega
    · omega
  have hin : vp_in (nI (a * 61 + q)) 3721 := vp_in_nI (by omega) (by decide)
  have hcl : (nI (a * 61 + q)).toNatClampNeg = a * 61 + q := nI_clamp (by omega)
  refine ek_if (d := q < w) (nI_ltI (by omega) (by omega)) (fun e => ⟨hin, nm_r (e' := upd bp (a * 61 + q) (nI (kf_op w v f a q))) ?_ (nm_r (kf_m1 _) h)⟩) (fun e => ?_)
  · rw [hcl, kf_op_o1, if_neg (by omega)]
  · have hqw : w ≤ q := by omega
    have e5 : nI (a * 61 + q) - nI w = nI (a * 61 + (q - w)) := by
      rw [pk_sub (by omega)]; exact congrArg nI (by omega)
    have h2 := hf a (q - w)
    have hin2 : vp_in (nI (a * 61 + q) - nI w) 3721 := by rw [e5]; exact vp_in_nI (by omega) (by decide)
    have e7 : bp (nI (a * 61 + q) - nI w).toNatClampNeg + nI v = nI (f a (q - w) + v) := by
      rw [e5, nI_clamp (by omega), kf_T_rd hT (Nat.le_refl a) (by omega) ha (by omega), nI_add]
    refine ⟨hin2, nm_r e7 (ek_if (d := f a (q - w) + v ≤ kf_o1 w v f a q) (nI_leI (by omega) (by omega)) (fun g => ⟨hin, nm_r (e' := upd bp (a * 61 + q) (nI (kf_op w v f a q))) ?_ (nm_r (kf_m1 _) h)⟩) (fun g => ⟨hin, nm_r (e' := upd bp (a * 61 + q) (nI (kf_op w v f a q))) ?_ (nm_r (kf_m1 _) h)⟩))⟩
    · rw [hcl, kf_op_o1, if_pos hqw, if_neg (by omega)]
    · rw [hcl, kf_op_o1, if_pos hqw, if_pos (by omega)]
theorem kf_xin {post : SX → Prop} {J3 : Int32 → (Nat → Int32) → (Nat → Int32) → (Nat → Int32) → (Nat → Int32) → (Nat → Int32) → Prop} {w v a : Nat} {f : Nat → Nat → Nat} (hf : ∀ x y, f x y ≤ 2000) (hv : v ≤ 50) (hw : w ≤ 20) (ha : a ≤ 60)
    (h : ∀ bp, kf_T w v f a 0 bp → J3 (nI a - 1) (kf_a W) (kf_a V) (kf_a S) (kf_a F) bp) : ∀ q bp k, q ≤ 61 → q < k → kf_T w v f a q bp → wX_offerToBothSacks_11 post J3 (nI w) (nI v) (nI a) (nI n) (nI L) k (nI q - 1) (kf_a W) (kf_a V) (kf_a S) (kf_a F) bp := by
  intro q
  induction q with
  | zero =>
    intro bp k _ hk hT
    cases k with
    | zero => omega
    | succ k => exact br_t kf_lo (nm_r (kf_m1 _) (h bp hT))
  | succ q ih =>
    intro bp k hq hk hT
    cases k with
    | zero => omega
    | succ k =>
      rw [nI_pred]
      have e5 : nI a * 61 + nI q = nI (a * 61 + q) := by
        rw [show nI a * 61 = nI (a * 61) from pk_mul a 61, nI_add]
      have h1 := hf a q
      have h2 := hf (a - w) q
      have e6 : bp (nI (a * 61 + q)).toNatClampNeg = nI (f a q) := by
        rw [nI_clamp (by omega)]; exact kf_T_rd hT (Nat.le_refl a) (by omega) ha (by omega)
      have go : wX_offerToBothSacks_71 post J3 (wX_offerToBothSacks_11 post J3 (nI w) (nI v) (nI a) (nI n) (nI L) k) (nI w) (nI v) (nI a) (nI q) (nI (a * 61 + q)) (nI (kf_o1 w v f a q)) (nI n) (nI L) (kf_a W) (kf_a V) (kf_a S) (kf_a F) bp :=
        kf_x71 hf hv hw ha (by omega) hT (ih _ k (by omega) (by omega) (kf_T_wr hT (by omega)))
      refine br_f (nI_pos (by omega)) (nm_r e5 ⟨vp_in_nI (by omega) (by decide), nm_r e6 (ek_if (d := a < w) (nI_ltI (by omega) (by omega)) (fun e => ?_) (fun e => ?_))⟩)
      · rw [show kf_o1 w v f a q = f a q from if_neg (by omega)] at go
        exact go
      · have haw : w ≤ a := by omega
        have e8 : nI (a * 61 + q) - nI w * 61 = nI ((a - w) * 61 + q) := by
          rw [show nI w * 61 = nI (w * 61) from pk_mul w 61, pk_sub (by omega)]; exact congrArg nI (by omega)
        have hin : vp_in (nI (a * 61 + q) - nI w * 61) 3721 := by rw [e8]; exact vp_in_nI (by omega) (by decide)
        have e7 : bp (nI (a * 61 + q) - nI w * 61).toNatClampNeg + nI v = nI (f (a - w) q + v) := by
          rw [e8, nI_clamp (by omega), kf_T_rd hT (by omega) (by omega) ha (by omega), nI_add]
        refine ⟨hin, nm_r e7 (ek_if (d := f (a - w) q + v ≤ f a q) (nI_leI (by omega) (by omega)) (fun g => ?_) (fun g => ?_))⟩
        · rw [show kf_o1 w v f a q = f a q from (if_pos haw).trans (if_neg (by omega))] at go
          exact go
        · rw [show kf_o1 w v f a q = f (a - w) q + v from (if_pos haw).trans (if_pos (by omega))] at go
          exact go
theorem kf_xou {post : SX → Prop} {w v : Nat} {f : Nat → Nat → Nat} (hf : ∀ x y, f x y ≤ 2000) (hv : v ≤ 50) (hw : w ≤ 20)
    (h : ∀ bp, kf_tab (kf_op w v f) bp → post (nI n, nI L, kf_a W, kf_a V, kf_a S, kf_a F, bp)) : ∀ p bp k, p ≤ 61 → p < k → (∀ x y, x ≤ 60 → y ≤ 60 → bp (x * 61 + y) = nI (if p ≤ x then kf_op w v f x y else f x y)) → wX_offerToBothSacks_3 post (nI w) (nI v) (nI n) (nI L) k (nI p - 1) (kf_a W) (kf_a V) (kf_a S) (kf_a F) bp := by
  intro p
  induction p with
  | zero =>
    intro bp k _ hk hT
    cases k with
    | zero => omega
    | succ k =>
      refine br_t kf_lo (h bp (fun x y hx hy => ?_))
      rw [hT x y hx hy, if_pos (Nat.zero_le x)]
  | succ p ih =>
    intro bp k hp hk hT
    cases k with
    | zero => omega
    | succ k =>
      rw [nI_pred]
      refine br_f (nI_pos (by omega)) ⟨62, ?_⟩
      refine kf_xin hf hv hw (by omega) (fun bp hB => ih bp k (by omega) (by omega) (fun x y hx hy => ?_)) 61 bp 62 (by decide) (by decide) (fun x y hx hy => ?_)
      · rw [hB x y hx hy]
        by_cases c : p ≤ x
        · rw [if_pos c, if_pos (by omega)]
        · rw [if_neg c, if_neg (by omega)]
      · rw [hT x y hx hy]
        by_cases c : p + 1 ≤ x
        · rw [if_pos c, if_pos (by omega)]
        · rw [if_neg c, if_neg (by omega)]
theorem kf_offerX {post : SX → Prop} {w v : Nat} {f : Nat → Nat → Nat} (hf : ∀ x y, f x y ≤ 2000) (hv : v ≤ 50) (hw : w ≤ 20) (hT : kf_tab f bp) (h : ∀ bp, kf_tab (kf_op w v f) bp → post (nI n, nI L, kf_a W, kf_a V, kf_a S, kf_a F, bp)) : wpX_offerToBothSacks post (nI n, nI L, kf_a W, kf_a V, kf_a S, kf_a F, bp) (nI w) (nI v) := by
  refine ⟨62, kf_xou hf hv hw h 61 bp 62 (by decide) (by decide) (fun x y hx hy => ?_)⟩
  rw [hT x y hx hy, if_neg (by omega)]
theorem kf_xpi {post : Int32 → SX → Prop} {J : Int32 → Int32 → Int32 → (Nat → Int32) → (Nat → Int32) → (Nat → Int32) → (Nat → Int32) → (Nat → Int32) → Prop} {x1 : Int32} (hW : ∀ i, W i ≤ 20) (hV : ∀ i, V i ≤ 50) (hS : ∀ i, S i ≤ 2) {i : Nat} (hi : i < 7) {f : Nat → Nat → Nat} (hf : ∀ x y, f x y ≤ 1000)
    (h : ∀ bp, kf_tab (kf_ops (W i) (V i) f (S i)) bp → J (nI (i + 1)) (nI n) (nI L) (kf_a W) (kf_a V) (kf_a S) (kf_a F) bp) : ∀ d s bp k, s + d = S i → d < k → kf_tab (kf_ops (W i) (V i) f s) bp → wX_two_28 post J x1 (nI i) k (nI s) (nI n) (nI L) (kf_a W) (kf_a V) (kf_a S) (kf_a F) bp := by
  have hin : vp_in (nI i) 7 := vp_in_nI hi (by decide)
  have h2 := hS i
  intro d
  induction d with
  | zero =>
    intro s bp k hs hk hT
    cases k with
    | zero => omega
    | succ k =>
      refine ⟨hin, br_t ?_ (nm_r (nI_1 i) (h bp ?_))⟩
      · rw [kf_at S (by omega)]; exact nI_le (by omega) (by omega)
      · rw [show S i = s by omega]; exact hT
  | succ d ih =>
    intro s bp k hs hk hT
    cases k with
    | zero => omega
    | succ k =>
      refine ⟨hin, br_f ?_ ⟨hin, hin, ?_⟩⟩
      · rw [kf_at S (by omega)]; exact nI_ge (by omega) (by omega)
      · rw [kf_at W (by omega), kf_at V (by omega)]
        refine kf_offerX (f := kf_ops (W i) (V i) f s) (fun x y => ?_) (hV i) (hW i) hT (fun bp hB => nm_r (nI_1 s) (ih (s + 1) bp k (by omega) (by omega) hB))
        have h3 := kf_ops_le (w := W i) (v := V i) hf s x y
        have h4 : s * V i ≤ 2 * 50 := Nat.mul_le_mul (by omega) (hV i)
        omega
theorem kf_xgo {post : Int32 → SX → Prop} (hn : n ≤ 7) (hL : L ≤ 60) (hW : ∀ i, W i ≤ 20) (hV : ∀ i, V i ≤ 50) (hS : ∀ i, S i ≤ 2) {o : Nat} (ho : o ≤ 60)
    (h : ∀ bp, post (nI (kf_R W V S n L o)) (nI n, nI L, kf_a W, kf_a V, kf_a S, kf_a F, bp)) : ∀ d i bp k, i + d = n → d < k → kf_tab (kf_R W V S i) bp → wX_two_18 post (nI o) k (nI i) (nI n) (nI L) (kf_a W) (kf_a V) (kf_a S) (kf_a F) bp := by
  intro d
  induction d with
  | zero =>
    intro i bp k hi hk hT
    cases k with
    | zero => omega
    | succ k =>
      have hi : i = n := by omega
      rw [hi] at hT ⊢
      have e : nI L * 61 + nI o = nI (L * 61 + o) := by
        rw [show nI L * 61 = nI (L * 61) from pk_mul L 61, nI_add]
      refine br_t (nI_le (Nat.le_refl _) (by omega)) ⟨?_, ?_⟩
      · rw [e]; exact vp_in_nI (by omega) (by decide)
      · rw [e, nI_clamp (by omega), hT L o hL ho]; exact h bp
  | succ d ih =>
    intro i bp k hi hk hT
    cases k with
    | zero => omega
    | succ k =>
      have h2 := hS i
      refine br_f (nI_ge (by omega) (by omega)) ⟨4, ?_⟩
      refine kf_xpi hW hV hS (by omega) (f := kf_R W V S i) (fun x y => ?_) (fun bp hB => ih (i + 1) bp k (by omega) (by omega) hB) (S i) 0 bp 4 (by omega) (by omega) hT
      have := kf_R_le (W := W) hV hS i x y
      omega
theorem kf_twoX {post : Int32 → SX → Prop} (hn : n ≤ 7) (hL : L ≤ 60) (hW : ∀ i, W i ≤ 20) (hV : ∀ i, V i ≤ 50) (hS : ∀ i, S i ≤ 2) {o : Nat} (ho : o ≤ 60) (h : ∀ bp, post (nI (kf_R W V S n L o)) (nI n, nI L, kf_a W, kf_a V, kf_a S, kf_a F, bp)) : wpX_two post (nI n, nI L, kf_a W, kf_a V, kf_a S, kf_a F, bp) (nI o) := by
  refine br_f (nI_pos (by omega)) (br_t (nI_le (b := 60) ho (by decide)) ?_)
  refine kf_emptyX (fun bp hb => ⟨n + 1, kf_xgo hn hL hW hV hS ho h n 0 bp (n + 1) (by omega) (by omega) (fun x y hx hy => ?_)⟩)
  exact hb (x * 61 + y) (by omega)
theorem kf_ok_mono {S d : Nat → Nat} : ∀ m i, i ≤ m → kf_ok S d m = true → kf_ok S d i = true := by
  intro m
  induction m with
  | zero => intro i hi h; rw [show i = 0 by omega]; exact h
  | succ m ih =>
    intro i hi h
    by_cases e : i = m + 1
    · rw [e]; exact h
    · have h' : (kf_ok S d m && decide (kf_da (d m) + kf_db (d m) ≤ S m)) = true := h
      exact ih i (by omega) (Bool.and_eq_true_iff.mp h').1
theorem kf_dab : ∀ x, x < 6 → kf_da x ≤ 2 ∧ kf_db x ≤ 2 := by decide
theorem kf_f_le {d : Nat → Nat} (hd : ∀ i, d i < 6) (hW : ∀ i, W i ≤ 20) (hV : ∀ i, V i ≤ 50) : ∀ i, kf_f1 W d i ≤ 40 * i ∧ kf_f2 W d i ≤ 40 * i ∧ kf_fv V d i ≤ 200 * i := by
  intro i
  induction i with
  | zero => exact ⟨Nat.le_refl 0, Nat.le_refl 0, Nat.le_refl 0⟩
  | succ i ih =>
    have hx := kf_dab (d i) (hd i)
    have h1 := Nat.mul_le_mul hx.1 (hW i)
    have h2 := Nat.mul_le_mul hx.2 (hW i)
    have h3 := Nat.mul_le_mul (Nat.add_le_add hx.1 hx.2) (hV i)
    show kf_f1 W d i + kf_da (d i) * W i ≤ 40 * (i + 1) ∧ kf_f2 W d i + kf_db (d i) * W i ≤ 40 * (i + 1) ∧ kf_fv V d i + (kf_da (d i) + kf_db (d i)) * V i ≤ 200 * (i + 1)
    omega
theorem kf_y84 {post : Int32 → Prop} {J : Int32 → Int32 → Int32 → Int32 → Int32 → Prop} {x2 : Int32} {i r a b : Nat} (hi : i < 7) (hr : r < 2 ^ 31) (hS : ∀ i, S i ≤ 2) (ha : a ≤ 2) (hb : b ≤ 2) {f1 f2 fv : Nat}
    (h : a + b ≤ S i → J (nI (r / 6)) (nI (f1 + a * W i)) (nI (f2 + b * W i)) (nI (fv + (a + b) * V i)) (nI (i + 1))) (hx : ¬ a + b ≤ S i → post (-1)) :
    wY_both_84 post J x2 (nI r) (nI f1) (nI f2) (nI fv) (nI i) (nI a) (nI b) (nI n) (nI L) hv wo (kf_a W) (kf_a V) (kf_a S) (kf_a F) tk := by
  have hin : vp_in (nI i) 7 := vp_in_nI hi (by decide)
  have h2 := hS i
  refine ⟨hin, ek_if (d := a + b ≤ S i) ?_ (fun e => ⟨hin, nm_r (e' := nI (f1 + a * W i)) ?_ ⟨hin, nm_r (e' := nI (f2 + b * W i)) ?_ ⟨hin, nm_r (e' := nI (fv + (a + b) * V i)) ?_ ⟨by decide, nm_r (e' := nI (r / 6)) ?_ (nm_r (nI_1 i) (h e))⟩⟩⟩⟩) hx⟩
  · rw [nI_add, kf_at S (by omega)]; exact nI_leI (by omega) (by omega)
  · rw [kf_at W (by omega), pk_mul, nI_add]
  · rw [kf_at W (by omega), pk_mul, nI_add]
  · rw [kf_at V (by omega), nI_add, pk_mul, nI_add]
  · exact pk_div (d := 6) hr (by decide) (by decide)
theorem kf_yb {post : Int32 → Prop} (hn : n ≤ 7) (hL : L ≤ 60) (hW : ∀ i, W i ≤ 20) (hV : ∀ i, V i ≤ 50) (hS : ∀ i, S i ≤ 2) {o c : Nat} (ho : o ≤ 60) (hc : c < 2 ^ 31)
    (h1 : kf_ok S (kf_dc c) n = true → kf_f1 W (kf_dc c) n ≤ L → kf_f2 W (kf_dc c) n ≤ o → post (nI (kf_fv V (kf_dc c) n)))
    (h0 : ¬ (kf_ok S (kf_dc c) n = true ∧ kf_f1 W (kf_dc c) n ≤ L ∧ kf_f2 W (kf_dc c) n ≤ o) → post (-1)) :
    ∀ d i k, i + d = n → d < k → kf_ok S (kf_dc c) i = true → wY_both_14 post (nI o) (nI n) (nI L) hv wo (kf_a W) (kf_a V) (kf_a S) (kf_a F) tk k (nI (c / 6 ^ i)) (nI (kf_f1 W (kf_dc c) i)) (nI (kf_f2 W (kf_dc c) i)) (nI (kf_fv V (kf_dc c) i)) (nI i) := by
  have hd : ∀ i, kf_dc c i < 6 := fun i => Nat.mod_lt _ (by decide)
  intro d
  induction d with
  | zero =>
    intro i k hi hk hok
    cases k with
    | zero => omega
    | succ k =>
      have hi : i = n := by omega
      rw [hi] at hok ⊢
      obtain ⟨b1, b2, b3⟩ := kf_f_le (W := W) (V := V) hd hW hV n
      refine br_t (nI_le (Nat.le_refl _) (by omega)) (ek_if (d := L < kf_f1 W (kf_dc c) n) (nI_ltI (by omega) (by omega)) (fun e => h0 (fun z => ?_)) (fun e => ek_if (d := o < kf_f2 W (kf_dc c) n) (nI_ltI (by omega) (by omega)) (fun e2 => h0 (fun z => ?_)) (fun e2 => h1 hok (by omega) (by omega))))
      · have := z.2.1; omega
      · have := z.2.2; omega
  | succ d ih =>
    intro i k hi hk hok
    cases k with
    | zero => omega
    | succ k =>
      have hr : c / 6 ^ i < 2 ^ 31 := Nat.lt_of_le_of_lt (Nat.div_le_self _ _) hc
      have e6 : nI (c / 6 ^ i) - nI (c / 6 ^ i) / 6 * 6 = nI (kf_dc c i) := pk_rem (d := 6) hr (by decide) (by decide)
      have hx := hd i
      have hab := kf_dab (kf_dc c i) hx
      have go : wY_both_84 post (wY_both_14 post (nI o) (nI n) (nI L) hv wo (kf_a W) (kf_a V) (kf_a S) (kf_a F) tk k) (nI o) (nI (c / 6 ^ i)) (nI (kf_f1 W (kf_dc c) i)) (nI (kf_f2 W (kf_dc c) i)) (nI (kf_fv V (kf_dc c) i)) (nI i) (nI (kf_da (kf_dc c i))) (nI (kf_db (kf_dc c i))) (nI n) (nI L) hv wo (kf_a W) (kf_a V) (kf_a S) (kf_a F) tk := by
        refine kf_y84 (by omega) hr hS hab.1 hab.2 (fun e => ?_) (fun e => h0 (fun z => e ?_))
        · rw [show c / 6 ^ i / 6 = c / 6 ^ (i + 1) by rw [Nat.div_div_eq_div_mul, Nat.pow_succ]]
          refine ih (i + 1) k (by omega) (by omega) ?_
          show (kf_ok S (kf_dc c) i && decide (kf_da (kf_dc c i) + kf_db (kf_dc c i) ≤ S i)) = true
          rw [hok, decide_eq_true e]; rfl
        · have h' : (kf_ok S (kf_dc c) i && decide (kf_da (kf_dc c i) + kf_db (kf_dc c i) ≤ S i)) = true := kf_ok_mono n (i + 1) (by omega) z.1
          exact of_decide_eq_true (Bool.and_eq_true_iff.mp h').2
      refine br_f (nI_ge (by omega) (by omega)) (br_f (nI_ge (b := 7) (by omega) (by decide)) ⟨by decide, nm_r e6 ?_⟩)
      generalize kf_dc c i = x at go hx ⊢
      refine ek_if (d := 3 ≤ x) (nI_leI (a := 3) (by decide) (by omega)) (fun q => ek_if (d := 5 ≤ x) (nI_leI (a := 5) (by decide) (by omega)) (fun q2 => br_t (nI_le (a := 3) q (by omega)) (br_t (nI_le (a := 5) q2 (by omega)) ?_)) (fun q2 => br_t (nI_le (a := 3) q (by omega)) (br_f (nI_ge (b := 5) (by omega) (by decide)) ?_))) (fun q => br_f (nI_ge (b := 3) (by omega) (by decide)) ?_)
      · rw [show kf_da x = 2 from (if_neg (by omega)).trans (if_neg (by omega)), show kf_db x = 0 from (if_neg (by omega)).trans (if_neg (by omega))] at go
        exact go
      · rw [show kf_da x = 1 from (if_neg (by omega)).trans (if_pos (by omega)), show kf_db x = x - 3 from (if_neg (by omega)).trans (if_pos (by omega)), ← pk_sub (by omega)] at go
        exact go
      · rw [show kf_da x = 0 from if_pos (by omega), show kf_db x = x from if_pos (by omega)] at go
        exact go
theorem kf_bothY {post : Int32 → Prop} (hn : n ≤ 7) (hL : L ≤ 60) (hW : ∀ i, W i ≤ 20) (hV : ∀ i, V i ≤ 50) (hS : ∀ i, S i ≤ 2) {o c : Nat} (ho : o ≤ 60) (hc : c < 2 ^ 31)
    (h1 : kf_ok S (kf_dc c) n = true → kf_f1 W (kf_dc c) n ≤ L → kf_f2 W (kf_dc c) n ≤ o → post (nI (kf_fv V (kf_dc c) n)))
    (h0 : ¬ (kf_ok S (kf_dc c) n = true ∧ kf_f1 W (kf_dc c) n ≤ L ∧ kf_f2 W (kf_dc c) n ≤ o) → post (-1)) : wpY_both post (nI n, nI L, hv, wo, kf_a W, kf_a V, kf_a S, kf_a F, tk) (nI c) (nI o) := by
  have r := kf_yb (hv := hv) (wo := wo) (tk := tk) (F := F) hn hL hW hV hS ho hc h1 h0 n 0 (n + 1) (by omega) (by omega) rfl
  rw [Nat.pow_zero, Nat.div_one] at r
  exact ⟨n + 1, r⟩
theorem kf_ytw {post : Int32 → Prop} (hn : n ≤ 7) (hL : L ≤ 60) (hW : ∀ i, W i ≤ 20) (hV : ∀ i, V i ≤ 50) (hS : ∀ i, S i ≤ 2) {o e : Nat} (ho : o ≤ 60) (he : e ≤ 279936)
    (h : post (nI (kf_mx (kf_va W V S n L o) e))) : ∀ d c k, c + d = e → d < k → wY_two_40 post (nI o) (nI e) (nI n) (nI L) hv wo (kf_a W) (kf_a V) (kf_a S) (kf_a F) tk k (nI (kf_mx (kf_va W V S n L o) c)) (nI c) := by
  have hB : ∀ c, kf_mx (kf_va W V S n L o) c ≤ 200 * n := kf_mx_le (fun c => by
    unfold kf_va
    split
    · exact (kf_f_le (W := W) (V := V) (d := kf_dc c) (fun i => Nat.mod_lt _ (by decide)) hW hV n).2.2
    · exact Nat.zero_le _)
  intro d
  induction d with
  | zero =>
    intro c k hc hk
    cases k with
    | zero => omega
    | succ k =>
      rw [show c = e by omega]
      exact br_t (nI_le (Nat.le_refl _) (by omega)) h
  | succ d ih =>
    intro c k hc hk
    cases k with
    | zero => omega
    | succ k =>
      have hm := hB c
      have hf := (kf_f_le (W := W) (V := V) (d := kf_dc c) (fun i => Nat.mod_lt _ (by decide)) hW hV n).2.2
      have nx := ih (c + 1) k (by omega) (by omega)
      have nx' : wY_two_40 post (nI o) (nI e) (nI n) (nI L) hv wo (kf_a W) (kf_a V) (kf_a S) (kf_a F) tk k (nI (if kf_mx (kf_va W V S n L o) c < kf_va W V S n L o c then kf_va W V S n L o c else kf_mx (kf_va W V S n L o) c)) (nI (c + 1)) := nx
      refine br_f (nI_ge (by omega) (by omega)) ?_
      refine kf_bothY hn hL hW hV hS ho (by omega) (fun a1 a2 a3 => ?_) (fun a => ?_)
      · rw [show kf_va W V S n L o c = kf_fv V (kf_dc c) n from if_pos ⟨a1, a2, a3⟩] at nx'
        refine ek_if (d := kf_fv V (kf_dc c) n ≤ kf_mx (kf_va W V S n L o) c) (nI_leI (by omega) (by omega)) (fun q => nm_r (nI_1 c) ?_) (fun q => nm_r (nI_1 c) ?_)
        · rw [if_neg (by omega)] at nx'; exact nx'
        · rw [if_pos (by omega)] at nx'; exact nx'
      · rw [show kf_va W V S n L o c = 0 from if_neg a, if_neg (Nat.not_lt_zero _)] at nx'
        exact br_t (Int32.le_trans (by decide) (nI_pos' (by omega))) (nm_r (nI_1 c) nx')
theorem kf_yte {post : Int32 → Prop} (hn : n ≤ 7) (hL : L ≤ 60) (hW : ∀ i, W i ≤ 20) (hV : ∀ i, V i ≤ 50) (hS : ∀ i, S i ≤ 2) {o : Nat} (ho : o ≤ 60) (h : post (nI (kf_R W V S n L o))) : ∀ d i k, i + d = n → d < k → wY_two_16 post (nI o) (nI n) (nI L) hv wo (kf_a W) (kf_a V) (kf_a S) (kf_a F) tk k (nI (6 ^ i)) (nI i) := by
  intro d
  induction d with
  | zero =>
    intro i k hi hk
    cases k with
    | zero => omega
    | succ k =>
      have hi : i = n := by omega
      rw [hi]
      rw [← kf_two hS n L o] at h
      exact br_t (nI_le (Nat.le_refl _) (by omega)) ⟨6 ^ n + 1, kf_ytw hn hL hW hV hS ho (kf_p6 hn) h (6 ^ n) 0 _ (Nat.zero_add _) (Nat.lt_succ_self _)⟩
  | succ d ih =>
    intro i k hi hk
    cases k with
    | zero => omega
    | succ k =>
      refine br_f (nI_ge (by omega) (by omega)) (nm_r (e' := nI (6 ^ (i + 1))) ?_ (nm_r (nI_1 i) (ih (i + 1) k (by omega) (by omega))))
      rw [Nat.pow_succ, Nat.mul_comm]; exact pk_mul 6 (6 ^ i)
theorem kf_twoY {post : Int32 → Prop} (hn : n ≤ 7) (hL : L ≤ 60) (hW : ∀ i, W i ≤ 20) (hV : ∀ i, V i ≤ 50) (hS : ∀ i, S i ≤ 2) {o : Nat} (ho : o ≤ 60) (h : post (nI (kf_R W V S n L o))) : wpY_two post (nI n, nI L, hv, wo, kf_a W, kf_a V, kf_a S, kf_a F, tk) (nI o) :=
  br_f (nI_pos (by omega)) (br_t (nI_le (b := 60) ho (by decide)) ⟨n + 1, kf_yte hn hL hW hV hS ho h n 0 (n + 1) (by omega) (by omega)⟩)
end
