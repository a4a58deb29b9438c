section
variable {n L : Nat} {W V S F : Nat → Nat} {bp : Nat → Int32} {hv wo : Int32} {tk : Nat → Int32}
/-- what holds of the goods and of the limit -/
def kf_G (n L : Nat) (W V S F : Nat → Nat) : Prop := n ≤ 7 ∧ L ≤ 60 ∧ (∀ i, W i ≤ 20) ∧ (∀ i, V i ≤ 50) ∧ (∀ i, S i ≤ 2) ∧ (∀ i, F i ≤ 3)
def kf_u (A : Nat → Nat) (k x : Nat) : Nat → Nat := fun j => if j = k then x else A j
theorem kf_upd (A : Nat → Nat) (k x : Nat) : upd (kf_a A) k (nI x) = kf_a (kf_u A k x) := by
  funext j
  show (if j = k then nI x else nI (A j)) = nI (if j = k then x else A j)
  split <;> rfl
theorem kf_u_le {A : Nat → Nat} {k x B : Nat} (hA : ∀ i, A i ≤ B) (hx : x ≤ B) : ∀ i, kf_u A k x i ≤ B := by
  intro i
  unfold kf_u
  split
  · exact hx
  · exact hA i
theorem kf_Gu {k w v s f m : Nat} (G : kf_G n L W V S F) (hm : m ≤ 7) (hw : w ≤ 20) (hv : v ≤ 50) (hs : s ≤ 2) (hf : f ≤ 3) : kf_G m L (kf_u W k w) (kf_u V k v) (kf_u S k s) (kf_u F k f) :=
  ⟨hm, G.2.1, kf_u_le G.2.2.1 hw, kf_u_le G.2.2.2.1 hv, kf_u_le G.2.2.2.2.1 hs, kf_u_le G.2.2.2.2.2 hf⟩
theorem kf_putX {post : SX → Prop} (hn : n < 7) {w v s f : Nat} (h : post (nI (n + 1), nI L, kf_a (kf_u W n w), kf_a (kf_u V n v), kf_a (kf_u S n s), kf_a (kf_u F n f), bp)) : wpX_putIn post (nI n, nI L, kf_a W, kf_a V, kf_a S, kf_a F, bp) (nI w) (nI v) (nI s) (nI f) := by
  have hin : vp_in (nI n) 7 := vp_in_nI hn (by decide)
  have hcl : (nI n).toNatClampNeg = n := nI_clamp (by omega)
  refine br_t (nI_lt (b := 7) hn (by decide)) ⟨hin, nm_r (e' := kf_a (kf_u W n w)) ?_ ⟨hin, nm_r (e' := kf_a (kf_u V n v)) ?_ ⟨hin, nm_r (e' := kf_a (kf_u S n s)) ?_ ⟨hin, nm_r (e' := kf_a (kf_u F n f)) ?_ (nm_r (nI_1 n) h)⟩⟩⟩⟩
  · rw [hcl]; exact kf_upd W n w
  · rw [hcl]; exact kf_upd V n v
  · rw [hcl]; exact kf_upd S n s
  · rw [hcl]; exact kf_upd F n f
theorem kf_putX7 {post : SX → Prop} (hn : n ≤ 7) (h7 : ¬ n < 7) {a b c d : Int32} (h : post (nI n, nI L, kf_a W, kf_a V, kf_a S, kf_a F, bp)) : wpX_putIn post (nI n, nI L, kf_a W, kf_a V, kf_a S, kf_a F, bp) a b c d :=
  br_f (nI_nlt (b := 7) (by omega) (by omega)) h
theorem kf_putY {post : Int32 → SY → Prop} (hn : n < 7) {w v s f : Nat} (h : post (nI n) (nI (n + 1), nI L, hv, wo, kf_a (kf_u W n w), kf_a (kf_u V n v), kf_a (kf_u S n s), kf_a (kf_u F n f), tk)) : wpY_put post (nI n, nI L, hv, wo, kf_a W, kf_a V, kf_a S, kf_a F, tk) (nI w) (nI v) (nI s) (nI f) := by
  have hin : vp_in (nI n) 7 := vp_in_nI hn (by decide)
  have hcl : (nI n).toNatClampNeg = n := nI_clamp (by omega)
  refine br_t (nI_le (b := 6) (by omega) (by decide)) ⟨hin, nm_r (e' := kf_a (kf_u W n w)) ?_ ⟨hin, nm_r (e' := kf_a (kf_u V n v)) ?_ ⟨hin, nm_r (e' := kf_a (kf_u S n s)) ?_ ⟨hin, nm_r (e' := kf_a (kf_u F n f)) ?_ (nm_r (nI_1 n) h)⟩⟩⟩⟩
  · rw [hcl]; exact kf_upd W n w
  · rw [hcl]; exact kf_upd V n v
  · rw [hcl]; exact kf_upd S n s
  · rw [hcl]; exact kf_upd F n f
theorem kf_putY7 {post : Int32 → SY → Prop} (hn : n ≤ 7) (h7 : ¬ n < 7) {a b c d : Int32} (h : post (-4) (nI n, nI L, hv, wo, kf_a W, kf_a V, kf_a S, kf_a F, tk)) : wpY_put post (nI n, nI L, hv, wo, kf_a W, kf_a V, kf_a S, kf_a F, tk) a b c d :=
  br_f (nI_ge (a := 6) (by omega) (by omega)) h
theorem kf_s1 {a q : Nat} (ha : a ≤ 100) (hq : q ≤ 7) : 1 + ((nI a + (5 * nI q)) - (nI a + (5 * nI q)) / 20 * 20) = nI (1 + (a + 5 * q) % 20) := by
  rw [show (5 : Int32) * nI q = nI (5 * q) from pk_mul 5 q, nI_add, show nI (a + 5 * q) - nI (a + 5 * q) / 20 * 20 = nI ((a + 5 * q) % 20) from pk_rem (d := 20) (by omega) (by decide) (by decide)]
  exact nI_add 1 _
theorem kf_s2 {a q : Nat} (ha : a ≤ 100) (hq : q ≤ 7) : ((nI a * 3) + ((7 * nI q) * nI q)) - ((nI a * 3) + ((7 * nI q) * nI q)) / 51 * 51 = nI ((a * 3 + 7 * q * q) % 51) := by
  have h : 7 * q * q ≤ 7 * 7 * 7 := Nat.mul_le_mul (Nat.mul_le_mul_left 7 hq) hq
  rw [show nI a * 3 = nI (a * 3) from pk_mul a 3, show (7 : Int32) * nI q = nI (7 * q) from pk_mul 7 q, pk_mul, nI_add]
  exact pk_rem (d := 51) (by omega) (by decide) (by decide)
theorem kf_s3 {a q : Nat} (ha : a ≤ 100) (hq : q ≤ 7) : 1 + ((nI a + nI q) - (nI a + nI q) / 2 * 2) = nI (1 + (a + q) % 2) := by
  rw [nI_add, show nI (a + q) - nI (a + q) / 2 * 2 = nI ((a + q) % 2) from pk_rem (d := 2) (by omega) (by decide) (by decide)]
  exact nI_add 1 _
theorem kf_s4 {a q : Nat} (ha : a ≤ 100) (hq : q ≤ 7) : (nI a + (nI q * nI q)) - (nI a + (nI q * nI q)) / 4 * 4 = nI ((a + q * q) % 4) := by
  have h : q * q ≤ 7 * 7 := Nat.mul_le_mul hq hq
  rw [pk_mul, nI_add]
  exact pk_rem (d := 4) (by omega) (by decide) (by decide)
theorem kf_sow {a m : Nat} (ha : a ≤ 100) (hm : m ≤ 7) : ∀ d q n W V S F, q + d = m → kf_G n L W V S F → ∃ n' W' V' S' F', kf_G n' L W' V' S' F' ∧
    (∀ (post : Int32 → SX → Prop) bp k, d < k → post (nI n') (nI n', nI L, kf_a W', kf_a V', kf_a S', kf_a F', bp) → wX_sow_28 post (nI a) (nI m) k (nI q) (nI n) (nI L) (kf_a W) (kf_a V) (kf_a S) (kf_a F) bp) ∧
    (∀ (post : Int32 → SY → Prop) hv wo tk k, d < k → post (nI n') (nI n', nI L, hv, wo, kf_a W', kf_a V', kf_a S', kf_a F', tk) → wY_sow_28 post (nI a) (nI m) k (nI q) (nI n) (nI L) hv wo (kf_a W) (kf_a V) (kf_a S) (kf_a F) tk) := by
  intro d
  induction d with
  | zero =>
    intro q n W V S F hq G
    refine ⟨n, W, V, S, F, G, fun post bp k hk h => ?_, fun post hv wo tk k hk h => ?_⟩
    · cases k with
      | zero => omega
      | succ k => exact br_t (nI_le (by omega) (by omega)) h
    · cases k with
      | zero => omega
      | succ k => exact br_t (nI_le (by omega) (by omega)) h
  | succ d ih =>
    intro q n W V S F hq G
    have hq7 : q ≤ 7 := by omega
    by_cases hn : n < 7
    · obtain ⟨n', W', V', S', F', G', hX, hY⟩ := ih (q + 1) (n + 1) (kf_u W n (1 + (a + 5 * q) % 20)) (kf_u V n ((a * 3 + 7 * q * q) % 51)) (kf_u S n (1 + (a + q) % 2)) (kf_u F n ((a + q * q) % 4)) (by omega) (kf_Gu G (by omega) (by omega) (by omega) (by omega) (by omega))
      refine ⟨n', W', V', S', F', G', fun post bp k hk h => ?_, fun post hv wo tk k hk h => ?_⟩
      · cases k with
        | zero => omega
        | succ k =>
          exact br_f (nI_ge (by omega) (by omega)) ⟨by decide, nm_r (kf_s1 ha hq7) ⟨by decide, nm_r (kf_s2 ha hq7) ⟨by decide, nm_r (kf_s3 ha hq7) ⟨by decide, nm_r (kf_s4 ha hq7) (kf_putX hn (nm_r (nI_1 q) (hX post bp k (by omega) h)))⟩⟩⟩⟩
      · cases k with
        | zero => omega
        | succ k =>
          refine br_f (nI_ge (by omega) (by omega)) ⟨by decide, by decide, by decide, by decide, ?_⟩
          rw [kf_s1 ha hq7, kf_s2 ha hq7, kf_s3 ha hq7, kf_s4 ha hq7]
          exact kf_putY hn (nm_r (nI_1 q) (hY post hv wo tk k (by omega) h))
    · obtain ⟨n', W', V', S', F', G', hX, hY⟩ := ih (q + 1) n W V S F (by omega) G
      refine ⟨n', W', V', S', F', G', fun post bp k hk h => ?_, fun post hv wo tk k hk h => ?_⟩
      · cases k with
        | zero => omega
        | succ k =>
          exact br_f (nI_ge (by omega) (by omega)) ⟨by decide, nm_e ⟨by decide, nm_e ⟨by decide, nm_e ⟨by decide, nm_e (kf_putX7 G.1 hn (nm_r (nI_1 q) (hX post bp k (by omega) h)))⟩⟩⟩⟩
      · cases k with
        | zero => omega
        | succ k =>
          refine br_f (nI_ge (by omega) (by omega)) ⟨by decide, by decide, by decide, by decide, ?_⟩
          exact kf_putY7 G.1 hn (nm_r (nI_1 q) (hY post hv wo tk k (by omega) h))
theorem kf_shift (A : Nat → Nat) {i : Nat} (h : i < 7) : upd (kf_a A) (nI i).toNatClampNeg (kf_a A (nI i + 1).toNatClampNeg) = kf_a (kf_u A i (A (i + 1))) := by
  rw [nI_1, nI_clamp (by omega), nI_clamp (by omega)]
  exact kf_upd A i (A (i + 1))
theorem kf_drop {m : Nat} (hm : m < 7) : ∀ d i W V S F, i + d = m → kf_G (m + 1) L W V S F → ∃ W' V' S' F', kf_G m L W' V' S' F' ∧
    (∀ (post : Int32 → SX → Prop) bp k, d < k → post (nI m) (nI m, nI L, kf_a W', kf_a V', kf_a S', kf_a F', bp) → wX_drop_12 post (nI (m + 1)) (nI L) k (nI i) (kf_a W) (kf_a V) (kf_a S) (kf_a F) bp) ∧
    (∀ (post : Int32 → SY → Prop) hv wo tk k, d < k → post (nI m) (nI m, nI L, hv, wo, kf_a W', kf_a V', kf_a S', kf_a F', tk) → wY_drop_12 post (nI (m + 1)) (nI L) hv wo k (nI i) (kf_a W) (kf_a V) (kf_a S) (kf_a F) tk) := by
  intro d
  induction d with
  | zero =>
    intro i W V S F hi G
    refine ⟨W, V, S, F, ⟨by omega, G.2⟩, fun post bp k hk h => ?_, fun post hv wo tk k hk h => ?_⟩
    · cases k with
      | zero => omega
      | succ k =>
        refine br_t ?_ (nm_r (nI_pred m) h)
        rw [nI_1]; exact nI_le (by omega) (by omega)
    · cases k with
      | zero => omega
      | succ k =>
        refine br_t ?_ (nm_r (nI_pred m) h)
        rw [nI_pred]; exact nI_le (by omega) (by omega)
  | succ d ih =>
    intro i W V S F hi G
    obtain ⟨W', V', S', F', G', hX, hY⟩ := ih (i + 1) (kf_u W i (W (i + 1))) (kf_u V i (V (i + 1))) (kf_u S i (S (i + 1))) (kf_u F i (F (i + 1))) (by omega) (kf_Gu G G.1 (G.2.2.1 _) (G.2.2.2.1 _) (G.2.2.2.2.1 _) (G.2.2.2.2.2 _))
    have hin : vp_in (nI i) 7 := vp_in_nI (by omega) (by decide)
    have hin1 : vp_in (nI i + 1) 7 := by rw [nI_1]; exact vp_in_nI (by omega) (by decide)
    have h7 : i < 7 := by omega
    refine ⟨W', V', S', F', G', fun post bp k hk h => ?_, fun post hv wo tk k hk h => ?_⟩
    · cases k with
      | zero => omega
      | succ k =>
        refine br_f ?_ ⟨hin1, hin, nm_r (kf_shift W h7) ⟨hin1, hin, nm_r (kf_shift V h7) ⟨hin1, hin, nm_r (kf_shift S h7) ⟨hin1, hin, nm_r (kf_shift F h7) (nm_r (nI_1 i) (hX post bp k (by omega) h))⟩⟩⟩⟩
        rw [nI_1]; exact nI_ge (by omega) (by omega)
    · cases k with
      | zero => omega
      | succ k =>
        refine br_f ?_ (br_f (nI_ge (b := 6) (by omega) (by decide)) ⟨hin1, hin, nm_r (kf_shift W h7) ⟨hin1, hin, nm_r (kf_shift V h7) ⟨hin1, hin, nm_r (kf_shift S h7) ⟨hin1, hin, nm_r (kf_shift F h7) (nm_r (nI_1 i) (hY post hv wo tk k (by omega) h))⟩⟩⟩⟩)
        rw [nI_pred]; exact nI_ge (by omega) (by omega)
theorem kf_gX0 {post : Int32 → Prop} {x : Int32} (h : x < 0 ∨ nI n ≤ x) (hp : post 0) : wpX_isGood post (nI n, nI L, kf_a W, kf_a V, kf_a S, kf_a F, bp) x := by
  by_cases h0 : x < 0
  · exact br_t h0 hp
  · exact br_f h0 (br_t (h.resolve_left h0) hp)
theorem kf_gX1 {post : Int32 → Prop} {j : Nat} (hn : n ≤ 7) (hj : j < n) (hp : post 1) : wpX_isGood post (nI n, nI L, kf_a W, kf_a V, kf_a S, kf_a F, bp) (nI j) :=
  br_f (nI_pos (by omega)) (br_f (nI_ge hj (by omega)) hp)
theorem kf_gY1 {post : Int32 → Prop} {x : Int32} (h : x < 0 ∨ nI n ≤ x) (hp : post 1) : wpY_bad post (nI n, nI L, hv, wo, kf_a W, kf_a V, kf_a S, kf_a F, tk) x := by
  by_cases h0 : x < 0
  · exact br_t h0 hp
  · exact br_f h0 (br_t (h.resolve_left h0) hp)
theorem kf_gY0 {post : Int32 → Prop} {j : Nat} (hn : n ≤ 7) (hj : j < n) (hp : post 0) : wpY_bad post (nI n, nI L, hv, wo, kf_a W, kf_a V, kf_a S, kf_a F, tk) (nI j) :=
  br_f (nI_pos (by omega)) (br_f (nI_ge hj (by omega)) (br_t (nI_le (b := 6) (by omega) (by decide)) hp))
end
