section
theorem pk_us {f : Nat → Int32} {k : Nat} {x : Int32} : upd f k x k = x := if_pos rfl
theorem pk_un {f : Nat → Int32} {k j : Nat} {x : Int32} (h : j ≠ k) : upd f k x j = f j := if_neg h
theorem pk_sub {a b : Nat} (h : b ≤ a) : nI a - nI b = nI (a - b) := by
  obtain ⟨c, rfl⟩ : ∃ c, a = c + b := ⟨a - b, by omega⟩
  rw [← nI_add, Int32.add_sub_cancel, Nat.add_sub_cancel]
theorem pk_mul (a b : Nat) : nI a * nI b = nI (a * b) := (Int32.ofNat_mul a b).symm
theorem pk_div {a d : Nat} (ha : a < 2 ^ 31) (h0 : 0 < d) (hd : d < 2 ^ 31) : nI a / nI d = nI (a / d) := by
  apply Int32.toInt_inj.mp
  rw [lg_idiv_nonneg (by rw [nI_toInt ha]; omega) (by rw [nI_toInt hd]; omega), nI_toInt ha, nI_toInt hd, nI_toInt (Nat.lt_of_le_of_lt (Nat.div_le_self a d) ha)]
  first | rfl | exact (Int.natCast_ediv _ _).symm
theorem pk_rem {a d : Nat} (ha : a < 2 ^ 31) (h0 : 0 < d) (hd : d < 2 ^ 31) : nI a - nI a / nI d * nI d = nI (a % d) := by
  rw [pk_div ha h0 hd, pk_mul, pk_sub (Nat.div_mul_le_self a d)]
  exact congrArg nI (by have := Nat.div_add_mod' a d; omega)
theorem pk_ix (x : Int32) {n : Nat} (hn : n < 2 ^ 31) : x < 0 ∨ nI n ≤ x ∨ ∃ j : Nat, j < n ∧ x = nI j := by
  by_cases h : x < 0
  · exact Or.inl h
  · obtain ⟨j, hj, rfl⟩ := nI_of h
    by_cases h2 : j < n
    · exact Or.inr (Or.inr ⟨j, h2, rfl⟩)
    · exact Or.inr (Or.inl (nI_le (by omega) hj))
theorem ek_if {c d A B : Prop} (e : c ↔ d) (f : d → A) (g : ¬ d → B) : (c → A) ∧ (¬ c → B) :=
  ⟨fun z => f (e.mp z), fun z => g (fun y => z (e.mpr y))⟩
end
section
/-- the sum over m goods of digit times A; the last good's digit is the last one of c -/
def kf_sd (A : Nat → Nat) : Nat → Nat → Nat
  | 0, _ => 0
  | m + 1, c => c % 3 * A m + kf_sd A m (c / 3)
/-- c is the code of a choice of m goods -/
def kf_oc (S : Nat → Nat) : Nat → Nat → Bool
  | 0, c => decide (c = 0)
  | m + 1, c => decide (c % 3 ≤ S m) && kf_oc S m (c / 3)
/-- the digit of good i -/
def kf_dg : Nat → Nat → Nat → Nat
  | 0, _, _ => 0
  | m + 1, c, i => if i = m then c % 3 else kf_dg m (c / 3) i
theorem kf_dg_m (m c : Nat) : kf_dg (m + 1) c m = c % 3 := by
  simp [kf_dg]
theorem kf_dg_lt {m c i : Nat} (h : i < m) : kf_dg (m + 1) c i = kf_dg m (c / 3) i := by
  have : i ≠ m := by omega
  simp [kf_dg, this]
theorem kf_sd_le {A : Nat → Nat} {B : Nat} (hA : ∀ i, A i ≤ B) : ∀ m c, kf_sd A m c ≤ 2 * B * m := by
  intro m
  induction m with
  | zero => intro c; exact Nat.le_refl 0
  | succ m ih =>
    intro c
    have h := ih (c / 3)
    have h3 : c % 3 ≤ 2 := by omega
    have h4 := Nat.mul_le_mul h3 (hA m)
    show c % 3 * A m + kf_sd A m (c / 3) ≤ 2 * B * (m + 1)
    rw [Nat.mul_add, Nat.mul_one]
    omega
theorem kf_sd_0 (A : Nat → Nat) : ∀ m, kf_sd A m 0 = 0 := by
  intro m
  induction m with
  | zero => rfl
  | succ m ih => show 0 % 3 * A m + kf_sd A m (0 / 3) = 0; simp [ih]
theorem kf_oc_0 (S : Nat → Nat) : ∀ m, kf_oc S m 0 = true := by
  intro m
  induction m with
  | zero => rfl
  | succ m ih => show (decide (0 % 3 ≤ S m) && kf_oc S m (0 / 3)) = true; simp [ih]
/-- of every family pieces of at most one good -/
def kf_st (F : Nat → Nat) (m c : Nat) : Prop := ∀ i j, j < i → i < m → 0 < kf_dg m c i → 0 < kf_dg m c j → F i = F j → False
/-- the component's scan: the families seen so far are the bits of k -/
def kf_ms (F : Nat → Nat) : Nat → Nat → Nat → Bool
  | 0, _, _ => true
  | m + 1, c, k => if 0 < c % 3 then (if k.testBit (F m) then false else kf_ms F m (c / 3) (k ||| 2 ^ F m)) else kf_ms F m (c / 3) k
theorem kf_ms_iff (F : Nat → Nat) : ∀ m c k, kf_ms F m c k = true ↔ ((∀ i, i < m → 0 < kf_dg m c i → k.testBit (F i) = false) ∧ kf_st F m c) := by
  intro m
  induction m with
  | zero =>
    intro c k
    exact ⟨fun _ => ⟨fun i hi => absurd hi (Nat.not_lt_zero i), fun i j _ hi => absurd hi (Nat.not_lt_zero i)⟩, fun _ => rfl⟩
  | succ m ih =>
    intro c k
    by_cases h : 0 < c % 3
    · by_cases hb : k.testBit (F m) = true
      · have e : kf_ms F (m + 1) c k = false := by simp [kf_ms, h, hb]
        rw [e]
        refine ⟨fun z => (nomatch z), fun z => ?_⟩
        have := z.1 m (Nat.lt_succ_self m) (by rw [kf_dg_m]; exact h)
        rw [hb] at this
        exact absurd this (by decide)
      · have e : kf_ms F (m + 1) c k = kf_ms F m (c / 3) (k ||| 2 ^ F m) := by simp [kf_ms, h, hb]
        have hb' : k.testBit (F m) = false := by simpa using hb
        rw [e, ih]
        constructor
        · intro z
          refine ⟨fun i hi hd => ?_, fun i j hj hi hdi hdj hF => ?_⟩
          · by_cases him : i = m
            · rw [him]; exact hb'
            · have hi' : i < m := by omega
              rw [kf_dg_lt hi'] at hd
              have := z.1 i hi' hd
              rw [Nat.testBit_or] at this
              simp only [Bool.or_eq_false_iff] at this
              exact this.1
          · by_cases him : i = m
            · have hj' : j < m := by omega
              rw [kf_dg_lt hj'] at hdj
              have := z.1 j hj' hdj
              rw [Nat.testBit_or] at this
              simp only [Bool.or_eq_false_iff, Nat.testBit_two_pow, decide_eq_false_iff_not] at this
              exact this.2 (him ▸ hF)
            · have hi' : i < m := by omega
              have hj' : j < m := by omega
              rw [kf_dg_lt hi'] at hdi
              rw [kf_dg_lt hj'] at hdj
              exact z.2 i j hj hi' hdi hdj hF
        · intro z
          refine ⟨fun i hi hd => ?_, fun i j hj hi hdi hdj hF => ?_⟩
          · have h1 := z.1 i (by omega) (by rw [kf_dg_lt hi]; exact hd)
            have h2 : ¬ F m = F i := fun hF => z.2 m i hi (Nat.lt_succ_self m) (by rw [kf_dg_m]; exact h) (by rw [kf_dg_lt hi]; exact hd) hF
            rw [Nat.testBit_or]
            simp only [Bool.or_eq_false_iff, Nat.testBit_two_pow, decide_eq_false_iff_not]
            exact ⟨h1, h2⟩
          · exact z.2 i j hj (by omega) (by rw [kf_dg_lt hi]; exact hdi) (by rw [kf_dg_lt (by omega : j < m)]; exact hdj) hF
    · have e : kf_ms F (m + 1) c k = kf_ms F m (c / 3) k := by simp [kf_ms, h]
      rw [e, ih]
      constructor
      · intro z
        refine ⟨fun i hi hd => ?_, fun i j hj hi hdi hdj hF => ?_⟩
        · by_cases him : i = m
          · rw [him, kf_dg_m] at hd; exact absurd hd h
          · have hi' : i < m := by omega
            rw [kf_dg_lt hi'] at hd
            exact z.1 i hi' hd
        · by_cases him : i = m
          · rw [him, kf_dg_m] at hdi; exact absurd hdi h
          · have hi' : i < m := by omega
            have hj' : j < m := by omega
            rw [kf_dg_lt hi'] at hdi
            rw [kf_dg_lt hj'] at hdj
            exact z.2 i j hj hi' hdi hdj hF
      · intro z
        exact ⟨fun i hi hd => z.1 i (by omega) (by rw [kf_dg_lt hi]; exact hd), fun i j hj hi hdi hdj hF => z.2 i j hj (by omega) (by rw [kf_dg_lt hi]; exact hdi) (by rw [kf_dg_lt (by omega : j < m)]; exact hdj) hF⟩
theorem kf_ms_st (F : Nat → Nat) (m c : Nat) : kf_ms F m c 0 = true ↔ kf_st F m c := by
  rw [kf_ms_iff]
  exact ⟨fun z => z.2, fun z => ⟨fun i _ _ => Nat.zero_testBit (F i), z⟩⟩
/-- a step for each number below i, from s on -/
def kf_it {σ : Type} (g : Nat → σ → σ) (s : σ) : Nat → σ
  | 0 => s
  | i + 1 => g i (kf_it g s i)
theorem kf_it_inv {σ : Type} {g : Nat → σ → σ} {s : σ} {P : σ → Prop} (h0 : P s) (hs : ∀ i t, P t → P (g i t)) : ∀ i, P (kf_it g s i) := by
  intro i
  induction i with
  | zero => exact h0
  | succ i ih => exact hs i _ ih
end
section
/-- one more piece, of weight w and value v: into the first sack, the second, or neither -/
def kf_op (w v : Nat) (f : Nat → Nat → Nat) (a b : Nat) : Nat :=
  if w ≤ b then
    (if (if w ≤ a then (if f a b < f (a - w) b + v then f (a - w) b + v else f a b) else f a b) < f a (b - w) + v
      then f a (b - w) + v
      else (if w ≤ a then (if f a b < f (a - w) b + v then f (a - w) b + v else f a b) else f a b))
  else (if w ≤ a then (if f a b < f (a - w) b + v then f (a - w) b + v else f a b) else f a b)
theorem kf_op_all (w v : Nat) (f : Nat → Nat → Nat) (a b : Nat) :
    f a b ≤ kf_op w v f a b ∧ (w ≤ a → f (a - w) b + v ≤ kf_op w v f a b) ∧ (w ≤ b → f a (b - w) + v ≤ kf_op w v f a b) ∧
    (kf_op w v f a b = f a b ∨ (w ≤ a ∧ kf_op w v f a b = f (a - w) b + v) ∨ (w ≤ b ∧ kf_op w v f a b = f a (b - w) + v)) := by
  have e1 : ∀ x y m : Nat, (m = if w ≤ a then (if x < y then y else x) else x) → x ≤ m ∧ (w ≤ a → y ≤ m) ∧ (m = x ∨ (w ≤ a ∧ m = y)) := by
    intro x y m hm
    by_cases h1 : w ≤ a
    · rw [if_pos h1] at hm
      by_cases h3 : x < y
      · rw [if_pos h3] at hm; exact ⟨by omega, fun _ => by omega, Or.inr ⟨h1, hm⟩⟩
      · rw [if_neg h3] at hm; exact ⟨by omega, fun _ => by omega, Or.inl hm⟩
    · rw [if_neg h1] at hm; exact ⟨by omega, fun q => absurd q h1, Or.inl hm⟩
  unfold kf_op
  generalize f a b = x
  generalize f (a - w) b + v = y
  generalize f a (b - w) + v = z
  obtain ⟨m, hm⟩ : ∃ m, m = (if w ≤ a then (if x < y then y else x) else x) := ⟨_, rfl⟩
  rw [← hm]
  obtain ⟨p1, p2, p3⟩ := e1 x y m hm
  by_cases h2 : w ≤ b
  · rw [if_pos h2]
    by_cases h4 : m < z
    · rw [if_pos h4]; exact ⟨by omega, fun q => Nat.le_trans (p2 q) (by omega), fun _ => Nat.le_refl _, Or.inr (Or.inr ⟨h2, rfl⟩)⟩
    · rw [if_neg h4]; exact ⟨p1, p2, fun _ => by omega, p3.elim Or.inl (fun q => Or.inr (Or.inl q))⟩
  · rw [if_neg h2]; exact ⟨p1, p2, fun q => absurd q h2, p3.elim Or.inl (fun q => Or.inr (Or.inl q))⟩
/-- s pieces alike -/
def kf_ops (w v : Nat) (f : Nat → Nat → Nat) : Nat → Nat → Nat → Nat
  | 0 => f
  | s + 1 => kf_op w v (kf_ops w v f s)
theorem kf_ops_ge (w v : Nat) (f : Nat → Nat → Nat) : ∀ s p q a b, p + q ≤ s → p * w ≤ a → q * w ≤ b → f (a - p * w) (b - q * w) + (p + q) * v ≤ kf_ops w v f s a b := by
  intro s
  induction s with
  | zero =>
    intro p q a b h _ _
    have hp : p = 0 := by omega
    have hq : q = 0 := by omega
    subst hp; subst hq
    simp [kf_ops]
  | succ s ih =>
    intro p q a b h ha hb
    obtain ⟨o0, o1, o2, -⟩ := kf_op_all w v (kf_ops w v f s) a b
    show _ ≤ kf_op w v (kf_ops w v f s) a b
    by_cases hs : p + q ≤ s
    · exact Nat.le_trans (ih p q a b hs ha hb) o0
    · cases p with
      | succ p =>
        rw [Nat.succ_mul] at ha
        have h1 := ih p q (a - w) b (by omega) (by omega) hb
        have h2 := o1 (by omega)
        have e1 : a - (p + 1) * w = a - w - p * w := by rw [Nat.succ_mul]; omega
        have e2 : (p + 1 + q) * v = (p + q) * v + v := by rw [show p + 1 + q = p + q + 1 by omega, Nat.add_mul (p + q) 1 v, Nat.one_mul]
        rw [e1, e2]
        omega
      | zero =>
        cases q with
        | zero => omega
        | succ q =>
          rw [Nat.succ_mul] at hb
          have h1 := ih 0 q a (b - w) (by omega) ha (by omega)
          have h2 := o2 (by omega)
          have e1 : b - (q + 1) * w = b - w - q * w := by rw [Nat.succ_mul]; omega
          have e2 : (0 + (q + 1)) * v = (0 + q) * v + v := by rw [show 0 + (q + 1) = 0 + q + 1 by omega, Nat.add_mul (0 + q) 1 v, Nat.one_mul]
          rw [e1, e2]
          omega
theorem kf_ops_at (w v : Nat) (f : Nat → Nat → Nat) : ∀ s a b, ∃ p q, p + q ≤ s ∧ p * w ≤ a ∧ q * w ≤ b ∧ kf_ops w v f s a b = f (a - p * w) (b - q * w) + (p + q) * v := by
  intro s
  induction s with
  | zero =>
    intro a b
    exact ⟨0, 0, by omega, by omega, by omega, by simp [kf_ops]⟩
  | succ s ih =>
    intro a b
    obtain ⟨-, -, -, o⟩ := kf_op_all w v (kf_ops w v f s) a b
    rcases o with o | ⟨hw, o⟩ | ⟨hw, o⟩
    · obtain ⟨p, q, h, ha, hb, e⟩ := ih a b
      exact ⟨p, q, by omega, ha, hb, o.trans e⟩
    · obtain ⟨p, q, h, ha, hb, e⟩ := ih (a - w) b
      have e1 : a - (p + 1) * w = a - w - p * w := by rw [Nat.succ_mul]; omega
      have e2 : (p + 1 + q) * v = (p + q) * v + v := by rw [show p + 1 + q = p + q + 1 by omega, Nat.add_mul (p + q) 1 v, Nat.one_mul]
      refine ⟨p + 1, q, by omega, by rw [Nat.succ_mul]; omega, hb, o.trans ?_⟩
      rw [e, e1, e2, Nat.add_assoc]
    · obtain ⟨p, q, h, ha, hb, e⟩ := ih a (b - w)
      have e1 : b - (q + 1) * w = b - w - q * w := by rw [Nat.succ_mul]; omega
      have e2 : (p + (q + 1)) * v = (p + q) * v + v := by rw [show p + (q + 1) = p + q + 1 by omega, Nat.add_mul (p + q) 1 v, Nat.one_mul]
      refine ⟨p, q + 1, by omega, ha, by rw [Nat.succ_mul]; omega, o.trans ?_⟩
      rw [e, e1, e2, Nat.add_assoc]
theorem kf_ops_le {w v B : Nat} {f : Nat → Nat → Nat} (hf : ∀ a b, f a b ≤ B) (s a b : Nat) : kf_ops w v f s a b ≤ B + s * v := by
  obtain ⟨p, q, h, -, -, e⟩ := kf_ops_at w v f s a b
  have h1 := hf (a - p * w) (b - q * w)
  have h2 := Nat.mul_le_mul_right v h
  omega
/-- the greatest value of two choices from the first i goods within the limits a and b -/
def kf_R (W V S : Nat → Nat) : Nat → Nat → Nat → Nat
  | 0 => fun _ _ => 0
  | i + 1 => kf_ops (W i) (V i) (kf_R W V S i) (S i)
theorem kf_R_le {W V S : Nat → Nat} (hV : ∀ i, V i ≤ 50) (hS : ∀ i, S i ≤ 2) : ∀ i a b, kf_R W V S i a b ≤ 100 * i := by
  intro i
  induction i with
  | zero => intro a b; exact Nat.le_refl 0
  | succ i ih =>
    intro a b
    have h := kf_ops_le (w := W i) (v := V i) ih (S i) a b
    have h2 := Nat.mul_le_mul (hS i) (hV i)
    show kf_ops (W i) (V i) (kf_R W V S i) (S i) a b ≤ 100 * (i + 1)
    omega
/-- what the reference's digit x gives to the first and to the second -/
def kf_da (x : Nat) : Nat := if x < 3 then 0 else if x < 5 then 1 else 2
def kf_db (x : Nat) : Nat := if x < 3 then x else if x < 5 then x - 3 else 0
def kf_f1 (W d : Nat → Nat) : Nat → Nat
  | 0 => 0
  | i + 1 => kf_f1 W d i + kf_da (d i) * W i
def kf_f2 (W d : Nat → Nat) : Nat → Nat
  | 0 => 0
  | i + 1 => kf_f2 W d i + kf_db (d i) * W i
def kf_fv (V d : Nat → Nat) : Nat → Nat
  | 0 => 0
  | i + 1 => kf_fv V d i + (kf_da (d i) + kf_db (d i)) * V i
def kf_ok (S d : Nat → Nat) : Nat → Bool
  | 0 => true
  | i + 1 => kf_ok S d i && decide (kf_da (d i) + kf_db (d i) ≤ S i)
def kf_dc (c : Nat) : Nat → Nat := fun i => c / 6 ^ i % 6
theorem kf_R_ge {W V S d : Nat → Nat} : ∀ i, kf_ok S d i = true → ∀ a b, kf_f1 W d i ≤ a → kf_f2 W d i ≤ b → kf_fv V d i ≤ kf_R W V S i a b := by
  intro i
  induction i with
  | zero => intro _ a b _ _; exact Nat.le_refl 0
  | succ i ih =>
    intro ho a b ha hb
    have ho' : kf_ok S d i = true ∧ kf_da (d i) + kf_db (d i) ≤ S i := by
      have : (kf_ok S d i && decide (kf_da (d i) + kf_db (d i) ≤ S i)) = true := ho
      simpa using this
    have ha' : kf_f1 W d i + kf_da (d i) * W i ≤ a := ha
    have hb' : kf_f2 W d i + kf_db (d i) * W i ≤ b := hb
    have h1 := ih ho'.1 (a - kf_da (d i) * W i) (b - kf_db (d i) * W i) (by omega) (by omega)
    have h2 := kf_ops_ge (W i) (V i) (kf_R W V S i) (S i) (kf_da (d i)) (kf_db (d i)) a b ho'.2 (by omega) (by omega)
    show kf_fv V d i + (kf_da (d i) + kf_db (d i)) * V i ≤ kf_ops (W i) (V i) (kf_R W V S i) (S i) a b
    omega
theorem kf_enc : ∀ p q, p + q ≤ 2 → ∃ x, x < 6 ∧ kf_da x = p ∧ kf_db x = q := by
  intro p q h
  have hp : p = 0 ∨ p = 1 ∨ p = 2 := by omega
  have hq : q = 0 ∨ q = 1 ∨ q = 2 := by omega
  rcases hp with rfl | rfl | rfl <;> rcases hq with rfl | rfl | rfl
  · exact ⟨0, by decide, by decide, by decide⟩
  · exact ⟨1, by decide, by decide, by decide⟩
  · exact ⟨2, by decide, by decide, by decide⟩
  · exact ⟨3, by decide, by decide, by decide⟩
  · exact ⟨4, by decide, by decide, by decide⟩
  · omega
  · exact ⟨5, by decide, by decide, by decide⟩
  · omega
  · omega
theorem kf_cg {W V S d e : Nat → Nat} : ∀ i, (∀ j, j < i → d j = e j) → kf_f1 W d i = kf_f1 W e i ∧ kf_f2 W d i = kf_f2 W e i ∧ kf_fv V d i = kf_fv V e i ∧ kf_ok S d i = kf_ok S e i := by
  intro i
  induction i with
  | zero => intro _; exact ⟨rfl, rfl, rfl, rfl⟩
  | succ i ih =>
    intro h
    obtain ⟨h1, h2, h3, h4⟩ := ih (fun j hj => h j (by omega))
    have hi := h i (Nat.lt_succ_self i)
    simp only [kf_f1, kf_f2, kf_fv, kf_ok, h1, h2, h3, h4, hi, and_self]
theorem kf_dc_lo {c x i j : Nat} (h : j < i) : kf_dc (c + x * 6 ^ i) j = kf_dc c j := by
  have e : x * 6 ^ i = 6 ^ j * (6 * (x * 6 ^ (i - j - 1))) := by
    have : i = j + (1 + (i - j - 1)) := by omega
    rw [this, Nat.pow_add, Nat.pow_add, Nat.pow_one]
    have t : j + (1 + (i - j - 1)) - j - 1 = i - j - 1 := by omega
    rw [t]
    simp only [Nat.mul_comm, Nat.mul_left_comm, Nat.mul_assoc]
  show (c + x * 6 ^ i) / 6 ^ j % 6 = c / 6 ^ j % 6
  rw [e, Nat.add_mul_div_left _ _ (Nat.pow_pos (by decide : 0 < 6)), Nat.add_mul_mod_self_left]
theorem kf_dc_hi {c x i : Nat} (hc : c < 6 ^ i) (hx : x < 6) : kf_dc (c + x * 6 ^ i) i = x := by
  show (c + x * 6 ^ i) / 6 ^ i % 6 = x
  rw [Nat.add_mul_div_right _ _ (Nat.pow_pos (by decide : 0 < 6)), Nat.div_eq_of_lt hc, Nat.zero_add]
  exact Nat.mod_eq_of_lt hx
theorem kf_R_at {W V S : Nat → Nat} (hS : ∀ i, S i ≤ 2) : ∀ i a b, ∃ c, c < 6 ^ i ∧ kf_ok S (kf_dc c) i = true ∧ kf_f1 W (kf_dc c) i ≤ a ∧ kf_f2 W (kf_dc c) i ≤ b ∧ kf_fv V (kf_dc c) i = kf_R W V S i a b := by
  intro i
  induction i with
  | zero => intro a b; exact ⟨0, by decide, rfl, Nat.zero_le a, Nat.zero_le b, rfl⟩
  | succ i ih =>
    intro a b
    obtain ⟨p, q, h, ha, hb, e⟩ := kf_ops_at (W i) (V i) (kf_R W V S i) (S i) a b
    obtain ⟨c, hc, ho, h1, h2, h3⟩ := ih (a - p * W i) (b - q * W i)
    obtain ⟨x, hx, hp, hq⟩ := kf_enc p q (Nat.le_trans h (hS i))
    obtain ⟨g1, g2, g3, g4⟩ := kf_cg (W := W) (V := V) (S := S) (d := kf_dc (c + x * 6 ^ i)) (e := kf_dc c) i (fun j hj => kf_dc_lo (c := c) (x := x) hj)
    have gi := kf_dc_hi hc hx
    refine ⟨c + x * 6 ^ i, ?_, ?_, ?_, ?_, ?_⟩
    · have h5 : x * 6 ^ i ≤ 5 * 6 ^ i := Nat.mul_le_mul_right _ (by omega)
      rw [Nat.pow_succ]
      omega
    · show (kf_ok S _ i && decide (kf_da (kf_dc (c + x * 6 ^ i) i) + kf_db (kf_dc (c + x * 6 ^ i) i) ≤ S i)) = true
      rw [g4, gi, ho, hp, hq]
      simpa using h
    · show kf_f1 W _ i + kf_da (kf_dc (c + x * 6 ^ i) i) * W i ≤ a
      rw [g1, gi, hp]; omega
    · show kf_f2 W _ i + kf_db (kf_dc (c + x * 6 ^ i) i) * W i ≤ b
      rw [g2, gi, hq]; omega
    · show kf_fv V _ i + (kf_da (kf_dc (c + x * 6 ^ i) i) + kf_db (kf_dc (c + x * 6 ^ i) i)) * V i = kf_ops (W i) (V i) (kf_R W V S i) (S i) a b
      rw [g3, gi, hp, hq, h3, e]
/-- the reference's value of a code: 0 where it refuses -/
def kf_va (W V S : Nat → Nat) (n L o c : Nat) : Nat :=
  if kf_ok S (kf_dc c) n = true ∧ kf_f1 W (kf_dc c) n ≤ L ∧ kf_f2 W (kf_dc c) n ≤ o then kf_fv V (kf_dc c) n else 0
def kf_mx (f : Nat → Nat) : Nat → Nat
  | 0 => 0
  | c + 1 => if kf_mx f c < f c then f c else kf_mx f c
theorem kf_mx_le {f : Nat → Nat} {B : Nat} (h : ∀ c, f c ≤ B) : ∀ e, kf_mx f e ≤ B := by
  intro e
  induction e with
  | zero => exact Nat.zero_le B
  | succ e ih =>
    show (if kf_mx f e < f e then f e else kf_mx f e) ≤ B
    split
    · exact h e
    · exact ih
theorem kf_mx_ge {f : Nat → Nat} : ∀ e c, c < e → f c ≤ kf_mx f e := by
  intro e
  induction e with
  | zero => intro c h; omega
  | succ e ih =>
    intro c h
    show f c ≤ (if kf_mx f e < f e then f e else kf_mx f e)
    by_cases hc : c = e
    · subst hc; split <;> omega
    · have := ih c (by omega)
      split <;> omega
theorem kf_two {W V S : Nat → Nat} (hS : ∀ i, S i ≤ 2) (n L o : Nat) : kf_mx (kf_va W V S n L o) (6 ^ n) = kf_R W V S n L o := by
  apply Nat.le_antisymm
  · refine kf_mx_le (fun c => ?_) _
    unfold kf_va
    split
    · rename_i h; exact kf_R_ge n h.1 L o h.2.1 h.2.2
    · exact Nat.zero_le _
  · obtain ⟨c, hc, ho, h1, h2, h3⟩ := kf_R_at (W := W) (V := V) hS n L o
    have h := kf_mx_ge (f := kf_va W V S n L o) (6 ^ n) c hc
    have e : kf_va W V S n L o c = kf_R W V S n L o := by
      unfold kf_va
      rw [if_pos ⟨ho, h1, h2⟩, h3]
    rw [e] at h
    exact h
end
section
section
variable {n L : Nat} {W V S F : Nat → Nat} {bp : Nat → Int32}
abbrev kf_a (A : Nat → Nat) : Nat → Int32 := fun i => nI (A i)
theorem kf_m1 (x : Int32) : x + (-1) = x - 1 := (Int32.sub_eq_add_neg x 1).symm
theorem kf_lo : nI 0 - 1 < 0 := by decide
theorem kf_e3 {c : Nat} (h : c < 2 ^ 31) : nI c - nI c / 3 * 3 = nI (c % 3) := pk_rem (d := 3) h (by decide) (by decide)
theorem kf_d3 {c : Nat} (h : c < 2 ^ 31) : nI c / 3 = nI (c / 3) := pk_div (d := 3) h (by decide) (by decide)
theorem kf_at (A : Nat → Nat) {m : Nat} (h : m < 2 ^ 31) : kf_a A (nI m).toNatClampNeg = nI (A m) := by rw [nI_clamp h]
theorem kf_ft {b : Bool} (h : b = false) : ¬ b = true := by rw [h]; decide
theorem kf_p3 {n : Nat} (h : n ≤ 7) : 3 ^ n ≤ 2187 := Nat.pow_le_pow_right (by decide) h
theorem kf_p6 {n : Nat} (h : n ≤ 7) : 6 ^ n ≤ 279936 := Nat.pow_le_pow_right (by decide) h
theorem kf_xc {post : Int32 → Prop} (hS : ∀ i, S i ≤ 2) : ∀ m c k, m ≤ 7 → c < 2 ^ 31 → m < k → (kf_oc S m c = true → post 1) → (kf_oc S m c = false → post 0) → wX_isChoice_15 post (nI n) (nI L) (kf_a W) (kf_a V) (kf_a S) (kf_a F) bp k (nI c) (nI m - 1) := by
  intro m
  induction m with
  | zero =>
    intro c k _ hc hk h1 h0
    cases k with
    | zero => omega
    | succ k =>
      exact br_t kf_lo (ek_if (d := c = 0) (nI_eq (b := 0) hc (by decide)) (fun h => h1 (by simp [kf_oc, h])) (fun h => h0 (by simp [kf_oc, h])))
  | succ m ih =>
    intro c k hm hc hk h1 h0
    cases k with
    | zero => omega
    | succ k =>
      rw [nI_pred]
      have hs := hS m
      refine br_f (nI_pos (by omega)) ⟨by decide, vp_in_nI (by omega) (by omega), ek_if (d := c % 3 ≤ S m) ?_ (fun h => ⟨by decide, nm_r (kf_d3 hc) (nm_r (kf_m1 _) (ih (c / 3) k (by omega) (by omega) (by omega) (fun e => h1 ?_) (fun e => h0 ?_)))⟩) (fun h => h0 ?_)⟩
      · rw [kf_e3 hc, kf_at S (by omega)]; exact nI_leI (by omega) (by omega)
      · simp [kf_oc, h, e]
      · simp [kf_oc, e]
      · simp [kf_oc, h]
theorem kf_isChoice {post : Int32 → Prop} (hn : n ≤ 7) (hS : ∀ i, S i ≤ 2) {c : Nat} (hc : c < 2 ^ 31) (h1 : kf_oc S n c = true → post 1) (h0 : kf_oc S n c = false → post 0) : wpX_isChoice post (nI n, nI L, kf_a W, kf_a V, kf_a S, kf_a F, bp) (nI c) :=
  br_t (nI_pos' hc) (nm_e ⟨n + 1, kf_xc hS n c (n + 1) hn hc (by omega) h1 h0⟩)
theorem kf_isChoiceN {post : Int32 → Prop} {x : Int32} (h : ¬ 0 ≤ x) (hp : post 0) : wpX_isChoice post (nI n, nI L, kf_a W, kf_a V, kf_a S, kf_a F, bp) x := br_f h hp
theorem kf_xsW {post : Int32 → Prop} : ∀ m c s k, m ≤ 7 → c < 2 ^ 31 → m < k → post (nI (s + kf_sd W m c)) → wX_sumOver__weights_13 post (nI n) (nI L) (kf_a W) (kf_a V) (kf_a S) (kf_a F) bp k (nI s) (nI c) (nI m - 1) := by
  intro m
  induction m with
  | zero =>
    intro c s k _ _ hk h
    cases k with
    | zero => omega
    | succ k => exact br_t kf_lo h
  | succ m ih =>
    intro c s k hm hc hk h
    cases k with
    | zero => omega
    | succ k =>
      rw [nI_pred]
      refine br_f (nI_pos (by omega)) ⟨by decide, vp_in_nI (by omega) (by omega), nm_r (e' := nI (s + c % 3 * W m)) ?_ ⟨by decide, nm_r (kf_d3 hc) (nm_r (kf_m1 _) (ih (c / 3) (s + c % 3 * W m) k (by omega) (by omega) (by omega) ?_))⟩⟩
      · rw [kf_e3 hc, kf_at W (by omega), pk_mul, nI_add]
      · rw [Nat.add_assoc]; exact h
theorem kf_sumW {post : Int32 → Prop} (hn : n ≤ 7) {c : Nat} (hc : c < 2 ^ 31) (h : post (nI (kf_sd W n c))) : wpX_sumOver__weights post (nI n, nI L, kf_a W, kf_a V, kf_a S, kf_a F, bp) (nI c) :=
  nm_e ⟨n + 1, kf_xsW n c 0 (n + 1) hn hc (by omega) (by rw [Nat.zero_add]; exact h)⟩
theorem kf_xsV {post : Int32 → Prop} : ∀ m c s k, m ≤ 7 → c < 2 ^ 31 → m < k → post (nI (s + kf_sd V m c)) → wX_sumOver__values_13 post (nI n) (nI L) (kf_a W) (kf_a V) (kf_a S) (kf_a F) bp k (nI s) (nI c) (nI m - 1) := by
  intro m
  induction m with
  | zero =>
    intro c s k _ _ hk h
    cases k with
    | zero => omega
    | succ k => exact br_t kf_lo h
  | succ m ih =>
    intro c s k hm hc hk h
    cases k with
    | zero => omega
    | succ k =>
      rw [nI_pred]
      refine br_f (nI_pos (by omega)) ⟨by decide, vp_in_nI (by omega) (by omega), nm_r (e' := nI (s + c % 3 * V m)) ?_ ⟨by decide, nm_r (kf_d3 hc) (nm_r (kf_m1 _) (ih (c / 3) (s + c % 3 * V m) k (by omega) (by omega) (by omega) ?_))⟩⟩
      · rw [kf_e3 hc, kf_at V (by omega), pk_mul, nI_add]
      · rw [Nat.add_assoc]; exact h
theorem kf_sumV {post : Int32 → Prop} (hn : n ≤ 7) {c : Nat} (hc : c < 2 ^ 31) (h : post (nI (kf_sd V n c))) : wpX_sumOver__values post (nI n, nI L, kf_a W, kf_a V, kf_a S, kf_a F, bp) (nI c) :=
  nm_e ⟨n + 1, kf_xsV n c 0 (n + 1) hn hc (by omega) (by rw [Nat.zero_add]; exact h)⟩
theorem kf_xe {post : Int32 → Prop} (hn : n ≤ 7) (h : post (nI (3 ^ n))) : ∀ d i k, i + d = n → d < k → wX_endOfCodes_4 post (nI n) (nI L) (kf_a W) (kf_a V) (kf_a S) (kf_a F) bp k (nI (3 ^ i)) (nI i) := by
  intro d
  induction d with
  | zero =>
    intro i k hi hk
    cases k with
    | zero => omega
    | succ k =>
      have hi : i = n := by omega
      rw [hi]
      exact br_t (nI_le (Nat.le_refl _) (by omega)) h
  | succ d ih =>
    intro i k hi hk
    cases k with
    | zero => omega
    | succ k =>
      refine br_f (nI_ge (by omega) (by omega)) (nm_r (e' := nI (3 ^ (i + 1))) ?_ (nm_r (nI_1 i) (ih (i + 1) k (by omega) (by omega))))
      rw [Nat.pow_succ]; exact pk_mul (3 ^ i) 3
theorem kf_endX {post : Int32 → Prop} (hn : n ≤ 7) (h : post (nI (3 ^ n))) : wpX_endOfCodes post (nI n, nI L, kf_a W, kf_a V, kf_a S, kf_a F, bp) :=
  ⟨n + 1, kf_xe hn h n 0 (n + 1) (by omega) (by omega)⟩
theorem kf_sh : ∀ f, f < 4 → (1 : Int32) <<< (nI f &&& 31) = nI (2 ^ f) := by decide +kernel
theorem kf_an : ∀ k, k < 16 → ∀ f, f < 4 → ((nI k &&& nI (2 ^ f)) = 0 ↔ k.testBit f = false) := by decide +kernel
theorem kf_or : ∀ k, k < 16 → ∀ f, f < 4 → (nI k ||| nI (2 ^ f) = nI (k ||| 2 ^ f) ∧ k ||| 2 ^ f < 16) := by decide +kernel
theorem kf_xst {post : Int32 → Prop} (hF : ∀ i, F i ≤ 3) : ∀ m c q k, m ≤ 7 → c < 2 ^ 31 → q < 16 → m < k → (kf_ms F m c q = true → post 1) → (kf_ms F m c q = false → post 0) → wX_isStrict_12 post (nI n) (nI L) (kf_a W) (kf_a V) (kf_a S) (kf_a F) bp k (nI q) (nI c) (nI m - 1) := by
  intro m
  induction m with
  | zero =>
    intro c q k _ _ _ hk h1 _
    cases k with
    | zero => omega
    | succ k => exact br_t kf_lo (h1 rfl)
  | succ m ih =>
    intro c q k hm hc hq hk h1 h0
    cases k with
    | zero => omega
    | succ k =>
      rw [nI_pred]
      have hf : F m < 4 := by have := hF m; omega
      refine br_f (nI_pos (by omega)) ⟨by decide, ek_if (d := c % 3 ≤ 0) ?_ (fun h => ⟨by decide, nm_r (kf_d3 hc) (nm_r (kf_m1 _) (ih (c / 3) q k (by omega) (by omega) hq (by omega) (fun e => h1 ?_) (fun e => h0 ?_)))⟩) (fun h => ⟨vp_in_nI (by omega) (by omega), nm_r (e' := nI (2 ^ F m)) ?_ (ek_if (kf_an q hq (F m) hf) (fun t => nm_r (kf_or q hq (F m) hf).1 ⟨by decide, nm_r (kf_d3 hc) (nm_r (kf_m1 _) (ih (c / 3) (q ||| 2 ^ F m) k (by omega) (by omega) (kf_or q hq (F m) hf).2 (by omega) (fun e => h1 ?_) (fun e => h0 ?_)))⟩) (fun t => h0 ?_))⟩)⟩
      · rw [kf_e3 hc]; exact nI_leI (b := 0) (by omega) (by decide)
      · have h' : ¬ 0 < c % 3 := by omega
        simp only [kf_ms, if_neg h']; exact e
      · have h' : ¬ 0 < c % 3 := by omega
        simp only [kf_ms, if_neg h']; exact e
      · rw [kf_at F (by omega)]; exact kf_sh (F m) hf
      · have h' : 0 < c % 3 := by omega
        simp only [kf_ms, if_pos h', t]; exact e
      · have h' : 0 < c % 3 := by omega
        simp only [kf_ms, if_pos h', t]; exact e
      · have h' : 0 < c % 3 := by omega
        have t' : q.testBit (F m) = true := by simpa using t
        simp only [kf_ms, if_pos h', t']; rfl
theorem kf_isStrict {post : Int32 → Prop} (hn : n ≤ 7) (hF : ∀ i, F i ≤ 3) {c : Nat} (hc : c < 2 ^ 31) (h1 : kf_ms F n c 0 = true → post 1) (h0 : kf_ms F n c 0 = false → post 0) : wpX_isStrict post (nI n, nI L, kf_a W, kf_a V, kf_a S, kf_a F, bp) (nI c) :=
  nm_e ⟨n + 1, kf_xst hF n c 0 (n + 1) hn hc (by decide) (by omega) h1 h0⟩
theorem kf_xtk {post : Int32 → Prop} {g : Nat} (hg : g < 7) : ∀ m c k, g < m → m ≤ 7 → c < 2 ^ 31 → m < k → (kf_dg m c g = 0 → post 0) → (¬ kf_dg m c g = 0 → post 1) → wX_takes_10 post (nI g) (nI n) (nI L) (kf_a W) (kf_a V) (kf_a S) (kf_a F) bp k (nI c) (nI m - 1) := by
  intro m
  induction m with
  | zero => intro c k h; omega
  | succ m ih =>
    intro c k hgm hm hc hk h0 h1
    cases k with
    | zero => omega
    | succ k =>
      rw [nI_pred]
      refine ek_if (d := m ≤ g) (nI_leI (by omega) (by omega)) (fun h => ⟨by decide, ek_if (d := c % 3 ≤ 0) ?_ (fun t => h0 ?_) (fun t => h1 ?_)⟩) (fun h => ⟨by decide, nm_r (kf_d3 hc) (nm_r (kf_m1 _) (ih (c / 3) k (by omega) (by omega) (by omega) (by omega) (fun e => h0 ?_) (fun e => h1 ?_)))⟩)
      · rw [kf_e3 hc]; exact nI_leI (b := 0) (by omega) (by decide)
      · have : g = m := by omega
        rw [this, kf_dg_m]; omega
      · have : g = m := by omega
        rw [this, kf_dg_m]; omega
      · rw [kf_dg_lt (by omega)]; exact e
      · rw [kf_dg_lt (by omega)]; exact e
theorem kf_takes {post : Int32 → Prop} (hn : n ≤ 7) {g c : Nat} (hg : g < n) (hc : c < 2 ^ 31) (h0 : kf_dg n c g = 0 → post 0) (h1 : ¬ kf_dg n c g = 0 → post 1) : wpX_takes post (nI n, nI L, kf_a W, kf_a V, kf_a S, kf_a F, bp) (nI c) (nI g) :=
  nm_e ⟨n + 1, kf_xtk (by omega) n c (n + 1) hg hn hc (by omega) h0 h1⟩
/-- what the search allows -/
def kf_al (S F : Nat → Nat) (n : Nat) (st : Bool) (g : Option Nat) (c : Nat) : Bool :=
  kf_oc S n c && ((!st || kf_ms F n c 0) && (match g with | none => true | some x => decide (kf_dg n c x = 0)))
def kf_b (st : Bool) : Int32 := match st with | true => 1 | false => 0
def kf_br (g : Option Nat) : Int32 := match g with | none => -1 | some x => nI x
theorem kf_nI_m1 {x : Nat} (h : x < 2 ^ 31) : ¬ nI x = -1 := fun z => nI_pos h (by rw [z]; decide)
theorem kf_al_oc {S F : Nat → Nat} {n c : Nat} {st : Bool} {g : Option Nat} (h : kf_al S F n st g c = true) : kf_oc S n c = true := by
  unfold kf_al at h
  exact (Bool.and_eq_true_iff.mp h).1
theorem kf_isAllowed {post : Int32 → Prop} (hn : n ≤ 7) (hS : ∀ i, S i ≤ 2) (hF : ∀ i, F i ≤ 3) {c : Nat} (hc : c < 2 ^ 31) {st : Bool} {g : Option Nat} (hg : ∀ x, g = some x → x < n) (h1 : kf_al S F n st g c = true → post 1) (h0 : kf_al S F n st g c = false → post 0) : wpX_isAllowed post (nI n, nI L, kf_a W, kf_a V, kf_a S, kf_a F, bp) (nI c) (kf_b st) (kf_br g) := by
  have tail : kf_oc S n c = true → (!st || kf_ms F n c 0) = true → wX_isAllowed_24 post (nI c) (kf_br g) (nI n) (nI L) (kf_a W) (kf_a V) (kf_a S) (kf_a F) bp := by
    intro a1 a2
    cases g with
    | none => exact br_t rfl (h1 (by unfold kf_al; rw [a1, a2]; rfl))
    | some x =>
      have hx := hg x rfl
      refine br_f (kf_nI_m1 (by omega)) ?_
      refine kf_takes hn hx hc (fun e => br_t rfl (h1 ?_)) (fun e => br_f (by decide) (h0 ?_))
      · unfold kf_al; rw [a1, a2]; simp [e]
      · unfold kf_al; rw [a1, a2]; simp [e]
  unfold wpX_isAllowed
  dsimp only
  refine kf_isChoice hn hS hc (fun a1 => br_f (by decide) ?_) (fun a0 => br_t rfl (h0 ?_))
  · cases st with
    | false => exact br_t rfl (tail a1 rfl)
    | true =>
      refine br_f (by decide) ?_
      refine kf_isStrict hn hF hc (fun b1 => br_f (by decide) (tail a1 ?_)) (fun b0 => br_t rfl (h0 ?_))
      · rw [b1]; rfl
      · unfold kf_al; rw [a1, b0]; rfl
  · unfold kf_al; rw [a0]; rfl
end
end
section
section
variable {n L : Nat} {W V S F : Nat → Nat} {bp : Nat → Int32}
def kf_run {σ : Type} (g : Nat → σ → σ) : Nat → Nat → σ → σ
  | 0, _, s => s
  | d + 1, c, s => kf_run g d (c + 1) (g c s)
theorem kf_run_inv {σ : Type} {g : Nat → σ → σ} {P : σ → Prop} {e : Nat} (hs : ∀ c t, c < e → P t → P (g c t)) : ∀ d c s, c + d ≤ e → P s → P (kf_run g d c s) := by
  intro d
  induction d with
  | zero => intro c s _ h; exact h
  | succ d ih => intro c s hc h; exact ih (c + 1) (g c s) (by omega) (hs c s (by omega) h)
def kf_gf (W S : Nat → Nat) (n L : Nat) (c : Nat) (r : Int32) : Int32 := if kf_oc S n c = true ∧ ¬ nI L < nI (kf_sd W n c) then r + 1 else r
def kf_gw (W S : Nat → Nat) (n : Nat) (x : Int32) (c : Nat) (r : Int32) : Int32 := if kf_oc S n c = true ∧ nI (kf_sd W n c) = x then r + 1 else r
def kf_gu (W S : Nat → Nat) (n L : Nat) (c : Nat) (r : Int32) : Int32 := if kf_oc S n c = true ∧ ¬ nI L < nI (kf_sd W n c) ∧ ¬ nI (kf_sd W n c) ≤ r then nI (kf_sd W n c) else r
def kf_gl (W V S : Nat → Nat) (n : Nat) (x : Int32) (c : Nat) (r : Int32) : Int32 := if kf_oc S n c = true ∧ ¬ nI (kf_sd V n c) < x ∧ (r < 0 ∨ ¬ r ≤ nI (kf_sd W n c)) then nI (kf_sd W n c) else r
def kf_gb (W V : Nat → Nat) (n L : Nat) (al : Nat → Bool) (c : Nat) (s : Int32 × Int32 × Int32) : Int32 × Int32 × Int32 :=
  if al c = true ∧ ¬ nI L < nI (kf_sd W n c) ∧ (s.2.1 < nI (kf_sd V n c) ∨ (nI (kf_sd V n c) = s.2.1 ∧ ¬ s.2.2 ≤ nI (kf_sd W n c))) then (nI c, nI (kf_sd V n c), nI (kf_sd W n c)) else s
theorem kf_xfit {post : Int32 → Prop} (hn : n ≤ 7) (hS : ∀ i, S i ≤ 2) {e : Nat} (he : e ≤ 2187) : ∀ d c r k, c + d = e → d < k → post (kf_run (kf_gf W S n L) d c r) → wX_fitting_9 post (nI e) (nI n) (nI L) (kf_a W) (kf_a V) (kf_a S) (kf_a F) bp k r (nI c) := by
  intro d
  induction d with
  | zero =>
    intro c r k hc hk h
    cases k with
    | zero => omega
    | succ k => exact br_t (nI_le (by omega) (by omega)) h
  | succ d ih =>
    intro c r k hc hk h
    cases k with
    | zero => omega
    | succ k =>
      have h : post (kf_run (kf_gf W S n L) d (c + 1) (kf_gf W S n L c r)) := h
      refine br_f (nI_ge (by omega) (by omega)) ?_
      refine kf_isChoice hn hS (by omega) (fun h1 => br_f (by decide) ?_) (fun h0 => br_t rfl (nm_r (nI_1 c) (ih _ _ _ (by omega) (by omega) ?_)))
      · refine kf_sumW hn (by omega) ?_
        refine br_c (fun hl => nm_r (nI_1 c) (ih _ _ _ (by omega) (by omega) ?_)) (fun hl => nm_e (nm_r (nI_1 c) (ih _ _ _ (by omega) (by omega) ?_)))
        · rwa [show kf_gf W S n L c r = r from if_neg (fun z => z.2 hl)] at h
        · rwa [show kf_gf W S n L c r = r + 1 from if_pos ⟨h1, hl⟩] at h
      · rwa [show kf_gf W S n L c r = r from if_neg (fun z => kf_ft h0 z.1)] at h
theorem kf_fitX {post : Int32 → Prop} (hn : n ≤ 7) (hS : ∀ i, S i ≤ 2) (h : post (kf_run (kf_gf W S n L) (3 ^ n) 0 0)) : wpX_fitting post (nI n, nI L, kf_a W, kf_a V, kf_a S, kf_a F, bp) := by
  unfold wpX_fitting
  dsimp only
  refine kf_endX hn ?_
  exact ⟨3 ^ n + 1, kf_xfit hn hS (kf_p3 hn) (3 ^ n) 0 0 _ (Nat.zero_add _) (Nat.lt_succ_self _) h⟩
theorem kf_xcw {post : Int32 → Prop} (hn : n ≤ 7) (hS : ∀ i, S i ≤ 2) {x : Int32} {e : Nat} (he : e ≤ 2187) : ∀ d c r k, c + d = e → d < k → post (kf_run (kf_gw W S n x) d c r) → wX_countWeighing_10 post x (nI e) (nI n) (nI L) (kf_a W) (kf_a V) (kf_a S) (kf_a F) bp k r (nI c) := by
  intro d
  induction d with
  | zero =>
    intro c r k hc hk h
    cases k with
    | zero => omega
    | succ k => exact br_t (nI_le (by omega) (by omega)) h
  | succ d ih =>
    intro c r k hc hk h
    cases k with
    | zero => omega
    | succ k =>
      have h : post (kf_run (kf_gw W S n x) d (c + 1) (kf_gw W S n x c r)) := h
      refine br_f (nI_ge (by omega) (by omega)) ?_
      refine kf_isChoice hn hS (by omega) (fun h1 => br_f (by decide) ?_) (fun h0 => br_t rfl (nm_r (nI_1 c) (ih _ _ _ (by omega) (by omega) ?_)))
      · refine kf_sumW hn (by omega) ?_
        refine br_c (fun hl => nm_e (nm_r (nI_1 c) (ih _ _ _ (by omega) (by omega) ?_))) (fun hl => nm_r (nI_1 c) (ih _ _ _ (by omega) (by omega) ?_))
        · rwa [show kf_gw W S n x c r = r + 1 from if_pos ⟨h1, hl⟩] at h
        · rwa [show kf_gw W S n x c r = r from if_neg (fun z => hl z.2)] at h
      · rwa [show kf_gw W S n x c r = r from if_neg (fun z => kf_ft h0 z.1)] at h
theorem kf_cwX {post : Int32 → Prop} (hn : n ≤ 7) (hS : ∀ i, S i ≤ 2) {x : Int32} (h : post (kf_run (kf_gw W S n x) (3 ^ n) 0 0)) : wpX_countWeighing post (nI n, nI L, kf_a W, kf_a V, kf_a S, kf_a F, bp) x := by
  unfold wpX_countWeighing
  dsimp only
  refine kf_endX hn ?_
  exact ⟨3 ^ n + 1, kf_xcw hn hS (kf_p3 hn) (3 ^ n) 0 0 _ (Nat.zero_add _) (Nat.lt_succ_self _) h⟩
theorem kf_xfu {post : Int32 → Prop} (hn : n ≤ 7) (hS : ∀ i, S i ≤ 2) {e : Nat} (he : e ≤ 2187) : ∀ d c r k, c + d = e → d < k → post (kf_run (kf_gu W S n L) d c r) → wX_fullest_9 post (nI e) (nI n) (nI L) (kf_a W) (kf_a V) (kf_a S) (kf_a F) bp k r (nI c) := by
  intro d
  induction d with
  | zero =>
    intro c r k hc hk h
    cases k with
    | zero => omega
    | succ k => exact br_t (nI_le (by omega) (by omega)) h
  | succ d ih =>
    intro c r k hc hk h
    cases k with
    | zero => omega
    | succ k =>
      have h : post (kf_run (kf_gu W S n L) d (c + 1) (kf_gu W S n L c r)) := h
      refine br_f (nI_ge (by omega) (by omega)) ?_
      refine kf_isChoice hn hS (by omega) (fun h1 => br_f (by decide) ?_) (fun h0 => br_t rfl (nm_r (nI_1 c) (ih _ _ _ (by omega) (by omega) ?_)))
      · refine kf_sumW hn (by omega) ?_
        refine br_c (fun hl => nm_r (nI_1 c) (ih _ _ _ (by omega) (by omega) ?_)) (fun hl => br_c (fun hm => nm_r (nI_1 c) (ih _ _ _ (by omega) (by omega) ?_)) (fun hm => nm_r (nI_1 c) (ih _ _ _ (by omega) (by omega) ?_)))
        · rwa [show kf_gu W S n L c r = r from if_neg (fun z => z.2.1 hl)] at h
        · rwa [show kf_gu W S n L c r = r from if_neg (fun z => z.2.2 hm)] at h
        · rwa [show kf_gu W S n L c r = nI (kf_sd W n c) from if_pos ⟨h1, hl, hm⟩] at h
      · rwa [show kf_gu W S n L c r = r from if_neg (fun z => kf_ft h0 z.1)] at h
theorem kf_fuX {post : Int32 → Prop} (hn : n ≤ 7) (hS : ∀ i, S i ≤ 2) (h : post (kf_run (kf_gu W S n L) (3 ^ n) 0 0)) : wpX_fullest post (nI n, nI L, kf_a W, kf_a V, kf_a S, kf_a F, bp) := by
  unfold wpX_fullest
  dsimp only
  refine kf_endX hn ?_
  exact ⟨3 ^ n + 1, kf_xfu hn hS (kf_p3 hn) (3 ^ n) 0 0 _ (Nat.zero_add _) (Nat.lt_succ_self _) h⟩
theorem kf_xli {post : Int32 → Prop} (hn : n ≤ 7) (hS : ∀ i, S i ≤ 2) {x : Int32} {e : Nat} (he : e ≤ 2187) : ∀ d c r k, c + d = e → d < k → post (kf_run (kf_gl W V S n x) d c r) → wX_lightest_10 post x (nI e) (nI n) (nI L) (kf_a W) (kf_a V) (kf_a S) (kf_a F) bp k r (nI c) := by
  intro d
  induction d with
  | zero =>
    intro c r k hc hk h
    cases k with
    | zero => omega
    | succ k => exact br_t (nI_le (by omega) (by omega)) h
  | succ d ih =>
    intro c r k hc hk h
    cases k with
    | zero => omega
    | succ k =>
      have h : post (kf_run (kf_gl W V S n x) d (c + 1) (kf_gl W V S n x c r)) := h
      refine br_f (nI_ge (by omega) (by omega)) ?_
      refine kf_isChoice hn hS (by omega) (fun h1 => br_f (by decide) ?_) (fun h0 => br_t rfl (nm_r (nI_1 c) (ih _ _ _ (by omega) (by omega) ?_)))
      · refine kf_sumV hn (by omega) ?_
        refine br_c (fun hl => nm_r (nI_1 c) (ih _ _ _ (by omega) (by omega) ?_)) (fun hl => ?_)
        · rwa [show kf_gl W V S n x c r = r from if_neg (fun z => z.2.1 hl)] at h
        · refine kf_sumW hn (by omega) ?_
          refine br_c (fun hm => nm_r (nI_1 c) (ih _ _ _ (by omega) (by omega) ?_)) (fun hm => br_c (fun hq => nm_r (nI_1 c) (ih _ _ _ (by omega) (by omega) ?_)) (fun hq => nm_r (nI_1 c) (ih _ _ _ (by omega) (by omega) ?_)))
          · rwa [show kf_gl W V S n x c r = nI (kf_sd W n c) from if_pos ⟨h1, hl, Or.inl hm⟩] at h
          · rwa [show kf_gl W V S n x c r = r from if_neg (fun z => z.2.2.elim hm (fun y => y hq))] at h
          · rwa [show kf_gl W V S n x c r = nI (kf_sd W n c) from if_pos ⟨h1, hl, Or.inr hq⟩] at h
      · rwa [show kf_gl W V S n x c r = r from if_neg (fun z => kf_ft h0 z.1)] at h
theorem kf_liX {post : Int32 → Prop} (hn : n ≤ 7) (hS : ∀ i, S i ≤ 2) {x : Int32} (h : post (kf_run (kf_gl W V S n x) (3 ^ n) 0 (-1))) : wpX_lightest post (nI n, nI L, kf_a W, kf_a V, kf_a S, kf_a F, bp) x := by
  unfold wpX_lightest
  dsimp only
  refine kf_endX hn ?_
  exact ⟨3 ^ n + 1, kf_xli hn hS (kf_p3 hn) (3 ^ n) 0 (-1) _ (Nat.zero_add _) (Nat.lt_succ_self _) h⟩
theorem kf_x85 {post : Int32 → Prop} {J : Int32 → Int32 → Int32 → Int32 → Prop} {x1 x2 x3 x4 x5 x6 x8 x9 z0 : Int32} {c : Nat} (hno : (nI L < x9 ∨ z0 = 0) → J x3 x4 x5 (nI (c + 1))) (hyes : ¬ nI L < x9 → ¬ z0 = 0 → J (nI c) x8 x9 (nI (c + 1))) : wX_findBest_85 post J x1 x2 x3 x4 x5 x6 (nI c) x8 x9 z0 (nI n) (nI L) (kf_a W) (kf_a V) (kf_a S) (kf_a F) bp :=
  br_c (fun h => nm_r (nI_1 c) (hno (Or.inl h))) (fun h => br_c (fun z => nm_r (nI_1 c) (hno (Or.inr z))) (fun z => nm_r (nI_1 c) (hyes h z)))
theorem kf_xfb {post : Int32 → Prop} (hn : n ≤ 7) (hS : ∀ i, S i ≤ 2) (hF : ∀ i, F i ≤ 3) {st : Bool} {g : Option Nat} (hg : ∀ x, g = some x → x < n) {e : Nat} (he : e ≤ 2187) : ∀ d c s k, c + d = e → d < k → post (kf_run (kf_gb W V n L (kf_al S F n st g)) d c s).1 → wX_findBest_17 post (kf_b st) (kf_br g) (nI e) (nI n) (nI L) (kf_a W) (kf_a V) (kf_a S) (kf_a F) bp k s.1 s.2.1 s.2.2 (nI c) := by
  intro d
  induction d with
  | zero =>
    intro c s k hc hk h
    cases k with
    | zero => omega
    | succ k => exact br_t (nI_le (by omega) (by omega)) h
  | succ d ih =>
    intro c s k hc hk h
    cases k with
    | zero => omega
    | succ k =>
      have h : post (kf_run (kf_gb W V n L (kf_al S F n st g)) d (c + 1) (kf_gb W V n L (kf_al S F n st g) c s)).1 := h
      refine br_f (nI_ge (by omega) (by omega)) ?_
      refine kf_isAllowed hn hS hF (by omega) hg (fun h1 => br_f (by decide) ?_) (fun h0 => br_t rfl (nm_r (nI_1 c) (ih (c + 1) s k (by omega) (by omega) ?_)))
      · have hy : ¬ nI L < nI (kf_sd W n c) → (s.2.1 < nI (kf_sd V n c) ∨ (nI (kf_sd V n c) = s.2.1 ∧ ¬ s.2.2 ≤ nI (kf_sd W n c))) → wX_findBest_17 post (kf_b st) (kf_br g) (nI e) (nI n) (nI L) (kf_a W) (kf_a V) (kf_a S) (kf_a F) bp k (nI c) (nI (kf_sd V n c)) (nI (kf_sd W n c)) (nI (c + 1)) := by
          intro a b
          refine ih (c + 1) (nI c, nI (kf_sd V n c), nI (kf_sd W n c)) k (by omega) (by omega) ?_
          rwa [show kf_gb W V n L (kf_al S F n st g) c s = (nI c, nI (kf_sd V n c), nI (kf_sd W n c)) from if_pos ⟨h1, a, b⟩] at h
        have hz : (nI L < nI (kf_sd W n c) ∨ ¬ (s.2.1 < nI (kf_sd V n c) ∨ (nI (kf_sd V n c) = s.2.1 ∧ ¬ s.2.2 ≤ nI (kf_sd W n c)))) → wX_findBest_17 post (kf_b st) (kf_br g) (nI e) (nI n) (nI L) (kf_a W) (kf_a V) (kf_a S) (kf_a F) bp k s.1 s.2.1 s.2.2 (nI (c + 1)) := by
          intro a
          refine ih (c + 1) s k (by omega) (by omega) ?_
          rwa [show kf_gb W V n L (kf_al S F n st g) c s = s from if_neg (fun z => a.elim z.2.1 (fun y => y z.2.2))] at h
        refine kf_sumV hn (by omega) ?_
        refine kf_sumW hn (by omega) ?_
        refine br_c (fun q => ?_) (fun q => br_c (fun q2 => br_c (fun q3 => ?_) (fun q3 => ?_)) (fun q2 => ?_))
        · exact kf_x85 (fun z => hz (z.elim Or.inl (fun y => absurd y (by decide)))) (fun a _ => hy a (Or.inl q))
        · exact kf_x85 (fun _ => hz (Or.inr (fun b => b.elim q (fun y => y.2 q3)))) (fun _ y => absurd rfl y)
        · exact kf_x85 (fun z => hz (z.elim Or.inl (fun y => absurd y (by decide)))) (fun a _ => hy a (Or.inr ⟨q2, q3⟩))
        · exact kf_x85 (fun _ => hz (Or.inr (fun b => b.elim q (fun y => q2 y.1)))) (fun _ y => absurd rfl y)
      · rwa [show kf_gb W V n L (kf_al S F n st g) c s = s from if_neg (fun z => kf_ft h0 z.1)] at h
/-- the code that the search finds -/
def kf_bc (W V S F : Nat → Nat) (n L : Nat) (st : Bool) (g : Option Nat) : Int32 := (kf_run (kf_gb W V n L (kf_al S F n st g)) (3 ^ n) 0 (0, 0, 0)).1
theorem kf_gb_0 (al : Nat → Bool) : kf_gb W V n L al 0 (0, 0, 0) = (0, 0, 0) := by
  unfold kf_gb
  rw [kf_sd_0, kf_sd_0]
  exact if_neg (fun z => z.2.2.elim (fun y => absurd y (by decide)) (fun y => absurd y.2 (by decide)))
theorem kf_bc_1 (st : Bool) (g : Option Nat) : kf_bc W V S F n L st g = (kf_run (kf_gb W V n L (kf_al S F n st g)) (3 ^ n - 1) 1 (0, 0, 0)).1 := by
  unfold kf_bc
  have hp : 0 < 3 ^ n := Nat.pow_pos (by decide)
  obtain ⟨m, hm⟩ : ∃ m, 3 ^ n = m + 1 := ⟨3 ^ n - 1, by omega⟩
  rw [hm]
  show (kf_run (kf_gb W V n L (kf_al S F n st g)) m (0 + 1) (kf_gb W V n L (kf_al S F n st g) 0 (0, 0, 0))).1 = _
  rw [kf_gb_0]
  rfl
theorem kf_bc_ok (hn : n ≤ 7) (st : Bool) (g : Option Nat) : ∃ c, c < 2 ^ 31 ∧ kf_oc S n c = true ∧ kf_bc W V S F n L st g = nI c := by
  have hp := kf_p3 hn
  refine kf_run_inv (g := kf_gb W V n L (kf_al S F n st g)) (P := fun s => ∃ c, c < 2 ^ 31 ∧ kf_oc S n c = true ∧ s.1 = nI c) (e := 3 ^ n) ?_ (3 ^ n) 0 (0, 0, 0) (by omega) ⟨0, by decide, kf_oc_0 S n, rfl⟩
  intro c t hc ht
  by_cases hh : kf_al S F n st g c = true ∧ ¬ nI L < nI (kf_sd W n c) ∧ (t.2.1 < nI (kf_sd V n c) ∨ (nI (kf_sd V n c) = t.2.1 ∧ ¬ t.2.2 ≤ nI (kf_sd W n c)))
  · rw [show kf_gb W V n L (kf_al S F n st g) c t = (nI c, nI (kf_sd V n c), nI (kf_sd W n c)) from if_pos hh]
    exact ⟨c, by omega, kf_al_oc hh.1, rfl⟩
  · rw [show kf_gb W V n L (kf_al S F n st g) c t = t from if_neg hh]
    exact ht
theorem kf_findX {post : Int32 → Prop} (hn : n ≤ 7) (hS : ∀ i, S i ≤ 2) (hF : ∀ i, F i ≤ 3) {st : Bool} {g : Option Nat} (hg : ∀ x, g = some x → x < n) (h : post (kf_bc W V S F n L st g)) : wpX_findBest post (nI n, nI L, kf_a W, kf_a V, kf_a S, kf_a F, bp) (kf_b st) (kf_br g) := by
  rw [kf_bc_1] at h
  have hp : 0 < 3 ^ n := Nat.pow_pos (by decide)
  unfold wpX_findBest
  dsimp only
  refine kf_endX hn ?_
  exact ⟨3 ^ n, kf_xfb hn hS hF hg (kf_p3 hn) (3 ^ n - 1) 1 (0, 0, 0) _ (by omega) (by omega) h⟩
/-- the weight of all pieces -/
def kf_wh (W S : Nat → Nat) : Nat → Nat
  | 0 => 0
  | i + 1 => kf_wh W S i + W i * S i
theorem kf_wh_le (hW : ∀ i, W i ≤ 20) (hS : ∀ i, S i ≤ 2) : ∀ i, kf_wh W S i ≤ 40 * i := by
  intro i
  induction i with
  | zero => exact Nat.le_refl 0
  | succ i ih =>
    have h := Nat.mul_le_mul (hW i) (hS i)
    show kf_wh W S i + W i * S i ≤ 40 * (i + 1)
    omega
/-- whether all can be shared by halves -/
def kf_hv (W S : Nat → Nat) (n : Nat) : Int32 := if kf_wh W S n % 2 = 0 ∧ ¬ kf_run (kf_gw W S n (nI (kf_wh W S n / 2))) (3 ^ n) 0 0 ≤ 0 then 1 else 0
theorem kf_xha {post : Int32 → Prop} (hn : n ≤ 7) (hW : ∀ i, W i ≤ 20) (hS : ∀ i, S i ≤ 2) (h : post (kf_hv W S n)) : ∀ d i k, i + d = n → d < k → wX_halves_4 post (nI n) (nI L) (kf_a W) (kf_a V) (kf_a S) (kf_a F) bp k (nI (kf_wh W S i)) (nI i) := by
  intro d
  induction d with
  | zero =>
    intro i k hi hk
    cases k with
    | zero => omega
    | succ k =>
      have hi : i = n := by omega
      rw [hi]
      have hb := kf_wh_le hW hS n
      refine br_t (nI_le (Nat.le_refl _) (by omega)) ⟨by decide, ek_if (d := kf_wh W S n % 2 = 0) ?_ (fun e => ⟨by decide, ?_⟩) (fun e => ?_)⟩
      · rw [show nI (kf_wh W S n) - nI (kf_wh W S n) / 2 * 2 = nI (kf_wh W S n % 2) from pk_rem (d := 2) (by omega) (by decide) (by decide)]
        exact nI_eq (b := 0) (by omega) (by decide)
      · rw [show nI (kf_wh W S n) / 2 = nI (kf_wh W S n / 2) from pk_div (d := 2) (by omega) (by decide) (by decide)]
        refine kf_cwX hn hS ?_
        refine br_c (fun q => ?_) (fun q => ?_)
        · rwa [show kf_hv W S n = 0 from if_neg (fun z => z.2 q)] at h
        · rwa [show kf_hv W S n = 1 from if_pos ⟨e, q⟩] at h
      · rwa [show kf_hv W S n = 0 from if_neg (fun z => e z.1)] at h
  | succ d ih =>
    intro i k hi hk
    cases k with
    | zero => omega
    | succ k =>
      refine br_f (nI_ge (by omega) (by omega)) ⟨vp_in_nI (by omega) (by omega), vp_in_nI (by omega) (by omega), nm_r (e' := nI (kf_wh W S (i + 1))) ?_ (nm_r (nI_1 i) (ih (i + 1) k (by omega) (by omega)))⟩
      rw [kf_at W (by omega), kf_at S (by omega), pk_mul, nI_add]
      rfl
theorem kf_haX {post : Int32 → Prop} (hn : n ≤ 7) (hW : ∀ i, W i ≤ 20) (hS : ∀ i, S i ≤ 2) (h : post (kf_hv W S n)) : wpX_halves post (nI n, nI L, kf_a W, kf_a V, kf_a S, kf_a F, bp) :=
  ⟨n + 1, kf_xha hn hW hS h n 0 (n + 1) (by omega) (by omega)⟩
end
end
section
section
variable {n L : Nat} {W V S F : Nat → Nat} {hv wo : Int32} {tk : Nat → Int32}
theorem kf_yc {post : Int32 → SY → Prop} (hS : ∀ i, S i ≤ 2) : ∀ m c h w tk k, m ≤ 7 → c < 2 ^ 31 → m < k →
    (kf_oc S m c = true → ∀ tk' : Nat → Int32, (∀ i, i < m → tk' i = nI (kf_dg m c i)) → (∀ i, m ≤ i → tk' i = tk i) → post 1 (nI n, nI L, nI (h + kf_sd W m c), nI (w + kf_sd V m c), kf_a W, kf_a V, kf_a S, kf_a F, tk')) →
    (kf_oc S m c = false → ∀ hv wo tk, post 0 (nI n, nI L, hv, wo, kf_a W, kf_a V, kf_a S, kf_a F, tk)) →
    wY_choice_25 post (nI n) (nI L) k (nI c) (nI m - 1) (nI h) (nI w) (kf_a W) (kf_a V) (kf_a S) (kf_a F) tk := by
  intro m
  induction m with
  | zero =>
    intro c h w tk k _ hc hk h1 h0
    cases k with
    | zero => omega
    | succ k =>
      exact br_t kf_lo (ek_if (d := c = 0) (nI_eq (b := 0) hc (by decide)) (fun e => h1 (by simp [kf_oc, e]) tk (fun i hi => absurd hi (Nat.not_lt_zero i)) (fun _ _ => rfl)) (fun e => h0 (by simp [kf_oc, e]) _ _ _))
  | succ m ih =>
    intro c h w tk k hm hc hk h1 h0
    cases k with
    | zero => omega
    | succ k =>
      rw [nI_pred]
      have hs := hS m
      have hin : vp_in (nI m) 7 := vp_in_nI (by omega) (by omega)
      refine br_f (nI_pos (by omega)) (br_f (nI_ge (b := 7) (by omega) (by decide)) ⟨by decide, nm_r (kf_e3 hc) ⟨hin, ek_if (d := c % 3 ≤ S m) ?_ (fun e => ⟨hin, nm_e ⟨hin, nm_r (e' := nI (h + c % 3 * W m)) ?_ ⟨hin, nm_r (e' := nI (w + c % 3 * V m)) ?_ ⟨by decide, nm_r (kf_d3 hc) (nm_r (kf_m1 _) (ih (c / 3) (h + c % 3 * W m) (w + c % 3 * V m) _ k (by omega) (by omega) (by omega) (fun o tk' t1 t2 => ?_) (fun o => h0 ?_)))⟩⟩⟩⟩) (fun e => h0 ?_ _ _ _)⟩⟩)
      · rw [kf_at S (by omega)]; exact nI_leI (by omega) (by omega)
      · rw [kf_at W (by omega), pk_mul, nI_add]
      · rw [kf_at V (by omega), pk_mul, nI_add]
      · have o' : kf_oc S (m + 1) c = true := by simp [kf_oc, e, o]
        have r := h1 o' tk' (fun i hi => ?_) (fun i hi => ?_)
        · rw [Nat.add_assoc, Nat.add_assoc]; exact r
        · by_cases him : i = m
          · rw [him, t2 m (Nat.le_refl m), kf_dg_m, nI_clamp (by omega), pk_us]
          · rw [kf_dg_lt (by omega)]; exact t1 i (by omega)
        · rw [t2 i (by omega), nI_clamp (by omega), pk_un (by omega)]
      · simp [kf_oc, o]
      · simp [kf_oc, e]
theorem kf_choice {post : Int32 → SY → Prop} (hn : n ≤ 7) (hS : ∀ i, S i ≤ 2) {c : Nat} (hc : c < 2 ^ 31)
    (h1 : kf_oc S n c = true → ∀ tk' : Nat → Int32, (∀ i, i < n → tk' i = nI (kf_dg n c i)) → post 1 (nI n, nI L, nI (kf_sd W n c), nI (kf_sd V n c), kf_a W, kf_a V, kf_a S, kf_a F, tk'))
    (h0 : kf_oc S n c = false → ∀ hv wo tk, post 0 (nI n, nI L, hv, wo, kf_a W, kf_a V, kf_a S, kf_a F, tk)) : wpY_choice post (nI n, nI L, hv, wo, kf_a W, kf_a V, kf_a S, kf_a F, tk) (nI c) := by
  refine br_t (nI_pos' hc) (nm_e ⟨n + 1, kf_yc hS n c 0 0 tk (n + 1) hn hc (by omega) (fun o tk' t _ => ?_) h0⟩)
  rw [Nat.zero_add, Nat.zero_add]
  exact h1 o tk' t
theorem kf_choiceN {post : Int32 → SY → Prop} {x : Int32} (h : ¬ 0 ≤ x) (h0 : ∀ hv wo tk, post 0 (nI n, nI L, hv, wo, kf_a W, kf_a V, kf_a S, kf_a F, tk)) : wpY_choice post (nI n, nI L, hv, wo, kf_a W, kf_a V, kf_a S, kf_a F, tk) x := br_f h (h0 _ _ _)
theorem kf_ye {post : Int32 → Prop} (hn : n ≤ 7) (h : post (nI (3 ^ n))) : ∀ d i k, i + d = n → d < k → wY_end_4 post (nI n) (nI L) hv wo (kf_a W) (kf_a V) (kf_a S) (kf_a F) tk k (nI (3 ^ i)) (nI i) := by
  intro d
  induction d with
  | zero =>
    intro i k hi hk
    cases k with
    | zero => omega
    | succ k =>
      have hi : i = n := by omega
      rw [hi]
      exact br_t (nI_le (Nat.le_refl _) (by omega)) h
  | succ d ih =>
    intro i k hi hk
    cases k with
    | zero => omega
    | succ k =>
      refine br_f (nI_ge (by omega) (by omega)) (nm_r (e' := nI (3 ^ (i + 1))) ?_ (nm_r (nI_1 i) (ih (i + 1) k (by omega) (by omega))))
      rw [Nat.pow_succ, Nat.mul_comm]; exact pk_mul 3 (3 ^ i)
theorem kf_endY {post : Int32 → Prop} (hn : n ≤ 7) (h : post (nI (3 ^ n))) : wpY_end post (nI n, nI L, hv, wo, kf_a W, kf_a V, kf_a S, kf_a F, tk) :=
  ⟨n + 1, kf_ye hn h n 0 (n + 1) (by omega) (by omega)⟩
theorem kf_ys1 {post : Int32 → Prop} {J : Int32 → Prop} {D : Nat → Nat} (hD : ∀ i, i < n → tk i = nI (D i)) (hD2 : ∀ i, D i ≤ 2) (hF : ∀ i, F i ≤ 3) {i : Nat} (hi : i < n) (hn : n ≤ 7) : ∀ d j k, j + d = i → d < k →
    (∀ b, j ≤ b → b < i → 0 < D i → 0 < D b → F i = F b → post 0) →
    ((∀ b, j ≤ b → b < i → 0 < D i → 0 < D b → F i = F b → False) → J (nI (i + 1))) →
    wY_strict_18 post J (nI i) (nI n) (nI L) hv wo (kf_a W) (kf_a V) (kf_a S) (kf_a F) tk k (nI j) := by
  have ti : tk (nI i).toNatClampNeg = nI (D i) := by rw [nI_clamp (by omega)]; exact hD i hi
  have hDi := hD2 i
  have hFi := hF i
  intro d
  induction d with
  | zero =>
    intro j k hj hk _ hok
    cases k with
    | zero => omega
    | succ k => exact br_t (nI_le (by omega) (by omega)) (nm_r (nI_1 i) (hok (fun b h1 h2 => by omega)))
  | succ d ih =>
    intro j k hj hk hbad hok
    cases k with
    | zero => omega
    | succ k =>
      have tj : tk (nI j).toNatClampNeg = nI (D j) := by rw [nI_clamp (by omega)]; exact hD j (by omega)
      have hDj := hD2 j
      have hFj := hF j
      have hin : vp_in (nI i) 7 := vp_in_nI (by omega) (by omega)
      have hjn : vp_in (nI j) 7 := vp_in_nI (by omega) (by omega)
      have go : (0 < D i → 0 < D j → F i = F j → False) → wY_strict_18 post J (nI i) (nI n) (nI L) hv wo (kf_a W) (kf_a V) (kf_a S) (kf_a F) tk k (nI (j + 1)) := by
        intro no
        refine ih (j + 1) k (by omega) (by omega) (fun b hb => hbad b (by omega)) (fun z => hok (fun b hb hbi d1 d2 f => ?_))
        by_cases hbj : b = j
        · subst hbj; exact no d1 d2 f
        · exact z b (by omega) hbi d1 d2 f
      refine br_f (nI_ge (by omega) (by omega)) ⟨hin, ek_if (d := D i ≤ 0) ?_ (fun a => nm_r (nI_1 j) (go (fun d1 => by omega))) (fun a => ⟨hjn, ek_if (d := D j ≤ 0) ?_ (fun b => nm_r (nI_1 j) (go (fun _ d2 => by omega))) (fun b => ⟨hin, hjn, ek_if (d := F i = F j) ?_ (fun f => hbad j (Nat.le_refl j) (by omega) (by omega) (by omega) f) (fun f => nm_r (nI_1 j) (go (fun _ _ e => f e)))⟩)⟩)⟩
      · rw [ti]; exact nI_leI (b := 0) (by omega) (by decide)
      · rw [tj]; exact nI_leI (b := 0) (by omega) (by decide)
      · rw [kf_at F (by omega), kf_at F (by omega)]; exact nI_eq (by omega) (by omega)
theorem kf_ys2 {post : Int32 → Prop} {D : Nat → Nat} (hD : ∀ i, i < n → tk i = nI (D i)) (hD2 : ∀ i, D i ≤ 2) (hF : ∀ i, F i ≤ 3) (hn : n ≤ 7) : ∀ d i k, i + d = n → d < k →
    (∀ a b, b < a → i ≤ a → a < n → 0 < D a → 0 < D b → F a = F b → post 0) →
    ((∀ a b, b < a → i ≤ a → a < n → 0 < D a → 0 < D b → F a = F b → False) → post 1) →
    wY_strict_2 post (nI n) (nI L) hv wo (kf_a W) (kf_a V) (kf_a S) (kf_a F) tk k (nI i) := by
  intro d
  induction d with
  | zero =>
    intro i k hi hk _ hok
    cases k with
    | zero => omega
    | succ k => exact br_t (nI_le (by omega) (by omega)) (hok (fun a b _ h1 h2 => by omega))
  | succ d ih =>
    intro i k hi hk hbad hok
    cases k with
    | zero => omega
    | succ k =>
      refine br_f (nI_ge (by omega) (by omega)) (br_f (nI_ge (b := 7) (by omega) (by decide)) ⟨i + 1, ?_⟩)
      refine kf_ys1 hD hD2 hF (by omega) hn i 0 (i + 1) (by omega) (by omega) (fun b _ hb => hbad i b hb (Nat.le_refl i) (by omega)) (fun z => ?_)
      refine ih (i + 1) k (by omega) (by omega) (fun a b hb ha => hbad a b hb (by omega)) (fun z2 => hok (fun a b hb ha han d1 d2 f => ?_))
      by_cases hai : a = i
      · subst hai; exact z b (Nat.zero_le b) hb d1 d2 f
      · exact z2 a b hb (by omega) han d1 d2 f
theorem kf_dg_le : ∀ m c i, kf_dg m c i ≤ 2 := by
  intro m
  induction m with
  | zero => intro c i; exact Nat.zero_le 2
  | succ m ih =>
    intro c i
    unfold kf_dg
    split
    · omega
    · exact ih _ _
theorem kf_strictY {post : Int32 → Prop} (hn : n ≤ 7) (hF : ∀ i, F i ≤ 3) {c : Nat} (hD : ∀ i, i < n → tk i = nI (kf_dg n c i)) (h1 : kf_ms F n c 0 = true → post 1) (h0 : kf_ms F n c 0 = false → post 0) : wpY_strict post (nI n, nI L, hv, wo, kf_a W, kf_a V, kf_a S, kf_a F, tk) := by
  refine ⟨n + 1, kf_ys2 (D := kf_dg n c) hD (kf_dg_le n c) hF hn n 0 (n + 1) (by omega) (by omega) (fun a b hb _ han d1 d2 f => h0 ?_) (fun z => h1 ?_)⟩
  · have : ¬ kf_ms F n c 0 = true := fun t => (kf_ms_st F n c).mp t a b hb han d1 d2 f
    simpa using this
  · exact (kf_ms_st F n c).mpr (fun a b hb han d1 d2 f => z a b hb (Nat.zero_le a) han d1 d2 f)
theorem kf_yfit {post : Int32 → SY → Prop} (hn : n ≤ 7) (hS : ∀ i, S i ≤ 2) {e : Nat} (he : e ≤ 2187) : ∀ d c r hv wo tk k, c + d = e → d < k → (∀ hv wo tk, post (kf_run (kf_gf W S n L) d c r) (nI n, nI L, hv, wo, kf_a W, kf_a V, kf_a S, kf_a F, tk)) → wY_fitting_9 post (nI e) k r (nI c) (nI n) (nI L) hv wo (kf_a W) (kf_a V) (kf_a S) (kf_a F) tk := by
  intro d
  induction d with
  | zero =>
    intro c r hv wo tk k hc hk h
    cases k with
    | zero => omega
    | succ k => exact br_t (nI_le (by omega) (by omega)) (h hv wo tk)
  | succ d ih =>
    intro c r hv wo tk k hc hk h
    cases k with
    | zero => omega
    | succ k =>
      have h : ∀ hv wo tk, post (kf_run (kf_gf W S n L) d (c + 1) (kf_gf W S n L c r)) (nI n, nI L, hv, wo, kf_a W, kf_a V, kf_a S, kf_a F, tk) := h
      refine br_f (nI_ge (by omega) (by omega)) ?_
      refine kf_choice hn hS (by omega) (fun h1 tk' _ => br_f (by decide) (br_c (fun hl => nm_r (nI_1 c) (ih _ _ _ _ _ _ (by omega) (by omega) ?_)) (fun hl => nm_e (nm_r (nI_1 c) (ih _ _ _ _ _ _ (by omega) (by omega) ?_))))) (fun h0 hv wo tk => br_t rfl (nm_r (nI_1 c) (ih _ _ _ _ _ _ (by omega) (by omega) ?_)))
      · rwa [show kf_gf W S n L c r = r from if_neg (fun z => z.2 hl)] at h
      · rwa [show kf_gf W S n L c r = r + 1 from if_pos ⟨h1, hl⟩] at h
      · rwa [show kf_gf W S n L c r = r from if_neg (fun z => kf_ft h0 z.1)] at h
theorem kf_fitY {post : Int32 → SY → Prop} (hn : n ≤ 7) (hS : ∀ i, S i ≤ 2) (h : ∀ hv wo tk, post (kf_run (kf_gf W S n L) (3 ^ n) 0 0) (nI n, nI L, hv, wo, kf_a W, kf_a V, kf_a S, kf_a F, tk)) : wpY_fitting post (nI n, nI L, hv, wo, kf_a W, kf_a V, kf_a S, kf_a F, tk) := by
  unfold wpY_fitting
  dsimp only
  refine kf_endY hn ?_
  exact ⟨3 ^ n + 1, kf_yfit hn hS (kf_p3 hn) (3 ^ n) 0 0 _ _ _ _ (Nat.zero_add _) (Nat.lt_succ_self _) h⟩
theorem kf_ycw {post : Int32 → SY → Prop} (hn : n ≤ 7) (hS : ∀ i, S i ≤ 2) {x : Int32} {e : Nat} (he : e ≤ 2187) : ∀ d c r hv wo tk k, c + d = e → d < k → (∀ hv wo tk, post (kf_run (kf_gw W S n x) d c r) (nI n, nI L, hv, wo, kf_a W, kf_a V, kf_a S, kf_a F, tk)) → wY_having_10 post x (nI e) k r (nI c) (nI n) (nI L) hv wo (kf_a W) (kf_a V) (kf_a S) (kf_a F) tk := by
  intro d
  induction d with
  | zero =>
    intro c r hv wo tk k hc hk h
    cases k with
    | zero => omega
    | succ k => exact br_t (nI_le (by omega) (by omega)) (h hv wo tk)
  | succ d ih =>
    intro c r hv wo tk k hc hk h
    cases k with
    | zero => omega
    | succ k =>
      have h : ∀ hv wo tk, post (kf_run (kf_gw W S n x) d (c + 1) (kf_gw W S n x c r)) (nI n, nI L, hv, wo, kf_a W, kf_a V, kf_a S, kf_a F, tk) := h
      refine br_f (nI_ge (by omega) (by omega)) ?_
      refine kf_choice hn hS (by omega) (fun h1 tk' _ => br_f (by decide) (br_c (fun hl => nm_e (nm_r (nI_1 c) (ih _ _ _ _ _ _ (by omega) (by omega) ?_))) (fun hl => nm_r (nI_1 c) (ih _ _ _ _ _ _ (by omega) (by omega) ?_)))) (fun h0 hv wo tk => br_t rfl (nm_r (nI_1 c) (ih _ _ _ _ _ _ (by omega) (by omega) ?_)))
      · rwa [show kf_gw W S n x c r = r + 1 from if_pos ⟨h1, hl⟩] at h
      · rwa [show kf_gw W S n x c r = r from if_neg (fun z => hl z.2)] at h
      · rwa [show kf_gw W S n x c r = r from if_neg (fun z => kf_ft h0 z.1)] at h
theorem kf_cwY {post : Int32 → SY → Prop} (hn : n ≤ 7) (hS : ∀ i, S i ≤ 2) {x : Int32} (h : ∀ hv wo tk, post (kf_run (kf_gw W S n x) (3 ^ n) 0 0) (nI n, nI L, hv, wo, kf_a W, kf_a V, kf_a S, kf_a F, tk)) : wpY_having post (nI n, nI L, hv, wo, kf_a W, kf_a V, kf_a S, kf_a F, tk) x := by
  unfold wpY_having
  dsimp only
  refine kf_endY hn ?_
  exact ⟨3 ^ n + 1, kf_ycw hn hS (kf_p3 hn) (3 ^ n) 0 0 _ _ _ _ (Nat.zero_add _) (Nat.lt_succ_self _) h⟩
theorem kf_yfu {post : Int32 → SY → Prop} (hn : n ≤ 7) (hS : ∀ i, S i ≤ 2) {e : Nat} (he : e ≤ 2187) : ∀ d c r hv wo tk k, c + d = e → d < k → (∀ hv wo tk, post (kf_run (kf_gu W S n L) d c r) (nI n, nI L, hv, wo, kf_a W, kf_a V, kf_a S, kf_a F, tk)) → wY_fullest_9 post (nI e) k r (nI c) (nI n) (nI L) hv wo (kf_a W) (kf_a V) (kf_a S) (kf_a F) tk := by
  intro d
  induction d with
  | zero =>
    intro c r hv wo tk k hc hk h
    cases k with
    | zero => omega
    | succ k => exact br_t (nI_le (by omega) (by omega)) (h hv wo tk)
  | succ d ih =>
    intro c r hv wo tk k hc hk h
    cases k with
    | zero => omega
    | succ k =>
      have h : ∀ hv wo tk, post (kf_run (kf_gu W S n L) d (c + 1) (kf_gu W S n L c r)) (nI n, nI L, hv, wo, kf_a W, kf_a V, kf_a S, kf_a F, tk) := h
      refine br_f (nI_ge (by omega) (by omega)) ?_
      refine kf_choice hn hS (by omega) (fun h1 tk' _ => br_f (by decide) (br_c (fun hl => nm_r (nI_1 c) (ih _ _ _ _ _ _ (by omega) (by omega) ?_)) (fun hl => br_c (fun hm => nm_r (nI_1 c) (ih _ _ _ _ _ _ (by omega) (by omega) ?_)) (fun hm => nm_r (nI_1 c) (ih _ _ _ _ _ _ (by omega) (by omega) ?_))))) (fun h0 hv wo tk => br_t rfl (nm_r (nI_1 c) (ih _ _ _ _ _ _ (by omega) (by omega) ?_)))
      · rwa [show kf_gu W S n L c r = r from if_neg (fun z => z.2.1 hl)] at h
      · rwa [show kf_gu W S n L c r = r from if_neg (fun z => z.2.2 hm)] at h
      · rwa [show kf_gu W S n L c r = nI (kf_sd W n c) from if_pos ⟨h1, hl, hm⟩] at h
      · rwa [show kf_gu W S n L c r = r from if_neg (fun z => kf_ft h0 z.1)] at h
theorem kf_fuY {post : Int32 → SY → Prop} (hn : n ≤ 7) (hS : ∀ i, S i ≤ 2) (h : ∀ hv wo tk, post (kf_run (kf_gu W S n L) (3 ^ n) 0 0) (nI n, nI L, hv, wo, kf_a W, kf_a V, kf_a S, kf_a F, tk)) : wpY_fullest post (nI n, nI L, hv, wo, kf_a W, kf_a V, kf_a S, kf_a F, tk) := by
  unfold wpY_fullest
  dsimp only
  refine kf_endY hn ?_
  exact ⟨3 ^ n + 1, kf_yfu hn hS (kf_p3 hn) (3 ^ n) 0 0 _ _ _ _ (Nat.zero_add _) (Nat.lt_succ_self _) h⟩
theorem kf_yli {post : Int32 → SY → Prop} (hn : n ≤ 7) (hS : ∀ i, S i ≤ 2) {x : Int32} {e : Nat} (he : e ≤ 2187) : ∀ d c r hv wo tk k, c + d = e → d < k → (∀ hv wo tk, post (kf_run (kf_gl W V S n x) d c r) (nI n, nI L, hv, wo, kf_a W, kf_a V, kf_a S, kf_a F, tk)) → wY_lightest_10 post x (nI e) k r (nI c) (nI n) (nI L) hv wo (kf_a W) (kf_a V) (kf_a S) (kf_a F) tk := by
  intro d
  induction d with
  | zero =>
    intro c r hv wo tk k hc hk h
    cases k with
    | zero => omega
    | succ k => exact br_t (nI_le (by omega) (by omega)) (h hv wo tk)
  | succ d ih =>
    intro c r hv wo tk k hc hk h
    cases k with
    | zero => omega
    | succ k =>
      have h : ∀ hv wo tk, post (kf_run (kf_gl W V S n x) d (c + 1) (kf_gl W V S n x c r)) (nI n, nI L, hv, wo, kf_a W, kf_a V, kf_a S, kf_a F, tk) := h
      refine br_f (nI_ge (by omega) (by omega)) ?_
      refine kf_choice hn hS (by omega) (fun h1 tk' _ => br_f (by decide) (br_c (fun hl => nm_r (nI_1 c) (ih _ _ _ _ _ _ (by omega) (by omega) ?_)) (fun hl => br_c (fun hm => nm_r (nI_1 c) (ih _ _ _ _ _ _ (by omega) (by omega) ?_)) (fun hm => br_c (fun hq => nm_r (nI_1 c) (ih _ _ _ _ _ _ (by omega) (by omega) ?_)) (fun hq => nm_r (nI_1 c) (ih _ _ _ _ _ _ (by omega) (by omega) ?_)))))) (fun h0 hv wo tk => br_t rfl (nm_r (nI_1 c) (ih _ _ _ _ _ _ (by omega) (by omega) ?_)))
      · rwa [show kf_gl W V S n x c r = r from if_neg (fun z => z.2.1 hl)] at h
      · rwa [show kf_gl W V S n x c r = nI (kf_sd W n c) from if_pos ⟨h1, hl, Or.inl hm⟩] at h
      · rwa [show kf_gl W V S n x c r = r from if_neg (fun z => z.2.2.elim hm (fun y => y hq))] at h
      · rwa [show kf_gl W V S n x c r = nI (kf_sd W n c) from if_pos ⟨h1, hl, Or.inr hq⟩] at h
      · rwa [show kf_gl W V S n x c r = r from if_neg (fun z => kf_ft h0 z.1)] at h
theorem kf_liY {post : Int32 → SY → Prop} (hn : n ≤ 7) (hS : ∀ i, S i ≤ 2) {x : Int32} (h : ∀ hv wo tk, post (kf_run (kf_gl W V S n x) (3 ^ n) 0 (-1)) (nI n, nI L, hv, wo, kf_a W, kf_a V, kf_a S, kf_a F, tk)) : wpY_lightest post (nI n, nI L, hv, wo, kf_a W, kf_a V, kf_a S, kf_a F, tk) x := by
  unfold wpY_lightest
  dsimp only
  refine kf_endY hn ?_
  exact ⟨3 ^ n + 1, kf_yli hn hS (kf_p3 hn) (3 ^ n) 0 (-1) _ _ _ _ (Nat.zero_add _) (Nat.lt_succ_self _) h⟩
theorem kf_y79 {post : Int32 → SY → Prop} {J : Int32 → Int32 → Int32 → Int32 → Int32 → Int32 → Int32 → Int32 → (Nat → Int32) → (Nat → Int32) → (Nat → Int32) → (Nat → Int32) → (Nat → Int32) → Prop} {x1 x2 x3 x4 x5 x6 : Int32} {c : Nat} (hy : (x5 < wo ∨ (wo = x5 ∧ ¬ x6 ≤ hv)) → J (nI c) wo hv (nI (c + 1)) (nI n) (nI L) hv wo (kf_a W) (kf_a V) (kf_a S) (kf_a F) tk) (hz : ¬ (x5 < wo ∨ (wo = x5 ∧ ¬ x6 ≤ hv)) → J x4 x5 x6 (nI (c + 1)) (nI n) (nI L) hv wo (kf_a W) (kf_a V) (kf_a S) (kf_a F) tk) : wY_search_79 post J x1 x2 x3 x4 x5 x6 (nI c) (nI n) (nI L) hv wo (kf_a W) (kf_a V) (kf_a S) (kf_a F) tk :=
  br_c (fun q => nm_r (nI_1 c) (hy (Or.inl q))) (fun q => br_c (fun q2 => br_c (fun q3 => nm_r (nI_1 c) (hz (fun b => b.elim q (fun y => y.2 q3)))) (fun q3 => nm_r (nI_1 c) (hy (Or.inr ⟨q2, q3⟩)))) (fun q2 => nm_r (nI_1 c) (hz (fun b => b.elim q (fun y => q2 y.1)))))
theorem kf_ysr {post : Int32 → SY → Prop} (hn : n ≤ 7) (hS : ∀ i, S i ≤ 2) (hF : ∀ i, F i ≤ 3) {st : Bool} {g : Option Nat} (hg : ∀ x, g = some x → x < n) {e : Nat} (he : e ≤ 2187) : ∀ d c s hv wo tk k, c + d = e → d < k → (∀ hv wo tk, post (kf_run (kf_gb W V n L (kf_al S F n st g)) d c s).1 (nI n, nI L, hv, wo, kf_a W, kf_a V, kf_a S, kf_a F, tk)) → wY_search_17 post (kf_b st) (kf_br g) (nI e) k s.1 s.2.1 s.2.2 (nI c) (nI n) (nI L) hv wo (kf_a W) (kf_a V) (kf_a S) (kf_a F) tk := by
  intro d
  induction d with
  | zero =>
    intro c s hv wo tk k hc hk h
    cases k with
    | zero => omega
    | succ k => exact br_t (nI_le (by omega) (by omega)) (h hv wo tk)
  | succ d ih =>
    intro c s hv wo tk k hc hk h
    cases k with
    | zero => omega
    | succ k =>
      have h : ∀ hv wo tk, post (kf_run (kf_gb W V n L (kf_al S F n st g)) d (c + 1) (kf_gb W V n L (kf_al S F n st g) c s)).1 (nI n, nI L, hv, wo, kf_a W, kf_a V, kf_a S, kf_a F, tk) := h
      have hz : ¬ (kf_al S F n st g c = true ∧ ¬ nI L < nI (kf_sd W n c) ∧ (s.2.1 < nI (kf_sd V n c) ∨ (nI (kf_sd V n c) = s.2.1 ∧ ¬ s.2.2 ≤ nI (kf_sd W n c)))) → ∀ hv wo tk, wY_search_17 post (kf_b st) (kf_br g) (nI e) k s.1 s.2.1 s.2.2 (nI (c + 1)) (nI n) (nI L) hv wo (kf_a W) (kf_a V) (kf_a S) (kf_a F) tk := by
        intro a hv wo tk
        refine ih (c + 1) s hv wo tk k (by omega) (by omega) ?_
        rwa [show kf_gb W V n L (kf_al S F n st g) c s = s from if_neg a] at h
      have hy : (kf_al S F n st g c = true ∧ ¬ nI L < nI (kf_sd W n c) ∧ (s.2.1 < nI (kf_sd V n c) ∨ (nI (kf_sd V n c) = s.2.1 ∧ ¬ s.2.2 ≤ nI (kf_sd W n c)))) → ∀ hv wo tk, wY_search_17 post (kf_b st) (kf_br g) (nI e) k (nI c) (nI (kf_sd V n c)) (nI (kf_sd W n c)) (nI (c + 1)) (nI n) (nI L) hv wo (kf_a W) (kf_a V) (kf_a S) (kf_a F) tk := by
        intro a hv wo tk
        refine ih (c + 1) (nI c, nI (kf_sd V n c), nI (kf_sd W n c)) hv wo tk k (by omega) (by omega) ?_
        rwa [show kf_gb W V n L (kf_al S F n st g) c s = (nI c, nI (kf_sd V n c), nI (kf_sd W n c)) from if_pos a] at h
      refine br_f (nI_ge (by omega) (by omega)) ?_
      refine kf_choice hn hS (by omega) (fun h1 tk' ht => br_f (by decide) (br_c (fun hl => ?_) (fun hl => ?_))) (fun h0 hv wo tk => br_t rfl ?_)
      · exact br_t rfl (nm_r (nI_1 c) (hz (fun z => z.2.1 hl) _ _ _))
      · have tail : (!st || kf_ms F n c 0) = true → wY_search_54 post (wY_search_17 post (kf_b st) (kf_br g) (nI e) k) (kf_b st) (kf_br g) (nI e) s.1 s.2.1 s.2.2 (nI c) (nI n) (nI L) (nI (kf_sd W n c)) (nI (kf_sd V n c)) (kf_a W) (kf_a V) (kf_a S) (kf_a F) tk' := by
          intro a2
          refine br_f (by decide) ?_
          cases g with
          | none =>
            have al : kf_al S F n st none c = true := by unfold kf_al; rw [h1, a2]; rfl
            exact br_t (by decide) (kf_y79 (fun b => hy ⟨al, hl, b⟩ _ _ _) (fun b => hz (fun z => b z.2.2) _ _ _))
          | some x =>
            have hx := hg x rfl
            refine br_f (nI_pos (by omega)) ⟨vp_in_nI (by omega) (by omega), ek_if (d := kf_dg n c x = 0) ?_ (fun t => ?_) (fun t => ?_)⟩
            · rw [show kf_br (some x) = nI x from rfl, nI_clamp (by omega), ht x hx]
              exact nI_eq (b := 0) (by have := kf_dg_le n c x; omega) (by decide)
            · have al : kf_al S F n st (some x) c = true := by unfold kf_al; rw [h1, a2]; simp [t]
              exact kf_y79 (fun b => hy ⟨al, hl, b⟩ _ _ _) (fun b => hz (fun z => b z.2.2) _ _ _)
            · have al : kf_al S F n st (some x) c = false := by unfold kf_al; rw [h1, a2]; simp [t]
              exact nm_r (nI_1 c) (hz (fun z => kf_ft al z.1) _ _ _)
        cases st with
        | false => exact br_t rfl (tail rfl)
        | true =>
          refine br_f (by decide) ?_
          refine kf_strictY hn hF ht (fun b1 => br_f (by decide) (tail ?_)) (fun b0 => br_t rfl ?_)
          · rw [b1]; rfl
          · have al : kf_al S F n true g c = false := by unfold kf_al; rw [h1, b0]; rfl
            exact br_t rfl (nm_r (nI_1 c) (hz (fun z => kf_ft al z.1) _ _ _))
      · exact br_t rfl (nm_r (nI_1 c) (hz (fun z => kf_ft h0 (kf_al_oc z.1)) _ _ _))
theorem kf_findY {post : Int32 → SY → Prop} (hn : n ≤ 7) (hS : ∀ i, S i ≤ 2) (hF : ∀ i, F i ≤ 3) {st : Bool} {g : Option Nat} (hg : ∀ x, g = some x → x < n) (h : ∀ hv wo tk, post (kf_bc W V S F n L st g) (nI n, nI L, hv, wo, kf_a W, kf_a V, kf_a S, kf_a F, tk)) : wpY_search post (nI n, nI L, hv, wo, kf_a W, kf_a V, kf_a S, kf_a F, tk) (kf_b st) (kf_br g) := by
  unfold wpY_search
  dsimp only
  refine kf_endY hn ?_
  exact ⟨3 ^ n + 1, kf_ysr hn hS hF hg (kf_p3 hn) (3 ^ n) 0 (0, 0, 0) _ _ _ _ (Nat.zero_add _) (Nat.lt_succ_self _) h⟩
theorem kf_valY {post : Int32 → SY → Prop} (hn : n ≤ 7) (hS : ∀ i, S i ≤ 2) {c : Nat} (hc : c < 2 ^ 31) (ho : kf_oc S n c = true) (h : ∀ hv wo tk, post (nI (kf_sd V n c)) (nI n, nI L, hv, wo, kf_a W, kf_a V, kf_a S, kf_a F, tk)) : wpY_valueAt post (nI n, nI L, hv, wo, kf_a W, kf_a V, kf_a S, kf_a F, tk) (nI c) := by
  unfold wpY_valueAt
  dsimp only
  exact kf_choice hn hS hc (fun _ tk' _ => br_f (by decide) (h _ _ _)) (fun o => absurd ho (kf_ft o))
theorem kf_yha {post : Int32 → SY → Prop} (hn : n ≤ 7) (hW : ∀ i, W i ≤ 20) (hS : ∀ i, S i ≤ 2) (h : ∀ hv wo tk, post (kf_hv W S n) (nI n, nI L, hv, wo, kf_a W, kf_a V, kf_a S, kf_a F, tk)) : ∀ d i k, i + d = n → d < k → wY_halves_4 post (nI n) (nI L) hv wo (kf_a W) (kf_a V) (kf_a S) (kf_a F) tk k (nI (kf_wh W S i)) (nI i) := by
  intro d
  induction d with
  | zero =>
    intro i k hi hk
    cases k with
    | zero => omega
    | succ k =>
      have hi : i = n := by omega
      rw [hi]
      have hb := kf_wh_le hW hS n
      refine br_t (nI_le (Nat.le_refl _) (by omega)) ⟨by decide, ek_if (d := kf_wh W S n % 2 = 0) ?_ (fun e => ⟨by decide, ?_⟩) (fun e => ?_)⟩
      · rw [show nI (kf_wh W S n) - nI (kf_wh W S n) / 2 * 2 = nI (kf_wh W S n % 2) from pk_rem (d := 2) (by omega) (by decide) (by decide)]
        exact nI_eq (b := 0) (by omega) (by decide)
      · rw [show nI (kf_wh W S n) / 2 = nI (kf_wh W S n / 2) from pk_div (d := 2) (by omega) (by decide) (by decide)]
        refine kf_cwY hn hS (fun hv wo tk => ?_)
        refine br_c (fun q => ?_) (fun q => ?_)
        · rw [show kf_hv W S n = 0 from if_neg (fun z => z.2 q)] at h; exact h _ _ _
        · rw [show kf_hv W S n = 1 from if_pos ⟨e, q⟩] at h; exact h _ _ _
      · rw [show kf_hv W S n = 0 from if_neg (fun z => e z.1)] at h; exact h _ _ _
  | succ d ih =>
    intro i k hi hk
    cases k with
    | zero => omega
    | succ k =>
      refine br_f (nI_ge (by omega) (by omega)) (br_f (nI_ge (b := 7) (by omega) (by decide)) ⟨vp_in_nI (by omega) (by omega), vp_in_nI (by omega) (by omega), nm_r (e' := nI (kf_wh W S (i + 1))) ?_ (nm_r (nI_1 i) (ih (i + 1) k (by omega) (by omega)))⟩)
      rw [kf_at W (by omega), kf_at S (by omega), pk_mul, nI_add, Nat.mul_comm]
      rfl
theorem kf_haY {post : Int32 → SY → Prop} (hn : n ≤ 7) (hW : ∀ i, W i ≤ 20) (hS : ∀ i, S i ≤ 2) (h : ∀ hv wo tk, post (kf_hv W S n) (nI n, nI L, hv, wo, kf_a W, kf_a V, kf_a S, kf_a F, tk)) : wpY_halves post (nI n, nI L, hv, wo, kf_a W, kf_a V, kf_a S, kf_a F, tk) :=
  ⟨n + 1, kf_yha hn hW hS h n 0 (n + 1) (by omega) (by omega)⟩
end
end
section
section
variable {n L : Nat} {W V S F : Nat → Nat} {bp : Nat → Int32} {hv wo : Int32} {tk : Nat → Int32}
theorem kf_xem {post : SX → Prop} (h : ∀ bp, (∀ j, j < 3721 → bp j = 0) → post (nI n, nI L, kf_a W, kf_a V, kf_a S, kf_a F, bp)) : ∀ d i bp k, i + d = 3721 → d < k → (∀ j, j < i → bp j = 0) → wX_emptyBothSacks_2 post (nI n) (nI L) k (nI i) (kf_a W) (kf_a V) (kf_a S) (kf_a F) bp := by
  intro d
  induction d with
  | zero =>
    intro i bp k hi hk hb
    cases k with
    | zero => omega
    | succ k => exact br_t (nI_le (a := 3721) (by omega) (by omega)) (h bp (fun j hj => hb j (by omega)))
  | succ d ih =>
    intro i bp k hi hk hb
    cases k with
    | zero => omega
    | succ k =>
      refine br_f (nI_ge (b := 3721) (by omega) (by decide)) ⟨vp_in_nI (by omega) (by decide), nm_e (nm_r (nI_1 i) (ih (i + 1) _ k (by omega) (by omega) (fun j hj => ?_)))⟩
      rw [nI_clamp (by omega)]
      by_cases hji : j = i
      · rw [hji, pk_us]
      · rw [pk_un hji]; exact hb j (by omega)
theorem kf_emptyX {post : SX → Prop} (h : ∀ bp, (∀ j, j < 3721 → bp j = 0) → post (nI n, nI L, kf_a W, kf_a V, kf_a S, kf_a F, bp)) : wpX_emptyBothSacks post (nI n, nI L, kf_a W, kf_a V, kf_a S, kf_a F, bp) :=
  ⟨3722, kf_xem h 3721 0 bp 3722 (by decide) (by decide) (fun j hj => absurd hj (Nat.not_lt_zero j))⟩
/-- the table holds f -/
def kf_tab (f : Nat → Nat → Nat) (bp : Nat → Int32) : Prop := ∀ x y, x ≤ 60 → y ≤ 60 → bp (x * 61 + y) = nI (f x y)
/-- rows above a, and in row a the columns from q on, know of the piece -/
def kf_T (w v : Nat) (f : Nat → Nat → Nat) (a q : Nat) (bp : Nat → Int32) : Prop := ∀ x y, x ≤ 60 → y ≤ 60 → bp (x * 61 + y) = nI (if a < x ∨ (x = a ∧ q ≤ y) then kf_op w v f x y else f x y)
theorem kf_T_rd {w v : Nat} {f : Nat → Nat → Nat} {a q : Nat} {bp : Nat → Int32} (h : kf_T w v f a q bp) {x y : Nat} (hx : x ≤ a) (hy : y < q) (ha : a ≤ 60) (hq : y ≤ 60) : bp (x * 61 + y) = nI (f x y) := by
  rw [h x y (by omega) hq, if_neg (by omega)]
theorem kf_T_wr {w v : Nat} {f : Nat → Nat → Nat} {a q : Nat} {bp : Nat → Int32} (h : kf_T w v f a (q + 1) bp) (hq : q ≤ 60) : kf_T w v f a q (upd bp (a * 61 + q) (nI (kf_op w v f a q))) := by
  intro x y hx hy
  by_cases e : x = a ∧ y = q
  · rw [e.1, e.2, pk_us, if_pos (by omega)]
  · rw [pk_un (by omega), h x y hx hy]
    by_cases c : a < x ∨ (x = a ∧ q ≤ y)
    · rw [if_pos c, if_pos (by omega)]
    · rw [if_neg c, if_neg (by omega)]
/-- the greater of what was there and what the first sack would hold -/
def kf_o1 (w v : Nat) (f : Nat → Nat → Nat) (a q : Nat) : Nat := if w ≤ a then (if f a q < f (a - w) q + v then f (a - w) q + v else f a q) else f a q
theorem kf_op_o1 (w v : Nat) (f : Nat → Nat → Nat) (a q : Nat) : kf_op w v f a q = if w ≤ q then (if kf_o1 w v f a q < f a (q - w) + v then f a (q - w) + v else kf_o1 w v f a q) else kf_o1 w v f a q := rfl
theorem kf_x71 {post : SX → Prop} {J3 J11 : Int32 → (Nat → Int32) → (Nat → Int32) → (Nat → Int32) → (Nat → Int32) → (Nat → Int32) → Prop} {w v a q : Nat} {f : Nat → Nat → Nat} (hf : ∀ x y, f x y ≤ 2000) (hv : v ≤ 50) (hw : w ≤ 20) (ha : a ≤ 60) (hq : q ≤ 60) {bp : Nat → Int32} (hT : kf_T w v f a (q + 1) bp)
    (h : J11 (nI q - 1) (kf_a W) (kf_a V) (kf_a S) (kf_a F) (upd bp (a * 61 + q) (nI (kf_op w v f a q)))) :
    wX_offerToBothSacks_71 post J3 J11 (nI w) (nI v) (nI a) (nI q) (nI (a * 61 + q)) (nI (kf_o1 w v f a q)) (nI n) (nI L) (kf_a W) (kf_a V) (kf_a S) (kf_a F) bp := by
  have hb : kf_o1 w v f a q ≤ 2050 := by
    unfold kf_o1
    have h1 := hf a q
    have h2 := hf (a - w) q
    split
    · split <;> omega
    · omega
  have hin : vp_in (nI (a * 61 + q)) 3721 := vp_in_nI (by omega) (by decide)
  have hcl : (nI (a * 61 + q)).toNatClampNeg = a * 61 + q := nI_clamp (by omega)
  refine ek_if (d := q < w) (nI_ltI (by omega) (by omega)) (fun e => ⟨hin, nm_r (e' := upd bp (a * 61 + q) (nI (kf_op w v f a q))) ?_ (nm_r (kf_m1 _) h)⟩) (fun e => ?_)
  · rw [hcl, kf_op_o1, if_neg (by omega)]
  · have hqw : w ≤ q := by omega
    have e5 : nI (a * 61 + q) - nI w = nI (a * 61 + (q - w)) := by
      rw [pk_sub (by omega)]; exact congrArg nI (by omega)
    have h2 := hf a (q - w)
    have hin2 : vp_in (nI (a * 61 + q) - nI w) 3721 := by rw [e5]; exact vp_in_nI (by omega) (by decide)
    have e7 : bp (nI (a * 61 + q) - nI w).toNatClampNeg + nI v = nI (f a (q - w) + v) := by
      rw [e5, nI_clamp (by omega), kf_T_rd hT (Nat.le_refl a) (by omega) ha (by omega), nI_add]
    refine ⟨hin2, nm_r e7 (ek_if (d := f a (q - w) + v ≤ kf_o1 w v f a q) (nI_leI (by omega) (by omega)) (fun g => ⟨hin, nm_r (e' := upd bp (a * 61 + q) (nI (kf_op w v f a q))) ?_ (nm_r (kf_m1 _) h)⟩) (fun g => ⟨hin, nm_r (e' := upd bp (a * 61 + q) (nI (kf_op w v f a q))) ?_ (nm_r (kf_m1 _) h)⟩))⟩
    · rw [hcl, kf_op_o1, if_pos hqw, if_neg (by omega)]
    · rw [hcl, kf_op_o1, if_pos hqw, if_pos (by omega)]
theorem kf_xin {post : SX → Prop} {J3 : Int32 → (Nat → Int32) → (Nat → Int32) → (Nat → Int32) → (Nat → Int32) → (Nat → Int32) → Prop} {w v a : Nat} {f : Nat → Nat → Nat} (hf : ∀ x y, f x y ≤ 2000) (hv : v ≤ 50) (hw : w ≤ 20) (ha : a ≤ 60)
    (h : ∀ bp, kf_T w v f a 0 bp → J3 (nI a - 1) (kf_a W) (kf_a V) (kf_a S) (kf_a F) bp) : ∀ q bp k, q ≤ 61 → q < k → kf_T w v f a q bp → wX_offerToBothSacks_11 post J3 (nI w) (nI v) (nI a) (nI n) (nI L) k (nI q - 1) (kf_a W) (kf_a V) (kf_a S) (kf_a F) bp := by
  intro q
  induction q with
  | zero =>
    intro bp k _ hk hT
    cases k with
    | zero => omega
    | succ k => exact br_t kf_lo (nm_r (kf_m1 _) (h bp hT))
  | succ q ih =>
    intro bp k hq hk hT
    cases k with
    | zero => omega
    | succ k =>
      rw [nI_pred]
      have e5 : nI a * 61 + nI q = nI (a * 61 + q) := by
        rw [show nI a * 61 = nI (a * 61) from pk_mul a 61, nI_add]
      have h1 := hf a q
      have h2 := hf (a - w) q
      have e6 : bp (nI (a * 61 + q)).toNatClampNeg = nI (f a q) := by
        rw [nI_clamp (by omega)]; exact kf_T_rd hT (Nat.le_refl a) (by omega) ha (by omega)
      have go : wX_offerToBothSacks_71 post J3 (wX_offerToBothSacks_11 post J3 (nI w) (nI v) (nI a) (nI n) (nI L) k) (nI w) (nI v) (nI a) (nI q) (nI (a * 61 + q)) (nI (kf_o1 w v f a q)) (nI n) (nI L) (kf_a W) (kf_a V) (kf_a S) (kf_a F) bp :=
        kf_x71 hf hv hw ha (by omega) hT (ih _ k (by omega) (by omega) (kf_T_wr hT (by omega)))
      refine br_f (nI_pos (by omega)) (nm_r e5 ⟨vp_in_nI (by omega) (by decide), nm_r e6 (ek_if (d := a < w) (nI_ltI (by omega) (by omega)) (fun e => ?_) (fun e => ?_))⟩)
      · rw [show kf_o1 w v f a q = f a q from if_neg (by omega)] at go
        exact go
      · have haw : w ≤ a := by omega
        have e8 : nI (a * 61 + q) - nI w * 61 = nI ((a - w) * 61 + q) := by
          rw [show nI w * 61 = nI (w * 61) from pk_mul w 61, pk_sub (by omega)]; exact congrArg nI (by omega)
        have hin : vp_in (nI (a * 61 + q) - nI w * 61) 3721 := by rw [e8]; exact vp_in_nI (by omega) (by decide)
        have e7 : bp (nI (a * 61 + q) - nI w * 61).toNatClampNeg + nI v = nI (f (a - w) q + v) := by
          rw [e8, nI_clamp (by omega), kf_T_rd hT (by omega) (by omega) ha (by omega), nI_add]
        refine ⟨hin, nm_r e7 (ek_if (d := f (a - w) q + v ≤ f a q) (nI_leI (by omega) (by omega)) (fun g => ?_) (fun g => ?_))⟩
        · rw [show kf_o1 w v f a q = f a q from (if_pos haw).trans (if_neg (by omega))] at go
          exact go
        · rw [show kf_o1 w v f a q = f (a - w) q + v from (if_pos haw).trans (if_pos (by omega))] at go
          exact go
theorem kf_xou {post : SX → Prop} {w v : Nat} {f : Nat → Nat → Nat} (hf : ∀ x y, f x y ≤ 2000) (hv : v ≤ 50) (hw : w ≤ 20)
    (h : ∀ bp, kf_tab (kf_op w v f) bp → post (nI n, nI L, kf_a W, kf_a V, kf_a S, kf_a F, bp)) : ∀ p bp k, p ≤ 61 → p < k → (∀ x y, x ≤ 60 → y ≤ 60 → bp (x * 61 + y) = nI (if p ≤ x then kf_op w v f x y else f x y)) → wX_offerToBothSacks_3 post (nI w) (nI v) (nI n) (nI L) k (nI p - 1) (kf_a W) (kf_a V) (kf_a S) (kf_a F) bp := by
  intro p
  induction p with
  | zero =>
    intro bp k _ hk hT
    cases k with
    | zero => omega
    | succ k =>
      refine br_t kf_lo (h bp (fun x y hx hy => ?_))
      rw [hT x y hx hy, if_pos (Nat.zero_le x)]
  | succ p ih =>
    intro bp k hp hk hT
    cases k with
    | zero => omega
    | succ k =>
      rw [nI_pred]
      refine br_f (nI_pos (by omega)) ⟨62, ?_⟩
      refine kf_xin hf hv hw (by omega) (fun bp hB => ih bp k (by omega) (by omega) (fun x y hx hy => ?_)) 61 bp 62 (by decide) (by decide) (fun x y hx hy => ?_)
      · rw [hB x y hx hy]
        by_cases c : p ≤ x
        · rw [if_pos c, if_pos (by omega)]
        · rw [if_neg c, if_neg (by omega)]
      · rw [hT x y hx hy]
        by_cases c : p + 1 ≤ x
        · rw [if_pos c, if_pos (by omega)]
        · rw [if_neg c, if_neg (by omega)]
theorem kf_offerX {post : SX → Prop} {w v : Nat} {f : Nat → Nat → Nat} (hf : ∀ x y, f x y ≤ 2000) (hv : v ≤ 50) (hw : w ≤ 20) (hT : kf_tab f bp) (h : ∀ bp, kf_tab (kf_op w v f) bp → post (nI n, nI L, kf_a W, kf_a V, kf_a S, kf_a F, bp)) : wpX_offerToBothSacks post (nI n, nI L, kf_a W, kf_a V, kf_a S, kf_a F, bp) (nI w) (nI v) := by
  refine ⟨62, kf_xou hf hv hw h 61 bp 62 (by decide) (by decide) (fun x y hx hy => ?_)⟩
  rw [hT x y hx hy, if_neg (by omega)]
theorem kf_xpi {post : Int32 → SX → Prop} {J : Int32 → Int32 → Int32 → (Nat → Int32) → (Nat → Int32) → (Nat → Int32) → (Nat → Int32) → (Nat → Int32) → Prop} {x1 : Int32} (hW : ∀ i, W i ≤ 20) (hV : ∀ i, V i ≤ 50) (hS : ∀ i, S i ≤ 2) {i : Nat} (hi : i < 7) {f : Nat → Nat → Nat} (hf : ∀ x y, f x y ≤ 1000)
    (h : ∀ bp, kf_tab (kf_ops (W i) (V i) f (S i)) bp → J (nI (i + 1)) (nI n) (nI L) (kf_a W) (kf_a V) (kf_a S) (kf_a F) bp) : ∀ d s bp k, s + d = S i → d < k → kf_tab (kf_ops (W i) (V i) f s) bp → wX_two_28 post J x1 (nI i) k (nI s) (nI n) (nI L) (kf_a W) (kf_a V) (kf_a S) (kf_a F) bp := by
  have hin : vp_in (nI i) 7 := vp_in_nI hi (by decide)
  have h2 := hS i
  intro d
  induction d with
  | zero =>
    intro s bp k hs hk hT
    cases k with
    | zero => omega
    | succ k =>
      refine ⟨hin, br_t ?_ (nm_r (nI_1 i) (h bp ?_))⟩
      · rw [kf_at S (by omega)]; exact nI_le (by omega) (by omega)
      · rw [show S i = s by omega]; exact hT
  | succ d ih =>
    intro s bp k hs hk hT
    cases k with
    | zero => omega
    | succ k =>
      refine ⟨hin, br_f ?_ ⟨hin, hin, ?_⟩⟩
      · rw [kf_at S (by omega)]; exact nI_ge (by omega) (by omega)
      · rw [kf_at W (by omega), kf_at V (by omega)]
        refine kf_offerX (f := kf_ops (W i) (V i) f s) (fun x y => ?_) (hV i) (hW i) hT (fun bp hB => nm_r (nI_1 s) (ih (s + 1) bp k (by omega) (by omega) hB))
        have h3 := kf_ops_le (w := W i) (v := V i) hf s x y
        have h4 : s * V i ≤ 2 * 50 := Nat.mul_le_mul (by omega) (hV i)
        omega
theorem kf_xgo {post : Int32 → SX → Prop} (hn : n ≤ 7) (hL : L ≤ 60) (hW : ∀ i, W i ≤ 20) (hV : ∀ i, V i ≤ 50) (hS : ∀ i, S i ≤ 2) {o : Nat} (ho : o ≤ 60)
    (h : ∀ bp, post (nI (kf_R W V S n L o)) (nI n, nI L, kf_a W, kf_a V, kf_a S, kf_a F, bp)) : ∀ d i bp k, i + d = n → d < k → kf_tab (kf_R W V S i) bp → wX_two_18 post (nI o) k (nI i) (nI n) (nI L) (kf_a W) (kf_a V) (kf_a S) (kf_a F) bp := by
  intro d
  induction d with
  | zero =>
    intro i bp k hi hk hT
    cases k with
    | zero => omega
    | succ k =>
      have hi : i = n := by omega
      rw [hi] at hT ⊢
      have e : nI L * 61 + nI o = nI (L * 61 + o) := by
        rw [show nI L * 61 = nI (L * 61) from pk_mul L 61, nI_add]
      refine br_t (nI_le (Nat.le_refl _) (by omega)) ⟨?_, ?_⟩
      · rw [e]; exact vp_in_nI (by omega) (by decide)
      · rw [e, nI_clamp (by omega), hT L o hL ho]; exact h bp
  | succ d ih =>
    intro i bp k hi hk hT
    cases k with
    | zero => omega
    | succ k =>
      have h2 := hS i
      refine br_f (nI_ge (by omega) (by omega)) ⟨4, ?_⟩
      refine kf_xpi hW hV hS (by omega) (f := kf_R W V S i) (fun x y => ?_) (fun bp hB => ih (i + 1) bp k (by omega) (by omega) hB) (S i) 0 bp 4 (by omega) (by omega) hT
      have := kf_R_le (W := W) hV hS i x y
      omega
theorem kf_twoX {post : Int32 → SX → Prop} (hn : n ≤ 7) (hL : L ≤ 60) (hW : ∀ i, W i ≤ 20) (hV : ∀ i, V i ≤ 50) (hS : ∀ i, S i ≤ 2) {o : Nat} (ho : o ≤ 60) (h : ∀ bp, post (nI (kf_R W V S n L o)) (nI n, nI L, kf_a W, kf_a V, kf_a S, kf_a F, bp)) : wpX_two post (nI n, nI L, kf_a W, kf_a V, kf_a S, kf_a F, bp) (nI o) := by
  refine br_f (nI_pos (by omega)) (br_t (nI_le (b := 60) ho (by decide)) ?_)
  refine kf_emptyX (fun bp hb => ⟨n + 1, kf_xgo hn hL hW hV hS ho h n 0 bp (n + 1) (by omega) (by omega) (fun x y hx hy => ?_)⟩)
  exact hb (x * 61 + y) (by omega)
theorem kf_ok_mono {S d : Nat → Nat} : ∀ m i, i ≤ m → kf_ok S d m = true → kf_ok S d i = true := by
  intro m
  induction m with
  | zero => intro i hi h; rw [show i = 0 by omega]; exact h
  | succ m ih =>
    intro i hi h
    by_cases e : i = m + 1
    · rw [e]; exact h
    · have h' : (kf_ok S d m && decide (kf_da (d m) + kf_db (d m) ≤ S m)) = true := h
      exact ih i (by omega) (Bool.and_eq_true_iff.mp h').1
theorem kf_dab : ∀ x, x < 6 → kf_da x ≤ 2 ∧ kf_db x ≤ 2 := by decide
theorem kf_f_le {d : Nat → Nat} (hd : ∀ i, d i < 6) (hW : ∀ i, W i ≤ 20) (hV : ∀ i, V i ≤ 50) : ∀ i, kf_f1 W d i ≤ 40 * i ∧ kf_f2 W d i ≤ 40 * i ∧ kf_fv V d i ≤ 200 * i := by
  intro i
  induction i with
  | zero => exact ⟨Nat.le_refl 0, Nat.le_refl 0, Nat.le_refl 0⟩
  | succ i ih =>
    have hx := kf_dab (d i) (hd i)
    have h1 := Nat.mul_le_mul hx.1 (hW i)
    have h2 := Nat.mul_le_mul hx.2 (hW i)
    have h3 := Nat.mul_le_mul (Nat.add_le_add hx.1 hx.2) (hV i)
    show kf_f1 W d i + kf_da (d i) * W i ≤ 40 * (i + 1) ∧ kf_f2 W d i + kf_db (d i) * W i ≤ 40 * (i + 1) ∧ kf_fv V d i + (kf_da (d i) + kf_db (d i)) * V i ≤ 200 * (i + 1)
    omega
theorem kf_y84 {post : Int32 → Prop} {J : Int32 → Int32 → Int32 → Int32 → Int32 → Prop} {x2 : Int32} {i r a b : Nat} (hi : i < 7) (hr : r < 2 ^ 31) (hS : ∀ i, S i ≤ 2) (ha : a ≤ 2) (hb : b ≤ 2) {f1 f2 fv : Nat}
    (h : a + b ≤ S i → J (nI (r / 6)) (nI (f1 + a * W i)) (nI (f2 + b * W i)) (nI (fv + (a + b) * V i)) (nI (i + 1))) (hx : ¬ a + b ≤ S i → post (-1)) :
    wY_both_84 post J x2 (nI r) (nI f1) (nI f2) (nI fv) (nI i) (nI a) (nI b) (nI n) (nI L) hv wo (kf_a W) (kf_a V) (kf_a S) (kf_a F) tk := by
  have hin : vp_in (nI i) 7 := vp_in_nI hi (by decide)
  have h2 := hS i
  refine ⟨hin, ek_if (d := a + b ≤ S i) ?_ (fun e => ⟨hin, nm_r (e' := nI (f1 + a * W i)) ?_ ⟨hin, nm_r (e' := nI (f2 + b * W i)) ?_ ⟨hin, nm_r (e' := nI (fv + (a + b) * V i)) ?_ ⟨by decide, nm_r (e' := nI (r / 6)) ?_ (nm_r (nI_1 i) (h e))⟩⟩⟩⟩) hx⟩
  · rw [nI_add, kf_at S (by omega)]; exact nI_leI (by omega) (by omega)
  · rw [kf_at W (by omega), pk_mul, nI_add]
  · rw [kf_at W (by omega), pk_mul, nI_add]
  · rw [kf_at V (by omega), nI_add, pk_mul, nI_add]
  · exact pk_div (d := 6) hr (by decide) (by decide)
theorem kf_yb {post : Int32 → Prop} (hn : n ≤ 7) (hL : L ≤ 60) (hW : ∀ i, W i ≤ 20) (hV : ∀ i, V i ≤ 50) (hS : ∀ i, S i ≤ 2) {o c : Nat} (ho : o ≤ 60) (hc : c < 2 ^ 31)
    (h1 : kf_ok S (kf_dc c) n = true → kf_f1 W (kf_dc c) n ≤ L → kf_f2 W (kf_dc c) n ≤ o → post (nI (kf_fv V (kf_dc c) n)))
    (h0 : ¬ (kf_ok S (kf_dc c) n = true ∧ kf_f1 W (kf_dc c) n ≤ L ∧ kf_f2 W (kf_dc c) n ≤ o) → post (-1)) :
    ∀ d i k, i + d = n → d < k → kf_ok S (kf_dc c) i = true → wY_both_14 post (nI o) (nI n) (nI L) hv wo (kf_a W) (kf_a V) (kf_a S) (kf_a F) tk k (nI (c / 6 ^ i)) (nI (kf_f1 W (kf_dc c) i)) (nI (kf_f2 W (kf_dc c) i)) (nI (kf_fv V (kf_dc c) i)) (nI i) := by
  have hd : ∀ i, kf_dc c i < 6 := fun i => Nat.mod_lt _ (by decide)
  intro d
  induction d with
  | zero =>
    intro i k hi hk hok
    cases k with
    | zero => omega
    | succ k =>
      have hi : i = n := by omega
      rw [hi] at hok ⊢
      obtain ⟨b1, b2, b3⟩ := kf_f_le (W := W) (V := V) hd hW hV n
      refine br_t (nI_le (Nat.le_refl _) (by omega)) (ek_if (d := L < kf_f1 W (kf_dc c) n) (nI_ltI (by omega) (by omega)) (fun e => h0 (fun z => ?_)) (fun e => ek_if (d := o < kf_f2 W (kf_dc c) n) (nI_ltI (by omega) (by omega)) (fun e2 => h0 (fun z => ?_)) (fun e2 => h1 hok (by omega) (by omega))))
      · have := z.2.1; omega
      · have := z.2.2; omega
  | succ d ih =>
    intro i k hi hk hok
    cases k with
    | zero => omega
    | succ k =>
      have hr : c / 6 ^ i < 2 ^ 31 := Nat.lt_of_le_of_lt (Nat.div_le_self _ _) hc
      have e6 : nI (c / 6 ^ i) - nI (c / 6 ^ i) / 6 * 6 = nI (kf_dc c i) := pk_rem (d := 6) hr (by decide) (by decide)
      have hx := hd i
      have hab := kf_dab (kf_dc c i) hx
      have go : wY_both_84 post (wY_both_14 post (nI o) (nI n) (nI L) hv wo (kf_a W) (kf_a V) (kf_a S) (kf_a F) tk k) (nI o) (nI (c / 6 ^ i)) (nI (kf_f1 W (kf_dc c) i)) (nI (kf_f2 W (kf_dc c) i)) (nI (kf_fv V (kf_dc c) i)) (nI i) (nI (kf_da (kf_dc c i))) (nI (kf_db (kf_dc c i))) (nI n) (nI L) hv wo (kf_a W) (kf_a V) (kf_a S) (kf_a F) tk := by
        refine kf_y84 (by omega) hr hS hab.1 hab.2 (fun e => ?_) (fun e => h0 (fun z => e ?_))
        · rw [show c / 6 ^ i / 6 = c / 6 ^ (i + 1) by rw [Nat.div_div_eq_div_mul, Nat.pow_succ]]
          refine ih (i + 1) k (by omega) (by omega) ?_
          show (kf_ok S (kf_dc c) i && decide (kf_da (kf_dc c i) + kf_db (kf_dc c i) ≤ S i)) = true
          rw [hok, decide_eq_true e]; rfl
        · have h' : (kf_ok S (kf_dc c) i && decide (kf_da (kf_dc c i) + kf_db (kf_dc c i) ≤ S i)) = true := kf_ok_mono n (i + 1) (by omega) z.1
          exact of_decide_eq_true (Bool.and_eq_true_iff.mp h').2
      refine br_f (nI_ge (by omega) (by omega)) (br_f (nI_ge (b := 7) (by omega) (by decide)) ⟨by decide, nm_r e6 ?_⟩)
      generalize kf_dc c i = x at go hx ⊢
      refine ek_if (d := 3 ≤ x) (nI_leI (a := 3) (by decide) (by omega)) (fun q => ek_if (d := 5 ≤ x) (nI_leI (a := 5) (by decide) (by omega)) (fun q2 => br_t (nI_le (a := 3) q (by omega)) (br_t (nI_le (a := 5) q2 (by omega)) ?_)) (fun q2 => br_t (nI_le (a := 3) q (by omega)) (br_f (nI_ge (b := 5) (by omega) (by decide)) ?_))) (fun q => br_f (nI_ge (b := 3) (by omega) (by decide)) ?_)
      · rw [show kf_da x = 2 from (if_neg (by omega)).trans (if_neg (by omega)), show kf_db x = 0 from (if_neg (by omega)).trans (if_neg (by omega))] at go
        exact go
      · rw [show kf_da x = 1 from (if_neg (by omega)).trans (if_pos (by omega)), show kf_db x = x - 3 from (if_neg (by omega)).trans (if_pos (by omega)), ← pk_sub (by omega)] at go
        exact go
      · rw [show kf_da x = 0 from if_pos (by omega), show kf_db x = x from if_pos (by omega)] at go
        exact go
theorem kf_bothY {post : Int32 → Prop} (hn : n ≤ 7) (hL : L ≤ 60) (hW : ∀ i, W i ≤ 20) (hV : ∀ i, V i ≤ 50) (hS : ∀ i, S i ≤ 2) {o c : Nat} (ho : o ≤ 60) (hc : c < 2 ^ 31)
    (h1 : kf_ok S (kf_dc c) n = true → kf_f1 W (kf_dc c) n ≤ L → kf_f2 W (kf_dc c) n ≤ o → post (nI (kf_fv V (kf_dc c) n)))
    (h0 : ¬ (kf_ok S (kf_dc c) n = true ∧ kf_f1 W (kf_dc c) n ≤ L ∧ kf_f2 W (kf_dc c) n ≤ o) → post (-1)) : wpY_both post (nI n, nI L, hv, wo, kf_a W, kf_a V, kf_a S, kf_a F, tk) (nI c) (nI o) := by
  have r := kf_yb (hv := hv) (wo := wo) (tk := tk) (F := F) hn hL hW hV hS ho hc h1 h0 n 0 (n + 1) (by omega) (by omega) rfl
  rw [Nat.pow_zero, Nat.div_one] at r
  exact ⟨n + 1, r⟩
theorem kf_ytw {post : Int32 → Prop} (hn : n ≤ 7) (hL : L ≤ 60) (hW : ∀ i, W i ≤ 20) (hV : ∀ i, V i ≤ 50) (hS : ∀ i, S i ≤ 2) {o e : Nat} (ho : o ≤ 60) (he : e ≤ 279936)
    (h : post (nI (kf_mx (kf_va W V S n L o) e))) : ∀ d c k, c + d = e → d < k → wY_two_40 post (nI o) (nI e) (nI n) (nI L) hv wo (kf_a W) (kf_a V) (kf_a S) (kf_a F) tk k (nI (kf_mx (kf_va W V S n L o) c)) (nI c) := by
  have hB : ∀ c, kf_mx (kf_va W V S n L o) c ≤ 200 * n := kf_mx_le (fun c => by
    unfold kf_va
    split
    · exact (kf_f_le (W := W) (V := V) (d := kf_dc c) (fun i => Nat.mod_lt _ (by decide)) hW hV n).2.2
    · exact Nat.zero_le _)
  intro d
  induction d with
  | zero =>
    intro c k hc hk
    cases k with
    | zero => omega
    | succ k =>
      rw [show c = e by omega]
      exact br_t (nI_le (Nat.le_refl _) (by omega)) h
  | succ d ih =>
    intro c k hc hk
    cases k with
    | zero => omega
    | succ k =>
      have hm := hB c
      have hf := (kf_f_le (W := W) (V := V) (d := kf_dc c) (fun i => Nat.mod_lt _ (by decide)) hW hV n).2.2
      have nx := ih (c + 1) k (by omega) (by omega)
      have nx' : wY_two_40 post (nI o) (nI e) (nI n) (nI L) hv wo (kf_a W) (kf_a V) (kf_a S) (kf_a F) tk k (nI (if kf_mx (kf_va W V S n L o) c < kf_va W V S n L o c then kf_va W V S n L o c else kf_mx (kf_va W V S n L o) c)) (nI (c + 1)) := nx
      refine br_f (nI_ge (by omega) (by omega)) ?_
      refine kf_bothY hn hL hW hV hS ho (by omega) (fun a1 a2 a3 => ?_) (fun a => ?_)
      · rw [show kf_va W V S n L o c = kf_fv V (kf_dc c) n from if_pos ⟨a1, a2, a3⟩] at nx'
        refine ek_if (d := kf_fv V (kf_dc c) n ≤ kf_mx (kf_va W V S n L o) c) (nI_leI (by omega) (by omega)) (fun q => nm_r (nI_1 c) ?_) (fun q => nm_r (nI_1 c) ?_)
        · rw [if_neg (by omega)] at nx'; exact nx'
        · rw [if_pos (by omega)] at nx'; exact nx'
      · rw [show kf_va W V S n L o c = 0 from if_neg a, if_neg (Nat.not_lt_zero _)] at nx'
        exact br_t (Int32.le_trans (by decide) (nI_pos' (by omega))) (nm_r (nI_1 c) nx')
theorem kf_yte {post : Int32 → Prop} (hn : n ≤ 7) (hL : L ≤ 60) (hW : ∀ i, W i ≤ 20) (hV : ∀ i, V i ≤ 50) (hS : ∀ i, S i ≤ 2) {o : Nat} (ho : o ≤ 60) (h : post (nI (kf_R W V S n L o))) : ∀ d i k, i + d = n → d < k → wY_two_16 post (nI o) (nI n) (nI L) hv wo (kf_a W) (kf_a V) (kf_a S) (kf_a F) tk k (nI (6 ^ i)) (nI i) := by
  intro d
  induction d with
  | zero =>
    intro i k hi hk
    cases k with
    | zero => omega
    | succ k =>
      have hi : i = n := by omega
      rw [hi]
      rw [← kf_two hS n L o] at h
      exact br_t (nI_le (Nat.le_refl _) (by omega)) ⟨6 ^ n + 1, kf_ytw hn hL hW hV hS ho (kf_p6 hn) h (6 ^ n) 0 _ (Nat.zero_add _) (Nat.lt_succ_self _)⟩
  | succ d ih =>
    intro i k hi hk
    cases k with
    | zero => omega
    | succ k =>
      refine br_f (nI_ge (by omega) (by omega)) (nm_r (e' := nI (6 ^ (i + 1))) ?_ (nm_r (nI_1 i) (ih (i + 1) k (by omega) (by omega))))
      rw [Nat.pow_succ, Nat.mul_comm]; exact pk_mul 6 (6 ^ i)
theorem kf_twoY {post : Int32 → Prop} (hn : n ≤ 7) (hL : L ≤ 60) (hW : ∀ i, W i ≤ 20) (hV : ∀ i, V i ≤ 50) (hS : ∀ i, S i ≤ 2) {o : Nat} (ho : o ≤ 60) (h : post (nI (kf_R W V S n L o))) : wpY_two post (nI n, nI L, hv, wo, kf_a W, kf_a V, kf_a S, kf_a F, tk) (nI o) :=
  br_f (nI_pos (by omega)) (br_t (nI_le (b := 60) ho (by decide)) ⟨n + 1, kf_yte hn hL hW hV hS ho h n 0 (n + 1) (by omega) (by omega)⟩)
end
end
section
section
variable {n L : Nat} {W V S F : Nat → Nat} {bp : Nat → Int32} {hv wo : Int32} {tk : Nat → Int32}
/-- what holds of the goods and of the limit -/
def kf_G (n L : Nat) (W V S F : Nat → Nat) : Prop := n ≤ 7 ∧ L ≤ 60 ∧ (∀ i, W i ≤ 20) ∧ (∀ i, V i ≤ 50) ∧ (∀ i, S i ≤ 2) ∧ (∀ i, F i ≤ 3)
def kf_u (A : Nat → Nat) (k x : Nat) : Nat → Nat := fun j => if j = k then x else A j
theorem kf_upd (A : Nat → Nat) (k x : Nat) : upd (kf_a A) k (nI x) = kf_a (kf_u A k x) := by
  funext j
  show (if j = k then nI x else nI (A j)) = nI (if j = k then x else A j)
  split <;> rfl
theorem kf_u_le {A : Nat → Nat} {k x B : Nat} (hA : ∀ i, A i ≤ B) (hx : x ≤ B) : ∀ i, kf_u A k x i ≤ B := by
  intro i
  unfold kf_u
  split
  · exact hx
  · exact hA i
theorem kf_Gu {k w v s f m : Nat} (G : kf_G n L W V S F) (hm : m ≤ 7) (hw : w ≤ 20) (hv : v ≤ 50) (hs : s ≤ 2) (hf : f ≤ 3) : kf_G m L (kf_u W k w) (kf_u V k v) (kf_u S k s) (kf_u F k f) :=
  ⟨hm, G.2.1, kf_u_le G.2.2.1 hw, kf_u_le G.2.2.2.1 hv, kf_u_le G.2.2.2.2.1 hs, kf_u_le G.2.2.2.2.2 hf⟩
theorem kf_putX {post : SX → Prop} (hn : n < 7) {w v s f : Nat} (h : post (nI (n + 1), nI L, kf_a (kf_u W n w), kf_a (kf_u V n v), kf_a (kf_u S n s), kf_a (kf_u F n f), bp)) : wpX_putIn post (nI n, nI L, kf_a W, kf_a V, kf_a S, kf_a F, bp) (nI w) (nI v) (nI s) (nI f) := by
  have hin : vp_in (nI n) 7 := vp_in_nI hn (by decide)
  have hcl : (nI n).toNatClampNeg = n := nI_clamp (by omega)
  refine br_t (nI_lt (b := 7) hn (by decide)) ⟨hin, nm_r (e' := kf_a (kf_u W n w)) ?_ ⟨hin, nm_r (e' := kf_a (kf_u V n v)) ?_ ⟨hin, nm_r (e' := kf_a (kf_u S n s)) ?_ ⟨hin, nm_r (e' := kf_a (kf_u F n f)) ?_ (nm_r (nI_1 n) h)⟩⟩⟩⟩
  · rw [hcl]; exact kf_upd W n w
  · rw [hcl]; exact kf_upd V n v
  · rw [hcl]; exact kf_upd S n s
  · rw [hcl]; exact kf_upd F n f
theorem kf_putX7 {post : SX → Prop} (hn : n ≤ 7) (h7 : ¬ n < 7) {a b c d : Int32} (h : post (nI n, nI L, kf_a W, kf_a V, kf_a S, kf_a F, bp)) : wpX_putIn post (nI n, nI L, kf_a W, kf_a V, kf_a S, kf_a F, bp) a b c d :=
  br_f (nI_nlt (b := 7) (by omega) (by omega)) h
theorem kf_putY {post : Int32 → SY → Prop} (hn : n < 7) {w v s f : Nat} (h : post (nI n) (nI (n + 1), nI L, hv, wo, kf_a (kf_u W n w), kf_a (kf_u V n v), kf_a (kf_u S n s), kf_a (kf_u F n f), tk)) : wpY_put post (nI n, nI L, hv, wo, kf_a W, kf_a V, kf_a S, kf_a F, tk) (nI w) (nI v) (nI s) (nI f) := by
  have hin : vp_in (nI n) 7 := vp_in_nI hn (by decide)
  have hcl : (nI n).toNatClampNeg = n := nI_clamp (by omega)
  refine br_t (nI_le (b := 6) (by omega) (by decide)) ⟨hin, nm_r (e' := kf_a (kf_u W n w)) ?_ ⟨hin, nm_r (e' := kf_a (kf_u V n v)) ?_ ⟨hin, nm_r (e' := kf_a (kf_u S n s)) ?_ ⟨hin, nm_r (e' := kf_a (kf_u F n f)) ?_ (nm_r (nI_1 n) h)⟩⟩⟩⟩
  · rw [hcl]; exact kf_upd W n w
  · rw [hcl]; exact kf_upd V n v
  · rw [hcl]; exact kf_upd S n s
  · rw [hcl]; exact kf_upd F n f
theorem kf_putY7 {post : Int32 → SY → Prop} (hn : n ≤ 7) (h7 : ¬ n < 7) {a b c d : Int32} (h : post (-4) (nI n, nI L, hv, wo, kf_a W, kf_a V, kf_a S, kf_a F, tk)) : wpY_put post (nI n, nI L, hv, wo, kf_a W, kf_a V, kf_a S, kf_a F, tk) a b c d :=
  br_f (nI_ge (a := 6) (by omega) (by omega)) h
theorem kf_s1 {a q : Nat} (ha : a ≤ 100) (hq : q ≤ 7) : 1 + ((nI a + (5 * nI q)) - (nI a + (5 * nI q)) / 20 * 20) = nI (1 + (a + 5 * q) % 20) := by
  rw [show (5 : Int32) * nI q = nI (5 * q) from pk_mul 5 q, nI_add, show nI (a + 5 * q) - nI (a + 5 * q) / 20 * 20 = nI ((a + 5 * q) % 20) from pk_rem (d := 20) (by omega) (by decide) (by decide)]
  exact nI_add 1 _
theorem kf_s2 {a q : Nat} (ha : a ≤ 100) (hq : q ≤ 7) : ((nI a * 3) + ((7 * nI q) * nI q)) - ((nI a * 3) + ((7 * nI q) * nI q)) / 51 * 51 = nI ((a * 3 + 7 * q * q) % 51) := by
  have h : 7 * q * q ≤ 7 * 7 * 7 := Nat.mul_le_mul (Nat.mul_le_mul_left 7 hq) hq
  rw [show nI a * 3 = nI (a * 3) from pk_mul a 3, show (7 : Int32) * nI q = nI (7 * q) from pk_mul 7 q, pk_mul, nI_add]
  exact pk_rem (d := 51) (by omega) (by decide) (by decide)
theorem kf_s3 {a q : Nat} (ha : a ≤ 100) (hq : q ≤ 7) : 1 + ((nI a + nI q) - (nI a + nI q) / 2 * 2) = nI (1 + (a + q) % 2) := by
  rw [nI_add, show nI (a + q) - nI (a + q) / 2 * 2 = nI ((a + q) % 2) from pk_rem (d := 2) (by omega) (by decide) (by decide)]
  exact nI_add 1 _
theorem kf_s4 {a q : Nat} (ha : a ≤ 100) (hq : q ≤ 7) : (nI a + (nI q * nI q)) - (nI a + (nI q * nI q)) / 4 * 4 = nI ((a + q * q) % 4) := by
  have h : q * q ≤ 7 * 7 := Nat.mul_le_mul hq hq
  rw [pk_mul, nI_add]
  exact pk_rem (d := 4) (by omega) (by decide) (by decide)
theorem kf_sow {a m : Nat} (ha : a ≤ 100) (hm : m ≤ 7) : ∀ d q n W V S F, q + d = m → kf_G n L W V S F → ∃ n' W' V' S' F', kf_G n' L W' V' S' F' ∧
    (∀ (post : Int32 → SX → Prop) bp k, d < k → post (nI n') (nI n', nI L, kf_a W', kf_a V', kf_a S', kf_a F', bp) → wX_sow_28 post (nI a) (nI m) k (nI q) (nI n) (nI L) (kf_a W) (kf_a V) (kf_a S) (kf_a F) bp) ∧
    (∀ (post : Int32 → SY → Prop) hv wo tk k, d < k → post (nI n') (nI n', nI L, hv, wo, kf_a W', kf_a V', kf_a S', kf_a F', tk) → wY_sow_28 post (nI a) (nI m) k (nI q) (nI n) (nI L) hv wo (kf_a W) (kf_a V) (kf_a S) (kf_a F) tk) := by
  intro d
  induction d with
  | zero =>
    intro q n W V S F hq G
    refine ⟨n, W, V, S, F, G, fun post bp k hk h => ?_, fun post hv wo tk k hk h => ?_⟩
    · cases k with
      | zero => omega
      | succ k => exact br_t (nI_le (by omega) (by omega)) h
    · cases k with
      | zero => omega
      | succ k => exact br_t (nI_le (by omega) (by omega)) h
  | succ d ih =>
    intro q n W V S F hq G
    have hq7 : q ≤ 7 := by omega
    by_cases hn : n < 7
    · obtain ⟨n', W', V', S', F', G', hX, hY⟩ := ih (q + 1) (n + 1) (kf_u W n (1 + (a + 5 * q) % 20)) (kf_u V n ((a * 3 + 7 * q * q) % 51)) (kf_u S n (1 + (a + q) % 2)) (kf_u F n ((a + q * q) % 4)) (by omega) (kf_Gu G (by omega) (by omega) (by omega) (by omega) (by omega))
      refine ⟨n', W', V', S', F', G', fun post bp k hk h => ?_, fun post hv wo tk k hk h => ?_⟩
      · cases k with
        | zero => omega
        | succ k =>
          exact br_f (nI_ge (by omega) (by omega)) ⟨by decide, nm_r (kf_s1 ha hq7) ⟨by decide, nm_r (kf_s2 ha hq7) ⟨by decide, nm_r (kf_s3 ha hq7) ⟨by decide, nm_r (kf_s4 ha hq7) (kf_putX hn (nm_r (nI_1 q) (hX post bp k (by omega) h)))⟩⟩⟩⟩
      · cases k with
        | zero => omega
        | succ k =>
          refine br_f (nI_ge (by omega) (by omega)) ⟨by decide, by decide, by decide, by decide, ?_⟩
          rw [kf_s1 ha hq7, kf_s2 ha hq7, kf_s3 ha hq7, kf_s4 ha hq7]
          exact kf_putY hn (nm_r (nI_1 q) (hY post hv wo tk k (by omega) h))
    · obtain ⟨n', W', V', S', F', G', hX, hY⟩ := ih (q + 1) n W V S F (by omega) G
      refine ⟨n', W', V', S', F', G', fun post bp k hk h => ?_, fun post hv wo tk k hk h => ?_⟩
      · cases k with
        | zero => omega
        | succ k =>
          exact br_f (nI_ge (by omega) (by omega)) ⟨by decide, nm_e ⟨by decide, nm_e ⟨by decide, nm_e ⟨by decide, nm_e (kf_putX7 G.1 hn (nm_r (nI_1 q) (hX post bp k (by omega) h)))⟩⟩⟩⟩
      · cases k with
        | zero => omega
        | succ k =>
          refine br_f (nI_ge (by omega) (by omega)) ⟨by decide, by decide, by decide, by decide, ?_⟩
          exact kf_putY7 G.1 hn (nm_r (nI_1 q) (hY post hv wo tk k (by omega) h))
theorem kf_shift (A : Nat → Nat) {i : Nat} (h : i < 7) : upd (kf_a A) (nI i).toNatClampNeg (kf_a A (nI i + 1).toNatClampNeg) = kf_a (kf_u A i (A (i + 1))) := by
  rw [nI_1, nI_clamp (by omega), nI_clamp (by omega)]
  exact kf_upd A i (A (i + 1))
theorem kf_drop {m : Nat} (hm : m < 7) : ∀ d i W V S F, i + d = m → kf_G (m + 1) L W V S F → ∃ W' V' S' F', kf_G m L W' V' S' F' ∧
    (∀ (post : Int32 → SX → Prop) bp k, d < k → post (nI m) (nI m, nI L, kf_a W', kf_a V', kf_a S', kf_a F', bp) → wX_drop_12 post (nI (m + 1)) (nI L) k (nI i) (kf_a W) (kf_a V) (kf_a S) (kf_a F) bp) ∧
    (∀ (post : Int32 → SY → Prop) hv wo tk k, d < k → post (nI m) (nI m, nI L, hv, wo, kf_a W', kf_a V', kf_a S', kf_a F', tk) → wY_drop_12 post (nI (m + 1)) (nI L) hv wo k (nI i) (kf_a W) (kf_a V) (kf_a S) (kf_a F) tk) := by
  intro d
  induction d with
  | zero =>
    intro i W V S F hi G
    refine ⟨W, V, S, F, ⟨by omega, G.2⟩, fun post bp k hk h => ?_, fun post hv wo tk k hk h => ?_⟩
    · cases k with
      | zero => omega
      | succ k =>
        refine br_t ?_ (nm_r (nI_pred m) h)
        rw [nI_1]; exact nI_le (by omega) (by omega)
    · cases k with
      | zero => omega
      | succ k =>
        refine br_t ?_ (nm_r (nI_pred m) h)
        rw [nI_pred]; exact nI_le (by omega) (by omega)
  | succ d ih =>
    intro i W V S F hi G
    obtain ⟨W', V', S', F', G', hX, hY⟩ := ih (i + 1) (kf_u W i (W (i + 1))) (kf_u V i (V (i + 1))) (kf_u S i (S (i + 1))) (kf_u F i (F (i + 1))) (by omega) (kf_Gu G G.1 (G.2.2.1 _) (G.2.2.2.1 _) (G.2.2.2.2.1 _) (G.2.2.2.2.2 _))
    have hin : vp_in (nI i) 7 := vp_in_nI (by omega) (by decide)
    have hin1 : vp_in (nI i + 1) 7 := by rw [nI_1]; exact vp_in_nI (by omega) (by decide)
    have h7 : i < 7 := by omega
    refine ⟨W', V', S', F', G', fun post bp k hk h => ?_, fun post hv wo tk k hk h => ?_⟩
    · cases k with
      | zero => omega
      | succ k =>
        refine br_f ?_ ⟨hin1, hin, nm_r (kf_shift W h7) ⟨hin1, hin, nm_r (kf_shift V h7) ⟨hin1, hin, nm_r (kf_shift S h7) ⟨hin1, hin, nm_r (kf_shift F h7) (nm_r (nI_1 i) (hX post bp k (by omega) h))⟩⟩⟩⟩
        rw [nI_1]; exact nI_ge (by omega) (by omega)
    · cases k with
      | zero => omega
      | succ k =>
        refine br_f ?_ (br_f (nI_ge (b := 6) (by omega) (by decide)) ⟨hin1, hin, nm_r (kf_shift W h7) ⟨hin1, hin, nm_r (kf_shift V h7) ⟨hin1, hin, nm_r (kf_shift S h7) ⟨hin1, hin, nm_r (kf_shift F h7) (nm_r (nI_1 i) (hY post hv wo tk k (by omega) h))⟩⟩⟩⟩)
        rw [nI_pred]; exact nI_ge (by omega) (by omega)
theorem kf_gX0 {post : Int32 → Prop} {x : Int32} (h : x < 0 ∨ nI n ≤ x) (hp : post 0) : wpX_isGood post (nI n, nI L, kf_a W, kf_a V, kf_a S, kf_a F, bp) x := by
  by_cases h0 : x < 0
  · exact br_t h0 hp
  · exact br_f h0 (br_t (h.resolve_left h0) hp)
theorem kf_gX1 {post : Int32 → Prop} {j : Nat} (hn : n ≤ 7) (hj : j < n) (hp : post 1) : wpX_isGood post (nI n, nI L, kf_a W, kf_a V, kf_a S, kf_a F, bp) (nI j) :=
  br_f (nI_pos (by omega)) (br_f (nI_ge hj (by omega)) hp)
theorem kf_gY1 {post : Int32 → Prop} {x : Int32} (h : x < 0 ∨ nI n ≤ x) (hp : post 1) : wpY_bad post (nI n, nI L, hv, wo, kf_a W, kf_a V, kf_a S, kf_a F, tk) x := by
  by_cases h0 : x < 0
  · exact br_t h0 hp
  · exact br_f h0 (br_t (h.resolve_left h0) hp)
theorem kf_gY0 {post : Int32 → Prop} {j : Nat} (hn : n ≤ 7) (hj : j < n) (hp : post 0) : wpY_bad post (nI n, nI L, hv, wo, kf_a W, kf_a V, kf_a S, kf_a F, tk) (nI j) :=
  br_f (nI_pos (by omega)) (br_f (nI_ge hj (by omega)) (br_t (nI_le (b := 6) (by omega) (by decide)) hp))
end
end
section
def i_Rel (k : Nat) (u : SX) (v : SY) : Prop :=
  ∃ (n L : Nat) (W V S F : Nat → Nat) (bp : Nat → Int32) (hv wo : Int32) (tk : Nat → Int32), u = (nI n, nI L, kf_a W, kf_a V, kf_a S, kf_a F, bp) ∧ v = (nI n, nI L, hv, wo, kf_a W, kf_a V, kf_a S, kf_a F, tk) ∧ kf_G n L W V S F
theorem kf_rel {k n L : Nat} {W V S F : Nat → Nat} {bp : Nat → Int32} {hv wo : Int32} {tk : Nat → Int32} (G : kf_G n L W V S F) : i_Rel k (nI n, nI L, kf_a W, kf_a V, kf_a S, kf_a F, bp) (nI n, nI L, hv, wo, kf_a W, kf_a V, kf_a S, kf_a F, tk) :=
  ⟨n, L, W, V, S, F, bp, hv, wo, tk, rfl, rfl, G⟩
theorem i_up {k : Nat} {u : SX} {v : SY} (h : i_Rel k u v) : i_Rel (k + 4) u v := h
theorem i_vc0 : wpX_init (fun u => wpY_init (fun v => i_Rel 0 u v)) :=
  ⟨0, 20, fun _ => 0, fun _ => 0, fun _ => 0, fun _ => 0, fun _ => 0, 0, 0, fun _ => 0, rfl, rfl, by decide, by decide, fun _ => Nat.zero_le 20, fun _ => Nat.zero_le 50, fun _ => Nat.zero_le 2, fun _ => Nat.zero_le 3⟩
theorem i_vc_add {k : Nat} {u : SX} {v : SY} (I : i_Rel k u v) (hk : k + 4 ≤ 2048) (v1 : Int32) (v2 : Int32) (v3 : Int32) : wpX_add (fun r u' => wpY_add (fun r' v' => r' = r ∧ i_Rel (k + 4) u' v') v v1 v2 v3) u v1 v2 v3 := by
  obtain ⟨n, L, W, V, S, F, bp, hv, wo, tk, rfl, rfl, G⟩ := I
  by_cases h1 : v1 < 1
  · exact br_t h1 (br_t h1 ⟨rfl, kf_rel G⟩)
  by_cases h2 : v1 ≤ 20
  rotate_left
  · exact br_f h1 (br_f h2 (br_f h1 (br_f h2 ⟨rfl, kf_rel G⟩)))
  by_cases h3 : v2 < 0
  · exact br_f h1 (br_t h2 (br_t h3 (br_f h1 (br_t h2 (br_t h3 ⟨rfl, kf_rel G⟩)))))
  by_cases h4 : v2 ≤ 50
  rotate_left
  · exact br_f h1 (br_t h2 (br_f h3 (br_f h4 (br_f h1 (br_t h2 (br_f h3 (br_f h4 ⟨rfl, kf_rel G⟩)))))))
  by_cases h5 : v3 < 4
  · exact br_f h1 (br_t h2 (br_f h3 (br_t h4 (br_t h5 (br_f h1 (br_t h2 (br_f h3 (br_t h4 (br_t h5 ⟨rfl, kf_rel G⟩)))))))))
  by_cases h6 : v3 ≤ 11
  rotate_left
  · exact br_f h1 (br_t h2 (br_f h3 (br_t h4 (br_f h5 (br_f h6 (br_f h1 (br_t h2 (br_f h3 (br_t h4 (br_f h5 (br_f h6 ⟨rfl, kf_rel G⟩)))))))))))
  obtain ⟨w, hw, rfl⟩ := nI_of2 (M := 20) (n := 20) (by decide) (fun z => h1 (Int32.lt_trans z (by decide))) h2
  obtain ⟨y, hy, rfl⟩ := nI_of2 (M := 50) (n := 50) (by decide) h3 h4
  obtain ⟨s, hs, rfl⟩ := nI_of2 (M := 11) (n := 11) (by decide) (fun z => h5 (Int32.lt_trans z (by decide))) h6
  have e5 : nI s - nI s / 4 * 4 = nI (s % 4) := pk_rem (d := 4) (by omega) (by decide) (by decide)
  have e4 : nI s / 4 = nI (s / 4) := pk_div (d := 4) (by omega) (by decide) (by decide)
  refine br_f h1 (br_t h2 (br_f h3 (br_t h4 (br_f h5 (br_t h6 ?_)))))
  by_cases hn : n < 7
  · refine br_t (nI_lt (b := 7) hn (by decide)) ⟨by decide, by decide, ?_⟩
    rw [e5, e4]
    refine kf_putX hn ?_
    refine br_f h1 (br_t h2 (br_f h3 (br_t h4 (br_f h5 (br_t h6 ⟨by decide, by decide, ?_⟩)))))
    rw [e5, e4]
    exact kf_putY hn ⟨(nI_pred n).symm, kf_rel (kf_Gu G (by omega) hw hy (by omega) (by omega))⟩
  · refine br_f (nI_nlt (b := 7) (by omega) (by have := G.1; omega)) ?_
    refine br_f h1 (br_t h2 (br_f h3 (br_t h4 (br_f h5 (br_t h6 ⟨by decide, by decide, ?_⟩)))))
    exact kf_putY7 G.1 hn ⟨rfl, kf_rel G⟩
theorem i_vc_sow {k : Nat} {u : SX} {v : SY} (I : i_Rel k u v) (hk : k + 4 ≤ 2048) (v1 : Int32) (v2 : Int32) : wpX_sow (fun r u' => wpY_sow (fun r' v' => r' = r ∧ i_Rel (k + 4) u' v') v v1 v2) u v1 v2 := by
  obtain ⟨n, L, W, V, S, F, bp, hv, wo, tk, rfl, rfl, G⟩ := I
  by_cases h1 : v1 < 0
  · exact br_t h1 (br_t h1 ⟨rfl, kf_rel G⟩)
  by_cases h2 : v1 ≤ 100
  rotate_left
  · exact br_f h1 (br_f h2 (br_f h1 (br_f h2 ⟨rfl, kf_rel G⟩)))
  by_cases h3 : v2 < 1
  · exact br_f h1 (br_t h2 (br_t h3 (br_f h1 (br_t h2 (br_t h3 ⟨rfl, kf_rel G⟩)))))
  by_cases h4 : v2 ≤ 7
  rotate_left
  · exact br_f h1 (br_t h2 (br_f h3 (br_f h4 (br_f h1 (br_t h2 (br_f h3 (br_f h4 ⟨rfl, kf_rel G⟩)))))))
  obtain ⟨a, ha, rfl⟩ := nI_of2 (M := 100) (n := 100) (by decide) h1 h2
  obtain ⟨m, hm, rfl⟩ := nI_of2 (M := 7) (n := 7) (by decide) (fun z => h3 (Int32.lt_trans z (by decide))) h4
  obtain ⟨n', W', V', S', F', G', hX, hY⟩ := kf_sow ha hm m 0 n W V S F (Nat.zero_add m) G
  refine br_f h1 (br_t h2 (br_f h3 (br_t h4 ⟨m + 1, hX _ bp (m + 1) (Nat.lt_succ_self m) ?_⟩)))
  exact br_f h1 (br_t h2 (br_f h3 (br_t h4 ⟨m + 1, hY _ hv wo tk (m + 1) (Nat.lt_succ_self m) ⟨rfl, kf_rel G'⟩⟩)))
theorem i_vc_drop {k : Nat} {u : SX} {v : SY} (I : i_Rel k u v) (hk : k + 4 ≤ 2048) (v1 : Int32) : wpX_drop (fun r u' => wpY_drop (fun r' v' => r' = r ∧ i_Rel (k + 4) u' v') v v1) u v1 := by
  obtain ⟨n, L, W, V, S, F, bp, hv, wo, tk, rfl, rfl, G⟩ := I
  unfold wpX_drop
  dsimp only
  have bad : (v1 < 0 ∨ nI n ≤ v1) ∨ ∃ j : Nat, j < n ∧ v1 = nI j := by
    rcases pk_ix v1 (n := n) (by have := G.1; omega) with h | h | h
    · exact Or.inl (Or.inl h)
    · exact Or.inl (Or.inr h)
    · exact Or.inr h
  rcases bad with h | ⟨j, hj, rfl⟩
  · refine kf_gX0 h (br_t rfl ?_)
    unfold wpY_drop
    dsimp only
    exact kf_gY1 h (br_f (by decide) ⟨rfl, kf_rel G⟩)
  · obtain ⟨m, rfl⟩ : ∃ m, n = m + 1 := ⟨n - 1, by omega⟩
    have hn := G.1
    obtain ⟨W', V', S', F', G', hX, hY⟩ := kf_drop (L := L) (m := m) (by omega) (m - j) j W V S F (by omega) G
    refine kf_gX1 hn hj (br_f (by decide) ⟨m - j + 1, hX _ bp _ (Nat.lt_succ_self _) ?_⟩)
    unfold wpY_drop
    dsimp only
    exact kf_gY0 hn hj (br_t rfl ⟨m - j + 1, hY _ hv wo tk _ (Nat.lt_succ_self _) ⟨rfl, kf_rel G'⟩⟩)
theorem i_vc_limit {k : Nat} {u : SX} {v : SY} (I : i_Rel k u v) (hk : k + 4 ≤ 2048) (v1 : Int32) : wpX_limit (fun r u' => wpY_limit (fun r' v' => r' = r ∧ i_Rel (k + 4) u' v') v v1) u v1 := by
  obtain ⟨n, L, W, V, S, F, bp, hv, wo, tk, rfl, rfl, G⟩ := I
  by_cases h1 : v1 < 0
  · exact br_t h1 (br_t h1 ⟨rfl, kf_rel G⟩)
  by_cases h2 : v1 ≤ 60
  rotate_left
  · exact br_f h1 (br_f h2 (br_f h1 (br_f h2 ⟨rfl, kf_rel G⟩)))
  obtain ⟨l, hl, rfl⟩ := nI_of2 (M := 60) (n := 60) (by decide) h1 h2
  exact br_f h1 (br_t h2 (br_f h1 (br_t h2 ⟨rfl, kf_rel ⟨G.1, hl, G.2.2⟩⟩)))
theorem i_vc_goods {k : Nat} {u : SX} {v : SY} (I : i_Rel k u v) (hk : k + 4 ≤ 2048) : wpX_goods (fun r => wpY_goods (fun r' => r' = r ∧ i_Rel (k + 4) u v) v) u := by
  obtain ⟨n, L, W, V, S, F, bp, hv, wo, tk, rfl, rfl, G⟩ := I
  exact ⟨rfl, kf_rel G⟩
theorem i_vc_weightOf {k : Nat} {u : SX} {v : SY} (I : i_Rel k u v) (hk : k + 4 ≤ 2048) (v1 : Int32) : wpX_weightOf (fun r => wpY_weightOf (fun r' v' => r' = r ∧ i_Rel (k + 4) u v') v v1) u v1 := by
  obtain ⟨n, L, W, V, S, F, bp, hv, wo, tk, rfl, rfl, G⟩ := I
  unfold wpX_weightOf wpY_weightOf
  dsimp only
  by_cases h0 : 0 ≤ v1
  · obtain ⟨c, hc, rfl⟩ := nI_of (Int32.not_lt.mpr h0)
    refine kf_isChoice G.1 G.2.2.2.2.1 hc (fun a1 => br_f (by decide) ?_) (fun a0 => br_t rfl ?_)
    · refine kf_sumW G.1 hc ?_
      exact kf_choice G.1 G.2.2.2.2.1 hc (fun _ tk' _ => br_f (by decide) ⟨rfl, kf_rel G⟩) (fun a => absurd a1 (kf_ft a))
    · exact kf_choice G.1 G.2.2.2.2.1 hc (fun a => absurd a (kf_ft a0)) (fun _ hv wo tk => br_t rfl ⟨rfl, kf_rel G⟩)
  · refine kf_isChoiceN h0 (br_t rfl ?_)
    exact kf_choiceN h0 (fun hv wo tk => br_t rfl ⟨rfl, kf_rel G⟩)
theorem i_vc_valueOf {k : Nat} {u : SX} {v : SY} (I : i_Rel k u v) (hk : k + 4 ≤ 2048) (v1 : Int32) : wpX_valueOf (fun r => wpY_valueOf (fun r' v' => r' = r ∧ i_Rel (k + 4) u v') v v1) u v1 := by
  obtain ⟨n, L, W, V, S, F, bp, hv, wo, tk, rfl, rfl, G⟩ := I
  unfold wpX_valueOf wpY_valueOf
  dsimp only
  by_cases h0 : 0 ≤ v1
  · obtain ⟨c, hc, rfl⟩ := nI_of (Int32.not_lt.mpr h0)
    refine kf_isChoice G.1 G.2.2.2.2.1 hc (fun a1 => br_f (by decide) ?_) (fun a0 => br_t rfl ?_)
    · refine kf_sumV G.1 hc ?_
      exact kf_choice G.1 G.2.2.2.2.1 hc (fun _ tk' _ => br_f (by decide) ⟨rfl, kf_rel G⟩) (fun a => absurd a1 (kf_ft a))
    · exact kf_choice G.1 G.2.2.2.2.1 hc (fun a => absurd a (kf_ft a0)) (fun _ hv wo tk => br_t rfl ⟨rfl, kf_rel G⟩)
  · refine kf_isChoiceN h0 (br_t rfl ?_)
    exact kf_choiceN h0 (fun hv wo tk => br_t rfl ⟨rfl, kf_rel G⟩)
theorem i_vc_best {k : Nat} {u : SX} {v : SY} (I : i_Rel k u v) (hk : k + 4 ≤ 2048) : wpX_best (fun r => wpY_best (fun r' v' => r' = r ∧ i_Rel (k + 4) u v') v) u := by
  obtain ⟨n, L, W, V, S, F, bp, hv, wo, tk, rfl, rfl, G⟩ := I
  obtain ⟨c, hc, ho, e⟩ := kf_bc_ok (W := W) (V := V) (S := S) (F := F) (L := L) G.1 false none
  unfold wpX_best wpY_best
  dsimp only
  refine kf_findX (st := false) (g := none) G.1 G.2.2.2.2.1 G.2.2.2.2.2 (fun x hx => nomatch hx) ?_
  rw [e]
  refine kf_sumV G.1 hc ?_
  refine kf_findY (st := false) (g := none) G.1 G.2.2.2.2.1 G.2.2.2.2.2 (fun x hx => nomatch hx) (fun hv wo tk => ?_)
  rw [e]
  exact kf_valY G.1 G.2.2.2.2.1 hc ho (fun hv wo tk => ⟨rfl, kf_rel G⟩)
theorem i_vc_bestStrict {k : Nat} {u : SX} {v : SY} (I : i_Rel k u v) (hk : k + 4 ≤ 2048) : wpX_bestStrict (fun r => wpY_bestStrict (fun r' v' => r' = r ∧ i_Rel (k + 4) u v') v) u := by
  obtain ⟨n, L, W, V, S, F, bp, hv, wo, tk, rfl, rfl, G⟩ := I
  obtain ⟨c, hc, ho, e⟩ := kf_bc_ok (W := W) (V := V) (S := S) (F := F) (L := L) G.1 true none
  unfold wpX_bestStrict wpY_bestStrict
  dsimp only
  refine kf_findX (st := true) (g := none) G.1 G.2.2.2.2.1 G.2.2.2.2.2 (fun x hx => nomatch hx) ?_
  rw [e]
  refine kf_sumV G.1 hc ?_
  refine kf_findY (st := true) (g := none) G.1 G.2.2.2.2.1 G.2.2.2.2.2 (fun x hx => nomatch hx) (fun hv wo tk => ?_)
  rw [e]
  exact kf_valY G.1 G.2.2.2.2.1 hc ho (fun hv wo tk => ⟨rfl, kf_rel G⟩)
theorem i_vc_bestCode {k : Nat} {u : SX} {v : SY} (I : i_Rel k u v) (hk : k + 4 ≤ 2048) : wpX_bestCode (fun r => wpY_bestCode (fun r' v' => r' = r ∧ i_Rel (k + 4) u v') v) u := by
  obtain ⟨n, L, W, V, S, F, bp, hv, wo, tk, rfl, rfl, G⟩ := I
  unfold wpX_bestCode wpY_bestCode
  dsimp only
  refine kf_findX (st := false) (g := none) G.1 G.2.2.2.2.1 G.2.2.2.2.2 (fun x hx => nomatch hx) ?_
  exact kf_findY (st := false) (g := none) G.1 G.2.2.2.2.1 G.2.2.2.2.2 (fun x hx => nomatch hx) (fun hv wo tk => ⟨rfl, kf_rel G⟩)
theorem i_vc_bestStrictCode {k : Nat} {u : SX} {v : SY} (I : i_Rel k u v) (hk : k + 4 ≤ 2048) : wpX_bestStrictCode (fun r => wpY_bestStrictCode (fun r' v' => r' = r ∧ i_Rel (k + 4) u v') v) u := by
  obtain ⟨n, L, W, V, S, F, bp, hv, wo, tk, rfl, rfl, G⟩ := I
  unfold wpX_bestStrictCode wpY_bestStrictCode
  dsimp only
  refine kf_findX (st := true) (g := none) G.1 G.2.2.2.2.1 G.2.2.2.2.2 (fun x hx => nomatch hx) ?_
  exact kf_findY (st := true) (g := none) G.1 G.2.2.2.2.1 G.2.2.2.2.2 (fun x hx => nomatch hx) (fun hv wo tk => ⟨rfl, kf_rel G⟩)
theorem i_vc_fitting {k : Nat} {u : SX} {v : SY} (I : i_Rel k u v) (hk : k + 4 ≤ 2048) : wpX_fitting (fun r => wpY_fitting (fun r' v' => r' = r ∧ i_Rel (k + 4) u v') v) u := by
  obtain ⟨n, L, W, V, S, F, bp, hv, wo, tk, rfl, rfl, G⟩ := I
  exact kf_fitX G.1 G.2.2.2.2.1 (kf_fitY G.1 G.2.2.2.2.1 (fun hv wo tk => ⟨rfl, kf_rel G⟩))
theorem i_vc_weighing {k : Nat} {u : SX} {v : SY} (I : i_Rel k u v) (hk : k + 4 ≤ 2048) (v1 : Int32) : wpX_weighing (fun r => wpY_weighing (fun r' v' => r' = r ∧ i_Rel (k + 4) u v') v v1) u v1 := by
  obtain ⟨n, L, W, V, S, F, bp, hv, wo, tk, rfl, rfl, G⟩ := I
  by_cases h1 : v1 < 0
  · exact br_t h1 (br_t h1 ⟨rfl, kf_rel G⟩)
  by_cases h2 : v1 ≤ 300
  rotate_left
  · exact br_f h1 (br_f h2 (br_f h1 (br_f h2 ⟨rfl, kf_rel G⟩)))
  refine br_f h1 (br_t h2 ?_)
  refine kf_cwX G.1 G.2.2.2.2.1 ?_
  refine br_f h1 (br_t h2 ?_)
  exact kf_cwY G.1 G.2.2.2.2.1 (fun hv wo tk => ⟨rfl, kf_rel G⟩)
theorem i_vc_fullest {k : Nat} {u : SX} {v : SY} (I : i_Rel k u v) (hk : k + 4 ≤ 2048) : wpX_fullest (fun r => wpY_fullest (fun r' v' => r' = r ∧ i_Rel (k + 4) u v') v) u := by
  obtain ⟨n, L, W, V, S, F, bp, hv, wo, tk, rfl, rfl, G⟩ := I
  exact kf_fuX G.1 G.2.2.2.2.1 (kf_fuY G.1 G.2.2.2.2.1 (fun hv wo tk => ⟨rfl, kf_rel G⟩))
theorem i_vc_lightest {k : Nat} {u : SX} {v : SY} (I : i_Rel k u v) (hk : k + 4 ≤ 2048) (v1 : Int32) : wpX_lightest (fun r => wpY_lightest (fun r' v' => r' = r ∧ i_Rel (k + 4) u v') v v1) u v1 := by
  obtain ⟨n, L, W, V, S, F, bp, hv, wo, tk, rfl, rfl, G⟩ := I
  exact kf_liX G.1 G.2.2.2.2.1 (kf_liY G.1 G.2.2.2.2.1 (fun hv wo tk => ⟨rfl, kf_rel G⟩))
theorem i_vc_two {k : Nat} {u : SX} {v : SY} (I : i_Rel k u v) (hk : k + 4 ≤ 2048) (v1 : Int32) : wpX_two (fun r u' => wpY_two (fun r' => r' = r ∧ i_Rel (k + 4) u' v) v v1) u v1 := by
  obtain ⟨n, L, W, V, S, F, bp, hv, wo, tk, rfl, rfl, G⟩ := I
  by_cases h1 : v1 < 0
  · exact br_t h1 (br_t h1 ⟨rfl, kf_rel G⟩)
  by_cases h2 : v1 ≤ 60
  rotate_left
  · exact br_f h1 (br_f h2 (br_f h1 (br_f h2 ⟨rfl, kf_rel G⟩)))
  obtain ⟨o, ho, rfl⟩ := nI_of2 (M := 60) (n := 60) (by decide) h1 h2
  obtain ⟨hn, hL, hW, hV, hS, hF⟩ := G
  exact kf_twoX hn hL hW hV hS ho (fun bp => kf_twoY hn hL hW hV hS ho ⟨rfl, kf_rel ⟨hn, hL, hW, hV, hS, hF⟩⟩)
theorem i_vc_without {k : Nat} {u : SX} {v : SY} (I : i_Rel k u v) (hk : k + 4 ≤ 2048) (v1 : Int32) : wpX_without (fun r => wpY_without (fun r' v' => r' = r ∧ i_Rel (k + 4) u v') v v1) u v1 := by
  obtain ⟨n, L, W, V, S, F, bp, hv, wo, tk, rfl, rfl, G⟩ := I
  unfold wpX_without wpY_without
  dsimp only
  have bad : (v1 < 0 ∨ nI n ≤ v1) ∨ ∃ j : Nat, j < n ∧ v1 = nI j := by
    rcases pk_ix v1 (n := n) (by have := G.1; omega) with h | h | h
    · exact Or.inl (Or.inl h)
    · exact Or.inl (Or.inr h)
    · exact Or.inr h
  rcases bad with h | ⟨j, hj, rfl⟩
  · exact kf_gX0 h (br_t rfl (kf_gY1 h (br_f (by decide) ⟨rfl, kf_rel G⟩)))
  · have hg : ∀ x, some j = some x → x < n := fun x hx => by cases hx; exact hj
    obtain ⟨c, hc, ho, e⟩ := kf_bc_ok (W := W) (V := V) (S := S) (F := F) (L := L) G.1 false (some j)
    refine kf_gX1 G.1 hj (br_f (by decide) ?_)
    refine kf_findX (st := false) (g := some j) G.1 G.2.2.2.2.1 G.2.2.2.2.2 hg ?_
    rw [e]
    refine kf_sumV G.1 hc ?_
    refine kf_gY0 G.1 hj (br_t rfl ?_)
    refine kf_findY (st := false) (g := some j) G.1 G.2.2.2.2.1 G.2.2.2.2.2 hg (fun hv wo tk => ?_)
    rw [e]
    exact kf_valY G.1 G.2.2.2.2.1 hc ho (fun hv wo tk => ⟨rfl, kf_rel G⟩)
theorem i_vc_halves {k : Nat} {u : SX} {v : SY} (I : i_Rel k u v) (hk : k + 4 ≤ 2048) : wpX_halves (fun r => wpY_halves (fun r' v' => r' = r ∧ i_Rel (k + 4) u v') v) u := by
  obtain ⟨n, L, W, V, S, F, bp, hv, wo, tk, rfl, rfl, G⟩ := I
  exact kf_haX G.1 G.2.2.1 G.2.2.2.2.1 (kf_haY G.1 G.2.2.1 G.2.2.2.2.1 (fun hv wo tk => ⟨rfl, kf_rel G⟩))
end
