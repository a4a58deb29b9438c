/-- one more piece, of weight w and value v: into the first sack, the second, or neither -/
def kf_op (w v : Nat) (f : Nat → Nat → Nat) (a b : Nat) : Nat :=
  if w ≤ b then
    (if (if w ≤ a then (if f a b < f (a - w) b + v then f (a - w) b + v else f a b) else f a b) < f a (b - w) + v
      then f a (b - w) + v
      else (if w ≤ a then (if f a b < f (a - w) b + v then f (a - w) b + v else f a b) else f a b))
  else (if w ≤ a then (if f a b < f (a - w) b + v then f (a - w) b + v else f a b) else f a b)
theorem kf_op_all (w v : Nat) (f : Nat → Nat → Nat) (a b : Nat) :
    f a b ≤ kf_op w v f a b ∧ (w ≤ a → f (a - w) b + v ≤ kf_op w v f a b) ∧ (w ≤ b → f a (b - w) + v ≤ kf_op w v f a b) ∧
    (kf_op w v f a b = f a b ∨ (w ≤ a ∧ kf_op w v f a b = f (a - w) b + v) ∨ (w ≤ b ∧ kf_op w v f a b = f a (b - w) + v)) := by
  have e1 : ∀ x y m : Nat, (m = if w ≤ a then (if x < y then y else x) else x) → x ≤ m ∧ (w ≤ a → y ≤ m) ∧ (m = x ∨ (w ≤ a ∧ m = y)) := by
    intro x y m hm
    by_cases h1 : w ≤ a
    · rw [if_pos h1] at hm
      by_cases h3 : x < y
      · rw [if_pos h3] at hm; exact ⟨by omega, fun _ => by omega, Or.inr ⟨h1, hm⟩⟩
      · rw [if_neg h3] at hm; exact ⟨by omega, fun _ => by omega, Or.inl hm⟩
    · rw [if_neg h1] at hm; exact ⟨by omega, fun q => absurd q h1, Or.inl hm⟩
  unfold kf_op
  generalize f a b = x
  generalize f (a - w) b + v = y
  generalize f a (b - w) + v = z
  obtain ⟨m, hm⟩ : ∃ m, m = (if w ≤ a then (if x < y then y else x) else x) := ⟨_, rfl⟩
  rw [← hm]
  obtain ⟨p1, p2, p3⟩ := e1 x y m hm
  by_cases h2 : w ≤ b
  · rw [if_pos h2]
    by_cases h4 : m < z
    · rw [if_pos h4]; exact ⟨by omega, fun q => Nat.le_trans (p2 q) (by omega), fun _ => Nat.le_refl _, Or.inr (Or.inr ⟨h2, rfl⟩)⟩
    · rw [if_neg h4]; exact ⟨p1, p2, fun _ => by omega, p3.elim Or.inl (fun q => Or.inr (Or.inl q))⟩
  · rw [if_neg h2]; exact ⟨p1, p2, fun q => absurd q h2, p3.elim Or.inl (fun q => Or.inr (Or.inl q))⟩
/-- s pieces alike -/
def kf_ops (w v : Nat) (f : Nat → Nat → Nat) : Nat → Nat → Nat → Nat
  | 0 => f
  | s + 1 => kf_op w v (kf_ops w v f s)
theorem kf_ops_ge (w v : Nat) (f : Nat → Nat → Nat) : ∀ s p q a b, p + q ≤ s → p * w ≤ a → q * w ≤ b → f (a - p * w) (b - q * w) + (p + q) * v ≤ kf_ops w v f s a b := by
  intro s
  induction s with
  | zero =>
    intro p q a b h _ _
    have hp : p = 0 := by omega
    have hq : q = 0 := by omega
    subst hp; subst hq
    simp [kf_ops]
  | succ s ih =>
    intro p q a b h ha hb
    obtain ⟨o0, o1, o2, -⟩ := kf_op_all w v (kf_ops w v f s) a b
    show _ ≤ kf_op w v (kf_ops w v f s) a b
    by_cases hs : p + q ≤ s
    · exact Nat.le_trans (ih p q a b hs ha hb) o0
    · cases p with
      | succ p =>
        rw [Nat.succ_mul] at ha
        have h1 := ih p q (a - w) b (by omega) (by omega) hb
        have h2 := o1 (by omega)
        have e1 : a - (p + 1) * w = a - w - p * w := by rw [Nat.succ_mul]; omega
        have e2 : (p + 1 + q) * v = (p + q) * v + v := by rw [show p + 1 + q = p + q + 1 by omega, Nat.add_mul (p + q) 1 v, Nat.one_mul]
        rw [e1, e2]
        omega
      | zero =>
        cases q with
        | zero => omega
        | succ q =>
          rw [Nat.succ_mul] at hb
          have h1 := ih 0 q a (b - w) (by omega) ha (by omega)
          have h2 := o2 (by omega)
          have e1 : b - (q + 1) * w = b - w - q * w := by rw [Nat.succ_mul]; omega
          have e2 : (0 + (q + 1)) * v = (0 + q) * v + v := by rw [show 0 + (q + 1) = 0 + q + 1 by omega, Nat.add_mul (0 + q) 1 v, Nat.one_mul]
          rw [e1, e2]
          omega
theorem kf_ops_at (w v : Nat) (f : Nat → Nat → Nat) : ∀ s a b, ∃ p q, p + q ≤ s ∧ p * w ≤ a ∧ q * w ≤ b ∧ kf_ops w v f s a b = f (a - p * w) (b - q * w) + (p + q) * v := by
  intro s
  induction s with
  | zero =>
    intro a b
    exact ⟨0, 0, by omega, by omega, by omega, by simp [kf_ops]⟩
  | succ s ih =>
    intro a b
    obtain ⟨-, -, -, o⟩ := kf_op_all w v (kf_ops w v f s) a b
    rcases o with o | ⟨hw, o⟩ | ⟨hw, o⟩
    · obtain ⟨p, q, h, ha, hb, e⟩ := ih a b
      exact ⟨p, q, by omega, ha, hb, o.trans e⟩
    · obtain ⟨p, q, h, ha, hb, e⟩ := ih (a - w) b
      have e1 : a - (p + 1) * w = a - w - p * w := by rw [Nat.succ_mul]; omega
      have e2 : (p + 1 + q) * v = (p + q) * v + v := by rw [show p + 1 + q = p + q + 1 by omega, Nat.add_mul (p + q) 1 v, Nat.one_mul]
      refine ⟨p + 1, q, by omega, by rw [Nat.succ_mul]; omega, hb, o.trans ?_⟩
      rw [e, e1, e2, Nat.add_assoc]
    · obtain ⟨p, q, h, ha, hb, e⟩ := ih a (b - w)
      have e1 : b - (q + 1) * w = b - w - q * w := by rw [Nat.succ_mul]; omega
      have e2 : (p + (q + 1)) * v = (p + q) * v + v := by rw [show p + (q + 1) = p + q + 1 by omega, Nat.add_mul (p + q) 1 v, Nat.one_mul]
      refine ⟨p, q + 1, by omega, ha, by rw [Nat.succ_mul]; omega, o.trans ?_⟩
      rw [e, e1, e2, Nat.add_assoc]
theorem kf_ops_le {w v B : Nat} {f : Nat → Nat → Nat} (hf : ∀ a b, f a b ≤ B) (s a b : Nat) : kf_ops w v f s a b ≤ B + s * v := by
  obtain ⟨p, q, h, -, -, e⟩ := kf_ops_at w v f s a b
  have h1 := hf (a - p * w) (b - q * w)
  have h2 := Nat.mul_le_mul_right v h
  omega
/-- the greatest value of two choices from the first i goods within the limits a and b -/
def kf_R (W V S : Nat → Nat) : Nat → Nat → Nat → Nat
  | 0 => fun _ _ => 0
  | i + 1 => kf_ops (W i) (V i) (kf_R W V S i) (S i)
theorem kf_R_le {W V S : Nat → Nat} (hV : ∀ i, V i ≤ 50) (hS : ∀ i, S i ≤ 2) : ∀ i a b, kf_R W V S i a b ≤ 100 * i := by
  intro i
  induction i with
  | zero => intro a b; exact Nat.le_refl 0
  | succ i ih =>
    intro a b
    have h := kf_ops_le (w := W i) (v := V i) ih (S i) a b
    have h2 := Nat.mul_le_mul (hS i) (hV i)
    show kf_ops (W i) (V i) (kf_R W V S i) (S i) a b ≤ 100 * (i + 1)
    omega
/-- what the reference's digit x gives to the first and to the second -/
def kf_da (x : Nat) : Nat := if x < 3 then 0 else if x < 5 then 1 else 2
def kf_db (x : Nat) : Nat := if x < 3 then x else if x < 5 then x - 3 else 0
def kf_f1 (W d : Nat → Nat) : Nat → Nat
  | 0 => 0
  | i + 1 => kf_f1 W d i + kf_da (d i) * W i
def kf_f2 (W d : Nat → Nat) : Nat → Nat
  | 0 => 0
  | i + 1 => kf_f2 W d i + kf_db (d i) * W i
def kf_fv (V d : Nat → Nat) : Nat → Nat
  | 0 => 0
  | i + 1 => kf_fv V d i + (kf_da (d i) + kf_db (d i)) * V i
def kf_ok (S d : Nat → Nat) : Nat → Bool
  | 0 => true
  | i + 1 => kf_ok S d i && decide (kf_da (d i) + kf_db (d i) ≤ S i)
def kf_dc (c : Nat) : Nat → Nat := fun i => c / 6 ^ i % 6
theorem kf_R_ge {W V S d : Nat → Nat} : ∀ i, kf_ok S d i = true → ∀ a b, kf_f1 W d i ≤ a → kf_f2 W d i ≤ b → kf_fv V d i ≤ kf_R W V S i a b := by
  intro i
  induction i with
  | zero => intro _ a b _ _; exact Nat.le_refl 0
  | succ i ih =>
    intro ho a b ha hb
    have ho' : kf_ok S d i = true ∧ kf_da (d i) + kf_db (d i) ≤ S i := by
      have : (kf_ok S d i && decide (kf_da (d i) + kf_db (d i) ≤ S i)) = true := ho
      simpa using this
    have ha' : kf_f1 W d i + kf_da (d i) * W i ≤ a := ha
    have hb' : kf_f2 W d i + kf_db (d i) * W i ≤ b := hb
    have h1 := ih ho'.1 (a - kf_da (d i) * W i) (b - kf_db (d i) * W i) (by omega) (by omega)
    have h2 := kf_ops_ge (W i) (V i) (kf_R W V S i) (S i) (kf_da (d i)) (kf_db (d i)) a b ho'.2 (by omega) (by omega)
    show kf_fv V d i + (kf_da (d i) + kf_db (d i)) * V i ≤ kf_ops (W i) (V i) (kf_R W V S i) (S i) a b
    omega
theorem kf_enc : ∀ p q, p + q ≤ 2 → ∃ x, x < 6 ∧ kf_da x = p ∧ kf_db x = q := by
  intro p q h
  have hp : p = 0 ∨ p = 1 ∨ p = 2 := by omega
  have hq : q = 0 ∨ q = 1 ∨ q = 2 := by omega
  rcases hp with rfl | rfl | rfl <;> rcases hq with rfl | rfl | rfl
  · exact ⟨0, by decide, by decide, by decide⟩
  · exact ⟨1, by decide, by decide, by decide⟩
  · exact ⟨2, by decide, by decide, by decide⟩
  · exact ⟨3, by decide, by decide, by decide⟩
  · exact ⟨4, by decide, by decide, by decide⟩
  · omega
  · exact ⟨5, by decide, by decide, by decide⟩
  · omega
  · omega
theorem kf_cg {W V S d e : Nat → Nat} : ∀ i, (∀ j, j < i → d j = e j) → kf_f1 W d i = kf_f1 W e i ∧ kf_f2 W d i = kf_f2 W e i ∧ kf_fv V d i = kf_fv V e i ∧ kf_ok S d i = kf_ok S e i := by
  intro i
  induction i with
  | zero => intro _; exact ⟨rfl, rfl, rfl, rfl⟩
  | succ i ih =>
    intro h
    obtain ⟨h1, h2, h3, h4⟩ := ih (fun j hj => h j (by omega))
    have hi := h i (Nat.lt_succ_self i)
    simp only [kf_f1, kf_f2, kf_fv, kf_ok, h1, h2, h3, h4, hi, and_self]
theorem kf_dc_lo {c x i j : Nat} (h : j < i) : kf_dc (c + x * 6 ^ i) j = kf_dc c j := by
  have e : x * 6 ^ i = 6 ^ j * (6 * (x * 6 ^ (i - j - 1))) := by
    have : i = j + (1 + (i - j - 1)) := by omega
    rw [this, Nat.pow_add, Nat.pow_add, Nat.pow_one]
    have t : j + (1 + (i - j - 1)) - j - 1 = i - j - 1 := by omega
    rw [t]
    simp only [Nat.mul_comm, Nat.mul_left_comm, Nat.mul_assoc]
  show (c + x * 6 ^ i) / 6 ^ j % 6 = c / 6 ^ j % 6
  rw [e, Nat.add_mul_div_left _ _ (Nat.pow_pos (by decide : 0 < 6)), Nat.add_mul_mod_self_left]
theorem kf_dc_hi {c x i : Nat} (hc : c < 6 ^ i) (hx : x < 6) : kf_dc (c + x * 6 ^ i) i = x := by
  show (c + x * 6 ^ i) / 6 ^ i % 6 = x
  rw [Nat.add_mul_div_right _ _ (Nat.pow_pos (by decide : 0 < 6)), Nat.div_eq_of_lt hc, Nat.zero_add]
  exact Nat.mod_eq_of_lt hx
theorem kf_R_at {W V S : Nat → Nat} (hS : ∀ i, S i ≤ 2) : ∀ i a b, ∃ c, c < 6 ^ i ∧ kf_ok S (kf_dc c) i = true ∧ kf_f1 W (kf_dc c) i ≤ a ∧ kf_f2 W (kf_dc c) i ≤ b ∧ kf_fv V (kf_dc c) i = kf_R W V S i a b := by
  intro i
  induction i with
  | zero => intro a b; exact ⟨0, by decide, rfl, Nat.zero_le a, Nat.zero_le b, rfl⟩
  | succ i ih =>
    intro a b
    obtain ⟨p, q, h, ha, hb, e⟩ := kf_ops_at (W i) (V i) (kf_R W V S i) (S i) a b
    obtain ⟨c, hc, ho, h1, h2, h3⟩ := ih (a - p * W i) (b - q * W i)
    obtain ⟨x, hx, hp, hq⟩ := kf_enc p q (Nat.le_trans h (hS i))
    obtain ⟨g1, g2, g3, g4⟩ := kf_cg (W := W) (V := V) (S := S) (d := kf_dc (c + x * 6 ^ i)) (e := kf_dc c) i (fun j hj => kf_dc_lo (c := c) (x := x) hj)
    have gi := kf_dc_hi hc hx
    refine ⟨c + x * 6 ^ i, ?_, ?_, ?_, ?_, ?_⟩
    · have h5 : x * 6 ^ i ≤ 5 * 6 ^ i := Nat.mul_le_mul_right _ (by omega)
      rw [Nat.pow_succ]
      omega
    · show (kf_ok S _ i && decide (kf_da (kf_dc (c + x * 6 ^ i) i) + kf_db (kf_dc (c + x * 6 ^ i) i) ≤ S i)) = true
      rw [g4, gi, ho, hp, hq]
      simpa using h
    · show kf_f1 W _ i + kf_da (kf_dc (c + x * 6 ^ i) i) * W i ≤ a
      rw [g1, gi, hp]; omega
    · show kf_f2 W _ i + kf_db (kf_dc (c + x * 6 ^ i) i) * W i ≤ b
      rw [g2, gi, hq]; omega
    · show kf_fv V _ i + (kf_da (kf_dc (c + x * 6 ^ i) i) + kf_db (kf_dc (c + x * 6 ^ i) i)) * V i = kf_ops (W i) (V i) (kf_R W V S i) (S i) a b
      rw [g3, gi, hp, hq, h3, e]
/-- the reference's value of a code: 0 where it refuses -/
def kf_va (W V S : Nat → Nat) (n L o c : Nat) : Nat :=
  if kf_ok S (kf_dc c) n = true ∧ kf_f1 W (kf_dc c) n ≤ L ∧ kf_f2 W (kf_dc c) n ≤ o then kf_fv V (kf_dc c) n else 0
def kf_mx (f : Nat → Nat) : Nat → Nat
  | 0 => 0
  | c + 1 => if kf_mx f c < f c then f c else kf_mx f c
theorem kf_mx_le {f : Nat → Nat} {B : Nat} (h : ∀ c, f c ≤ B) : ∀ e, kf_mx f e ≤ B := by
  intro e
  induction e with
  | zero => exact Nat.zero_le B
  | succ e ih =>
    show (if kf_mx f e < f e then f e else kf_mx f e) ≤ B
    split
    · exact h e
    · exact ih
theorem kf_mx_ge {f : Nat → Nat} : ∀ e c, c < e → f c ≤ kf_mx f e := by
  intro e
  induction e with
  | zero => intro c h; omega
  | succ e ih =>
    intro c h
    show f c ≤ (if kf_mx f e < f e then f e else kf_mx f e)
    by_cases hc : c = e
    · subst hc; split <;> omega
    · have := ih c (by omega)
      split <;> omega
theorem kf_two {W V S : Nat → Nat} (hS : ∀ i, S i ≤ 2) (n L o : Nat) : kf_mx (kf_va W V S n L o) (6 ^ n) = kf_R W V S n L o := by
  apply Nat.le_antisymm
  · refine kf_mx_le (fun c => ?_) _
    unfold kf_va
    split
    · rename_i h; exact kf_R_ge n h.1 L o h.2.1 h.2.2
    · exact Nat.zero_le _
  · obtain ⟨c, hc, ho, h1, h2, h3⟩ := kf_R_at (W := W) (V := V) hS n L o
    have h := kf_mx_ge (f := kf_va W V S n L o) (6 ^ n) c hc
    have e : kf_va W V S n L o c = kf_R W V S n L o := by
      unfold kf_va
      rw [if_pos ⟨ho, h1, h2⟩, h3]
    rw [e] at h
    exact h
