/-- the sum over m goods of digit times A; the last good's digit is the last one of c -/
def kf_sd (A : Nat → Nat) : Nat → Nat → Nat
  | 0, _ => 0
  | m + 1, c => c % 3 * A m + kf_sd A m (c / 3)
/-- c is the code of a choice of m goods -/
def kf_oc (S : Nat → Nat) : Nat → Nat → Bool
  | 0, c => decide (c = 0)
  | m + 1, c => decide (c % 3 ≤ S m) && kf_oc S m (c / 3)
/-- the digit of good i -/
def kf_dg : Nat → Nat → Nat → Nat
  | 0, _, _ => 0
  | m + 1, c, i => if i = m then c % 3 else kf_dg m (c / 3) i
theorem kf_dg_m (m c : Nat) : kf_dg (m + 1) c m = c % 3 := by
  simp [kf_dg]
theorem kf_dg_lt {m c i : Nat} (h : i < m) : kf_dg (m + 1) c i = kf_dg m (c / 3) i := by
  have : i ≠ m := by omega
  simp [kf_dg, this]
theorem kf_sd_le {A : Nat → Nat} {B : Nat} (hA : ∀ i, A i ≤ B) : ∀ m c, kf_sd A m c ≤ 2 * B * m := by
  intro m
  induction m with
  | zero => intro c; exact Nat.le_refl 0
  | succ m ih =>
    intro c
    have h := ih (c / 3)
    have h3 : c % 3 ≤ 2 := by omega
    have h4 := Nat.mul_le_mul h3 (hA m)
    show c % 3 * A m + kf_sd A m (c / 3) ≤ 2 * B * (m + 1)
    rw [Nat.mul_add, Nat.mul_one]
    omega
theorem kf_sd_0 (A : Nat → Nat) : ∀ m, kf_sd A m 0 = 0 := by
  intro m
  induction m with
  | zero => rfl
  | succ m ih => show 0 % 3 * A m + kf_sd A m (0 / 3) = 0; simp [ih]
theorem kf_oc_0 (S : Nat → Nat) : ∀ m, kf_oc S m 0 = true := by
  intro m
  induction m with
  | zero => rfl
  | succ m ih => show (decide (0 % 3 ≤ S m) && kf_oc S m (0 / 3)) = true; simp [ih]
/-- of every family pieces of at most one good -/
def kf_st (F : Nat → Nat) (m c : Nat) : Prop := ∀ i j, j < i → i < m → 0 < kf_dg m c i → 0 < kf_dg m c j → F i = F j → False
/-- the component's scan: the families seen so far are the bits of k -/
def kf_ms (F : Nat → Nat) : Nat → Nat → Nat → Bool
  | 0, _, _ => true
  | m + 1, c, k => if 0 < c % 3 then (if k.testBit (F m) then false else kf_ms F m (c / 3) (k ||| 2 ^ F m)) else kf_ms F m (c / 3) k
theorem kf_ms_iff (F : Nat → Nat) : ∀ m c k, kf_ms F m c k = true ↔ ((∀ i, i < m → 0 < kf_dg m c i → k.testBit (F i) = false) ∧ kf_st F m c) := by
  intro m
  induction m with
  | zero =>
    intro c k
    exact ⟨fun _ => ⟨fun i hi => absurd hi (Nat.not_lt_zero i), fun i j _ hi => absurd hi (Nat.not_lt_zero i)⟩, fun _ => rfl⟩
  | succ m ih =>
    intro c k
    by_cases h : 0 < c % 3
    · by_cases hb : k.testBit (F m) = true
      · have e : kf_ms F (m + 1) c k = false := by simp [kf_ms, h, hb]
        rw [e]
        refine ⟨fun z => (nomatch z), fun z => ?_⟩
        have := z.1 m (Nat.lt_succ_self m) (by rw [kf_dg_m]; exact h)
        rw [hb] at this
        exact absurd this (by decide)
      · have e : kf_ms F (m + 1) c k = kf_ms F m (c / 3) (k ||| 2 ^ F m) := by simp [kf_ms, h, hb]
        have hb' : k.testBit (F m) = false := by simpa using hb
        rw [e, ih]
        constructor
        · intro z
          refine ⟨fun i hi hd => ?_, fun i j hj hi hdi hdj hF => ?_⟩
          · by_cases him : i = m
            · rw [him]; exact hb'
            · have hi' : i < m := by omega
              rw [kf_dg_lt hi'] at hd
              have := z.1 i hi' hd
              rw [Nat.testBit_or] at this
              simp only [Bool.or_eq_false_iff] at this
              exact this.1
          · by_cases him : i = m
            · have hj' : j < m := by omega
              rw [kf_dg_lt hj'] at hdj
              have := z.1 j hj' hdj
              rw [Nat.testBit_or] at this
              simp only [Bool.or_eq_false_iff, Nat.testBit_two_pow, decide_eq_false_iff_not] at this
              exact this.2 (him ▸ hF)
            · have hi' : i < m := by omega
              have hj' : j < m := by omega
              rw [kf_dg_lt hi'] at hdi
              rw [kf_dg_lt hj'] at hdj
              exact z.2 i j hj hi' hdi hdj hF
        · intro z
          refine ⟨fun i hi hd => ?_, fun i j hj hi hdi hdj hF => ?_⟩
          · have h1 := z.1 i (by omega) (by rw [kf_dg_lt hi]; exact hd)
            have h2 : ¬ F m = F i := fun hF => z.2 m i hi (Nat.lt_succ_self m) (by rw [kf_dg_m]; exact h) (by rw [kf_dg_lt hi]; exact hd) hF
            rw [Nat.testBit_or]
            simp only [Bool.or_eq_false_iff, Nat.testBit_two_pow, decide_eq_false_iff_not]
            exact ⟨h1, h2⟩
          · exact z.2 i j hj (by omega) (by rw [kf_dg_lt hi]; exact hdi) (by rw [kf_dg_lt (by omega : j < m)]; exact hdj) hF
    · have e : kf_ms F (m + 1) c k = kf_ms F m (c / 3) k := by simp [kf_ms, h]
      rw [e, ih]
      constructor
      · intro z
        refine ⟨fun i hi hd => ?_, fun i j hj hi hdi hdj hF => ?_⟩
        · by_cases him : i = m
          · rw [him, kf_dg_m] at hd; exact absurd hd h
          · have hi' : i < m := by omega
            rw [kf_dg_lt hi'] at hd
            exact z.1 i hi' hd
        · by_cases him : i = m
          · rw [him, kf_dg_m] at hdi; exact absurd hdi h
          · have hi' : i < m := by omega
            have hj' : j < m := by omega
            rw [kf_dg_lt hi'] at hdi
            rw [kf_dg_lt hj'] at hdj
            exact z.2 i j hj hi' hdi hdj hF
      · intro z
        exact ⟨fun i hi hd => z.1 i (by omega) (by rw [kf_dg_lt hi]; exact hd), fun i j hj hi hdi hdj hF => z.2 i j hj (by omega) (by rw [kf_dg_lt hi]; exact hdi) (by rw [kf_dg_lt (by omega : j < m)]; exact hdj) hF⟩
theorem kf_ms_st (F : Nat → Nat) (m c : Nat) : kf_ms F m c 0 = true ↔ kf_st F m c := by
  rw [kf_ms_iff]
  exact ⟨fun z => z.2, fun z => ⟨fun i _ _ => Nat.zero_testBit (F i), z⟩⟩
/-- a step for each number below i, from s on -/
def kf_it {σ : Type} (g : Nat → σ → σ) (s : σ) : Nat → σ
  | 0 => s
  | i + 1 => g i (kf_it g s i)
theorem kf_it_inv {σ : Type} {g : Nat → σ → σ} {s : σ} {P : σ → Prop} (h0 : P s) (hs : ∀ i t, P t → P (g i t)) : ∀ i, P (kf_it g s i) := by
  intro i
  induction i with
  | zero => exact h0
  | succ i ih => exact hs i _ ih
