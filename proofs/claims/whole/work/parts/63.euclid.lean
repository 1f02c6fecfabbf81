/-! ===== Euclid ===== -/
def eu : Nat → Int64 → Int64 → Option Int64
  | 0, x, y => if y = 0 then some x else none
  | f + 1, x, y => if y = 0 then some x else eu f y (jrl x y)
theorem eu_z {f : Nat} {x : Int64} : eu f x 0 = some x := by
  cases f <;> simp [eu]
theorem eu_s {f : Nat} {x y : Int64} (h : ¬ y = 0) : eu (f + 1) x y = eu f y (jrl x y) := by
  simp [eu, h]
theorem eu_0 {x y : Int64} (h : ¬ y = 0) : eu 0 x y = none := by
  simp [eu, h]
theorem lgc0 {x : Int64} : lg_cmp x 0 = 0 ↔ x = 0 := by
  unfold lg_cmp
  by_cases h : x = 0
  · subst h; decide
  · by_cases g : x > 0
    · simp only [g, if_true]
      exact ⟨fun q => absurd q (by decide), fun q => absurd q h⟩
    · simp only [g, h, if_false]
      exact ⟨fun q => absurd q (by decide), fun q => absurd q id⟩
theorem jrl_T (x y : Int64) : (jrl x y).toInt = x.toInt.tmod y.toInt := by
  unfold jrl
  rw [Int64.toInt_sub, Int64.toInt_mul, Int64.toInt_div, Int.bmod_mul_bmod, Int.sub_bmod_bmod]
  have h := Int.tmod_add_tdiv_mul x.toInt y.toInt
  have e : x.toInt - x.toInt.tdiv y.toInt * y.toInt = x.toInt.tmod y.toInt := by omega
  rw [e]
  have h1 : (x.toInt.tmod y.toInt).natAbs ≤ x.toInt.natAbs := by rw [Int.natAbs_tmod]; exact Nat.mod_le _ _
  have h2 := x.le_toInt
  have h3 := x.toInt_lt
  have hb : -9223372036854775808 ≤ x.toInt.tmod y.toInt ∧ x.toInt.tmod y.toInt < 9223372036854775808 := by
    by_cases q : 0 ≤ x.toInt
    · have := Int.tmod_nonneg (a := x.toInt) y.toInt q
      omega
    · have := Int.tmod_nonneg (a := -x.toInt) y.toInt (by omega)
      rw [Int.neg_tmod] at this
      omega
  exact Int.bmod_eq_of_le (by simp only [Nat.reducePow]; omega) (by simp only [Nat.reducePow]; omega)
theorem jrl_N (x y : Int64) : (jrl x y).toInt.natAbs = x.toInt.natAbs % y.toInt.natAbs := by
  rw [jrl_T, Int.natAbs_tmod]
theorem i64_0 {x : Int64} : x.toInt.natAbs = 0 ↔ x = 0 := by
  rw [Int.natAbs_eq_zero]
  constructor
  · intro h
    exact Int64.toInt_inj.mp (by rw [h]; rfl)
  · intro h; rw [h]; rfl
theorem half {a b : Nat} (h1 : 0 < b) (h2 : b < a) : 2 * (a % b) < a := by
  have := Nat.div_add_mod a b
  have h3 := Nat.mod_lt a h1
  have h4 : 1 ≤ a / b := (Nat.le_div_iff_mul_le h1).mpr (by omega)
  have h5 : b ≤ b * (a / b) := Nat.le_mul_of_pos_right b h4
  omega
theorem eu_ok : ∀ (k : Nat) (x y : Int64), y.toInt.natAbs < 2 ^ k → ∃ d, eu (2 * k) x y = some d ∧ (x ≠ 0 ∨ y ≠ 0 → d ≠ 0)
  | 0, x, y, h => by
    have : y = 0 := i64_0.mp (by omega)
    subst this
    exact ⟨x, eu_z, fun q => q.elim id (fun z => absurd rfl z)⟩
  | k + 1, x, y, h => by
    have e2 : 2 * (k + 1) = 2 * k + 1 + 1 := by omega
    rw [e2]
    by_cases hy : y = 0
    · subst hy; exact ⟨x, eu_z, fun q => q.elim id (fun z => absurd rfl z)⟩
    · rw [eu_s hy]
      by_cases hr : jrl x y = 0
      · rw [hr]; exact ⟨y, eu_z, fun _ => hy⟩
      · rw [eu_s hr]
        have n1 : 0 < y.toInt.natAbs := Nat.pos_of_ne_zero (fun q => hy (i64_0.mp q))
        have n2 : 0 < (jrl x y).toInt.natAbs := Nat.pos_of_ne_zero (fun q => hr (i64_0.mp q))
        have n3 : (jrl x y).toInt.natAbs < y.toInt.natAbs := by rw [jrl_N]; exact Nat.mod_lt _ n1
        have n4 : 2 * (jrl y (jrl x y)).toInt.natAbs < y.toInt.natAbs := by rw [jrl_N y]; exact half n2 n3
        obtain ⟨d, d1, d2⟩ := eu_ok k (jrl x y) (jrl y (jrl x y)) (by rw [Nat.pow_succ] at h; omega)
        exact ⟨d, d1, fun _ => d2 (Or.inl hr)⟩
theorem ge100 {i : Nat} (h : i < 100) : ¬ (100 : Int32) ≤ nI i := x_ge (n := 100) h (by decide)
theorem q_cd {a b : Int64} {σ : Sg} {K : Int64 → Sg → Option (Int64 × Sg)} : ∀ (f m i : Nat) (x y d : Int64), i + f < 100 → f < m → eu f x y = some d → e_lp3 (d_X6_commonDivisor_9 a b K) m x y (nI i) σ = K d σ
  | 0, m, i, x, y, d, h1, h2, h3 => by
    obtain ⟨m, rfl⟩ : ∃ m1, m = m1 + 1 := ⟨m - 1, by omega⟩
    by_cases hy : y = 0
    · subst hy
      rw [eu_z] at h3
      have := Option.some.inj h3
      subst this
      rw [lp3_s]
      have z : lg_cmp 0 0 = 0 := by decide
      simp only [d_X6_commonDivisor_9, ge100 (show i < 100 by omega), if_false, z, if_true]
    · rw [eu_0 hy] at h3; cases h3
  | f + 1, m, i, x, y, d, h1, h2, h3 => by
    obtain ⟨m, rfl⟩ : ∃ m1, m = m1 + 1 := ⟨m - 1, by omega⟩
    rw [lp3_s]
    by_cases hy : y = 0
    · subst hy
      rw [eu_z] at h3
      have := Option.some.inj h3
      subst this
      have z : lg_cmp 0 0 = 0 := by decide
      simp only [d_X6_commonDivisor_9, ge100 (show i < 100 by omega), if_false, z, if_true]
    · rw [eu_s hy] at h3
      simp only [d_X6_commonDivisor_9, ge100 (show i < 100 by omega), if_false, lgc0, hy, p_lt, x_s]
      exact q_cd f m (i + 1) y (jrl x y) d (by omega) (by omega) h3
theorem q_partOf {x y d : Int64} {p : Int32} {σ : Sg} {f : Nat} (hf : f < 100) (h : eu f x y = some d) (hd : d ≠ 0) : m_X6_partOf x y p σ = some ((if p = 0 then x else y) / d, σ) := by
  unfold m_X6_partOf m_X6_commonDivisor
  have e := q_cd (a := x) (b := y) (σ := σ) (K := fun x4q2 σ2 => some (x4q2, σ2)) f e_F 0 x y d (by omega) (e_F_lt (by omega)) h
  have e' : e_lp3 (d_X6_commonDivisor_9 x y (fun x4q2 σ2 => some (x4q2, σ2))) e_F x y 0 σ = some (d, σ) := e
  rw [e', p_cJ]
  simp only [lgc0, hd, if_false, b_X6_partOf_26]
  by_cases q : p = 0 <;> simp only [q, if_true, if_false]
theorem lp4_s {α A B C D : Type} {f : (A → B → C → D → Sg → Option α) → A → B → C → D → Sg → Option α} {n : Nat} {a : A} {b : B} {c : C} {d : D} {s : Sg} : e_lp4 f (n + 1) a b c d s = f (e_lp4 f n) a b c d s := rfl
theorem q_cdM {p q : Int32} {a : Int32} {b : Int64} {σ : Sg} {K : Int32 → Int64 → Int64 → Sg → Option (Int64 × Sg)} : ∀ (f m : Nat) (x y d : Int64), f < m → eu f x y = some d → e_lp4 (d_X7_share_134 p q K) m a b x y σ = K a b d σ
  | 0, m, x, y, d, h2, h3 => by
    obtain ⟨m, rfl⟩ : ∃ m1, m = m1 + 1 := ⟨m - 1, by omega⟩
    by_cases hy : y = 0
    · subst hy
      rw [eu_z] at h3
      have := Option.some.inj h3
      subst this
      rw [lp4_s]
      have z : lg_cmp 0 0 = 0 := by decide
      simp only [d_X7_share_134, z, if_true]
    · rw [eu_0 hy] at h3; cases h3
  | f + 1, m, x, y, d, h2, h3 => by
    obtain ⟨m, rfl⟩ : ∃ m1, m = m1 + 1 := ⟨m - 1, by omega⟩
    rw [lp4_s]
    by_cases hy : y = 0
    · subst hy
      rw [eu_z] at h3
      have := Option.some.inj h3
      subst this
      have z : lg_cmp 0 0 = 0 := by decide
      simp only [d_X7_share_134, z, if_true]
    · rw [eu_s hy] at h3
      simp only [d_X7_share_134, lgc0, hy, if_false, p_lt]
      exact q_cdM f m y (jrl x y) d (by omega) h3
/-! ===== orders ===== -/
def fI (x : Int32) : Int32 := if inB x 0 5 = true then stv 2 x.toNatClampNeg else 1
def oP (a : Int32) : Nat → Nat → Int32
  | _, 0 => a
  | i, f + 1 => oP (a * nI i) (i + 1) f
theorem q_ordL {n : Nat} {σ : Sg} (hn : n < 1000) : ∀ (f m i : Nat) (a : Int32), n + 1 = i + f → f < m → e_lp2 (d_X7_orders_4 (nI n) (fun x1q2 σ2 => some (x1q2, σ2))) m a (nI i) σ = some (oP a i f, σ)
  | 0, m, i, a, h1, h2 => by
    obtain ⟨m, rfl⟩ : ∃ m1, m = m1 + 1 := ⟨m - 1, by omega⟩
    have z : nI n < nI i := nI_lt (by omega) (by omega)
    rw [lp2_s]
    simp only [d_X7_orders_4, z, if_true, oP]
  | f + 1, m, i, a, h1, h2 => by
    obtain ⟨m, rfl⟩ : ∃ m1, m = m1 + 1 := ⟨m - 1, by omega⟩
    have z : ¬ nI n < nI i := nI_nlt (by omega) (by omega)
    rw [lp2_s]
    simp only [d_X7_orders_4, z, if_false, p_lt, x_s, oP]
    exact q_ordL hn f m (i + 1) (a * nI i) (by omega) (by omega)
theorem in6' {j : Nat} (h : j < 6) : k_in (nI j) 6 = true := x_in h (by decide)
theorem ord_v : ∀ j, j < 5 → oP 1 2 j = stv 2 (j + 1) := by decide +kernel
theorem q_orders {x : Int32} {σ : Sg} (h : x < 0 ∨ inB x 0 5 = true) : m_X7_orders x σ = some (fI x, σ) := by
  unfold m_X7_orders
  have eF : e_F = 9999 + 1 := rfl
  by_cases hx : inB x 0 5 = true
  · obtain ⟨j, hj, rfl⟩ := inB_ix (n := 5) (by decide) hx
    unfold fI
    rw [if_pos hx, ix6 (show j < 6 by omega)]
    by_cases j0 : j = 0
    · subst j0
      rw [eF, lp2_s]
      have z : nI 0 < 2 := by decide
      simp only [d_X7_orders_4, z, if_true]
      rfl
    · have := q_ordL (n := j) (σ := σ) (by omega) (j - 1) e_F 2 1 (by omega) (e_F_lt (by omega))
      rw [ord_v (j - 1) (by omega), show j - 1 + 1 = j by omega] at this
      exact this
  · have h0 : x < 0 := h.resolve_right hx
    unfold fI
    rw [if_neg hx, eF, lp2_s]
    have z : x < 2 := Int32.lt_trans h0 (by decide)
    simp only [d_X7_orders_4, z, if_true]
theorem q_factorial {x : Int32} {σ : Sg} : m_X6_factorial x σ = some ((fI x).toInt64, σ) := by
  unfold m_X6_factorial fI
  simp only [q_within, p_cI, p_ifz]
  by_cases hx : inB x 0 5 = true
  · obtain ⟨j, hj, rfl⟩ := inB_ix (n := 5) (by decide) hx
    simp only [hx, if_true, p_gd (in6' (show j < 6 by omega))]
  · simp only [hx, Bool.false_eq_true, if_false]
    rfl
theorem fI_v (x : Int32) : fI x = 1 ∨ fI x = 2 ∨ fI x = 6 ∨ fI x = 24 ∨ fI x = 120 := by
  unfold fI
  by_cases hx : inB x 0 5 = true
  · obtain ⟨j, hj, rfl⟩ := inB_ix (n := 5) (by decide) hx
    rw [if_pos hx, ix6 (show j < 6 by omega)]
    have : j = 0 ∨ j = 1 ∨ j = 2 ∨ j = 3 ∨ j = 4 ∨ j = 5 := by omega
    rcases this with rfl | rfl | rfl | rfl | rfl | rfl <;> decide
  · rw [if_neg hx]; exact Or.inl rfl
theorem fI_mul (x y : Int32) : (fI x * fI y).toInt64 = (fI x).toInt64 * (fI y).toInt64 := by
  rcases fI_v x with h | h | h | h | h <;> rcases fI_v y with g | g | g | g | g <;> rw [h, g] <;> decide
theorem fI_s (x : Int32) : (fI x).toInt64.toInt.natAbs < 2 ^ 7 ∧ (fI x).toInt64 ≠ 0 := by
  rcases fI_v x with h | h | h | h | h <;> rw [h] <;> decide
theorem ord_ok : ∀ n, n < 6 → ∀ b, b < 6 → nI n - nI b - 1 < 0 ∨ inB (nI n - nI b - 1) 0 5 = true := by decide +kernel
