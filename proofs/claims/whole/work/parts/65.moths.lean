/-! ===== moths ===== -/
def ls (w : Nat → Int32) (j i p : Nat) : Bool := !decide (w p = -1) && (decide ((w p).toNatClampNeg < i) && tB (nI j) (w p))
def eW (w : Nat → Int32) (j p : Nat) : Int32 := if ls w j 5 p = true then -1 else w p
theorem q_lose {k j : Nat} {σ : Sg} (hw : ∀ p, p < 5 → σ (k + 1) p = -1 ∨ ∃ c, c < 5 ∧ σ (k + 1) p = nI c) : ∃ s, m_X4_loseCoats k (nI j) σ = some s ∧ (∀ c, c ≠ k + 1 → s c = σ c) ∧ ∀ p, p < 5 → s (k + 1) p = eW (σ (k + 1)) j p := by
  unfold m_X4_loseCoats
  refine lp1_z (fun o => ∃ s : Sg, o = some s ∧ (∀ c, c ≠ k + 1 → s c = σ c) ∧ ∀ p, p < 5 → s (k + 1) p = eW (σ (k + 1)) j p) (fun i s => (∀ c, c ≠ k + 1 → s c = σ c) ∧ ∀ p, p < 5 → s (k + 1) p = if ls (σ (k + 1)) j i p = true then -1 else σ (k + 1) p) 5 ?_ ?_ (e_F_lt (by omega)) ⟨fun _ _ => rfl, fun p hp => by simp [ls]⟩
  · rintro H s ⟨g1, g2⟩
    simp only [d_X4_loseCoats_2, le5, if_true]
    exact ⟨s, rfl, g1, g2⟩
  · rintro H i s hi ⟨g1, g2⟩ kk
    simp only [d_X4_loseCoats_2, ge5 hi, if_false, tB_iff, x_s]
    by_cases tb : tB (nI j) (nI i) = true
    · rw [if_pos tb]
      obtain ⟨s', h1, h2, h3⟩ := q_undress (k := k) (x := nI i) (σ := s)
      rw [h1, p_cV]
      refine kk _ ⟨fun c hc => by rw [h2 c hc]; exact g1 c hc, fun p hp => ?_⟩
      rw [h3 p hp, g2 p hp]
      rcases hw p hp with e | ⟨c, hc, e⟩
      · simp only [ls, e, decide_true, Bool.not_true, Bool.false_and, Bool.false_eq_true, if_false, ite_self]
      · have hne : ¬ nI c = -1 := fun q => m1_c hc q.symm
        have h1i : ¬ (-1 : Int32) = nI i := m1_c hi
        simp only [ls, e, hne, decide_false, Bool.not_false, Bool.true_and, ix5 hc]
        by_cases ci : c = i
        · subst ci
          simp [tb]
        · have hci : ¬ nI c = nI i := fun q => ci ((nI_inj5 hc hi).mp q)
          by_cases cl : c < i
          · by_cases tc : tB (nI j) (nI c) = true
            · simp [cl, tc, h1i, show c < i + 1 by omega]
            · simp [cl, tc, hci, show c < i + 1 by omega]
          · simp [cl, hci, show ¬ c < i + 1 by omega]
    · rw [if_neg tb]
      refine kk _ ⟨g1, fun p hp => ?_⟩
      rw [g2 p hp]
      rcases hw p hp with e | ⟨c, hc, e⟩
      · simp only [ls, e, decide_true, Bool.not_true, Bool.false_and, Bool.false_eq_true, if_false]
      · have hne : ¬ nI c = -1 := fun q => m1_c hc q.symm
        simp only [ls, e, hne, decide_false, Bool.not_false, Bool.true_and, ix5 hc]
        by_cases ci : c = i
        · subst ci
          simp [tb]
        · by_cases cl : c < i
          · simp [cl, show c < i + 1 by omega]
          · simp [cl, show ¬ c < i + 1 by omega]
def chN (W g : Nat → Bool) (mt : Nat → Nat) : Nat → Nat
  | 0 => 1
  | c + 1 => chN W g mt c * (if W c = true then (if g c = true then mt c else 10 - mt c) else 1)
def owN (W g : Nat → Bool) (mt : Nat → Nat) : Nat → Nat
  | 0 => 1
  | c + 1 => owN W g mt c * (if g c = true then (if W c = true then mt c else 0) else 10 - (if W c = true then mt c else 0))
def zc (W : Nat → Bool) : Nat → Nat
  | 0 => 0
  | c + 1 => zc W c + bN (!W c)
theorem ow_ch {W g : Nat → Bool} {mt : Nat → Nat} : ∀ n, (∀ c, c < n → g c = true → W c = true) → owN W g mt n = chN W g mt n * 10 ^ zc W n
  | 0, _ => rfl
  | n + 1, h => by
    have ih := ow_ch (mt := mt) n (fun c hc => h c (by omega))
    have hn := h n (by omega)
    simp only [owN, chN, zc, ih]
    cases w : W n
    · have gn : g n = false := by
        cases e : g n
        · rfl
        · rw [hn e] at w; cases w
      have b1 : bN (!false) = 1 := rfl
      simp only [gn, Bool.false_eq_true, if_false, b1, Nat.pow_succ, Nat.mul_one, Nat.sub_zero, Nat.mul_assoc]
    · have b1 : bN (!true) = 0 := rfl
      simp only [if_true, b1, Nat.add_zero]
      split <;> rw [Nat.mul_right_comm]
theorem ow_0 {W g : Nat → Bool} {mt : Nat → Nat} : ∀ n, (∃ c, c < n ∧ g c = true ∧ W c = false) → owN W g mt n = 0
  | 0, ⟨c, hc, _⟩ => by omega
  | n + 1, ⟨c, hc, h1, h2⟩ => by
    by_cases e : c = n
    · subst e
      simp only [owN, h1, h2, if_true, Bool.false_eq_true, if_false, Nat.mul_zero]
    · have := ow_0 (mt := mt) n ⟨c, by omega, h1, h2⟩
      simp only [owN, this, Nat.zero_mul]
theorem ch_le {W g : Nat → Bool} {mt : Nat → Nat} (h : ∀ c, mt c ≤ 10) : ∀ n, chN W g mt n ≤ 10 ^ n
  | 0 => Nat.le_refl _
  | n + 1 => by
    simp only [chN, Nat.pow_succ]
    refine Nat.mul_le_mul (ch_le h n) ?_
    have := h n
    repeat' split
    all_goals omega
theorem ow_le {W g : Nat → Bool} {mt : Nat → Nat} (h : ∀ c, mt c ≤ 10) : ∀ n, owN W g mt n ≤ 10 ^ n
  | 0 => Nat.le_refl _
  | n + 1 => by
    simp only [owN, Nat.pow_succ]
    refine Nat.mul_le_mul (ow_le h n) ?_
    have := h n
    repeat' split
    all_goals omega
theorem zc_5 (W : Nat → Bool) : cn5 W + zc W 5 = 5 := by
  simp only [cn5, zc]
  cases W 0 <;> cases W 1 <;> cases W 2 <;> cases W 3 <;> cases W 4 <;> rfl
/-- a sum over the first sets -/
def suN (b : Nat → Bool) (v : Nat → Nat) : Nat → Nat
  | 0 => 0
  | i + 1 => suN b v i + (if b i = true then v i else 0)
theorem su_le {b : Nat → Bool} {v : Nat → Nat} {M : Nat} (h : ∀ i, v i ≤ M) : ∀ n, suN b v n ≤ n * M
  | 0 => by simp [suN]
  | n + 1 => by
    have := su_le (b := b) h n
    have h2 := h n
    simp only [suN, Nat.add_mul, Nat.one_mul]
    split <;> omega
theorem su_mul {b b' : Nat → Bool} {v v' : Nat → Nat} {t : Nat} : ∀ n, (∀ i, i < n → (if b' i = true then v' i else 0) = (if b i = true then v i else 0) * t) → suN b' v' n = suN b v n * t
  | 0, _ => by simp [suN]
  | n + 1, h => by
    simp only [suN, Nat.add_mul]
    rw [su_mul n (fun i hi => h i (by omega)), h n (by omega)]
theorem eu_N : ∀ (f x y : Nat) (d : Int64), x < 2 ^ 63 → y < 2 ^ 63 → eu f (lN x) (lN y) = some d → d = lN (Nat.gcd x y)
  | 0, x, y, d, hx, hy, h => by
    by_cases q : y = 0
    · subst q
      have h' : eu 0 (lN x) 0 = some d := h
      rw [eu_z] at h'
      rw [Nat.gcd_zero_right]
      exact (Option.some.inj h').symm
    · have : ¬ lN y = 0 := fun e => q ((pk_lEQ (b := 0) hy (by decide)).mp e)
      rw [eu_0 this] at h; cases h
  | f + 1, x, y, d, hx, hy, h => by
    by_cases q : y = 0
    · subst q
      have h' : eu (f + 1) (lN x) 0 = some d := h
      rw [eu_z] at h'
      rw [Nat.gcd_zero_right]
      exact (Option.some.inj h').symm
    · have hne : ¬ lN y = 0 := fun e => q ((pk_lEQ (b := 0) hy (by decide)).mp e)
      rw [eu_s hne, jrl, pk_lRem hx (by omega) hy] at h
      have hm : x % y < y := Nat.mod_lt _ (by omega)
      have := eu_N f y (x % y) d hy (by omega) h
      rw [this, Nat.gcd_comm x y, Nat.gcd_rec y x, Nat.gcd_comm]
theorem q_cdMo {p q r : Int32} {b : Int64} {σ : Sg} {K : Int64 → Int64 → Sg → Option (Int64 × Sg)} : ∀ (f m : Nat) (x y d : Int64), f < m → eu f x y = some d → e_lp3 (d_X7_moths_224 p q r K) m b x y σ = K b d σ
  | 0, m, x, y, d, h2, h3 => by
    obtain ⟨m, rfl⟩ : ∃ m1, m = m1 + 1 := ⟨m - 1, by omega⟩
    by_cases hy : y = 0
    · subst hy
      rw [eu_z] at h3
      have := Option.some.inj h3
      subst this
      rw [lp3_s]
      have z : lg_cmp 0 0 = 0 := by decide
      simp only [d_X7_moths_224, z, if_true]
    · rw [eu_0 hy] at h3; cases h3
  | f + 1, m, x, y, d, h2, h3 => by
    obtain ⟨m, rfl⟩ : ∃ m1, m = m1 + 1 := ⟨m - 1, by omega⟩
    rw [lp3_s]
    by_cases hy : y = 0
    · subst hy
      rw [eu_z] at h3
      have := Option.some.inj h3
      subst this
      have z : lg_cmp 0 0 = 0 := by decide
      simp only [d_X7_moths_224, z, if_true]
    · rw [eu_s hy] at h3
      simp only [d_X7_moths_224, lgc0, hy, if_false, p_lt]
      exact q_cdMo f m y (jrl x y) d (by omega) h3
def mtN (m : Nat → Int32) (c : Nat) : Nat := min 10 (m c).toNatClampNeg
theorem mtN_le (m : Nat → Int32) (c : Nat) : mtN m c ≤ 10 := Nat.min_le_left _ _
theorem mtN_eq {m : Nat → Int32} {c : Nat} (h : ∃ n, n ≤ 10 ∧ m c = nI n) : m c = nI (mtN m c) := by
  obtain ⟨n, hn, e⟩ := h
  unfold mtN
  rw [e, x_ix (by omega), Nat.min_eq_right hn]
theorem l10_sub {t : Nat} (h : t ≤ 10) : (10 - nI t).toInt64 = lN (10 - t) := by
  have : (10 : Int32) - nI t = nI (10 - t) := nI_sub (a := 10) h
  rw [this, nI_l (by omega)]
theorem q_chance {k j : Nat} {W : Nat → Bool} {σ : Sg} (hm : ∀ c, c < 5 → ∃ n, n ≤ 10 ∧ σ (k + 10) c = nI n) : m_X4_chanceOf k (nI j) (nI (mk5 W)) σ = some (lN (chN W (fun c => tB (nI j) (nI c)) (mtN (σ (k + 10))) 5), σ) := by
  unfold m_X4_chanceOf
  refine lp2_z (fun o => o = some (lN (chN W (fun c => tB (nI j) (nI c)) (mtN (σ (k + 10))) 5), σ)) (fun i a u => u = σ ∧ a = lN (chN W (fun c => tB (nI j) (nI c)) (mtN (σ (k + 10))) i)) 5 ?_ ?_ (e_F_lt (by omega)) ⟨rfl, rfl⟩
  · rintro H a u ⟨rfl, rfl⟩
    simp only [d_X4_chanceOf_5, le5, if_true]
  · rintro H i a u hi ⟨rfl, rfl⟩ kk
    have e := mtN_eq (hm i hi)
    have hle := mtN_le (u (k + 10)) i
    simp only [d_X4_chanceOf_5, ge5 hi, if_false, tB_iff, tB_mk5 _ hi, p_gd (in5 hi), ix5 hi, b_X4_chanceOf_54, p_lt, x_s]
    rw [e, l10_sub hle, nI_l (show mtN (u (k + 10)) i < 2 ^ 31 by omega), lN_mul, lN_mul]
    by_cases w : W i = true
    · rw [if_pos w]
      by_cases g : tB (nI j) (nI i) = true
      · rw [if_pos g]
        exact kk _ _ ⟨rfl, by simp only [chN, w, g, if_true]⟩
      · rw [if_neg g]
        exact kk _ _ ⟨rfl, by simp only [chN, w, g, if_true, if_false, Bool.false_eq_true]⟩
    · rw [if_neg w]
      exact kk _ _ ⟨rfl, by simp only [chN, w, if_false, Bool.false_eq_true, Nat.mul_one]⟩
theorem q_tens {x1 x2 x3 : Int32} {b : Int64} {W : Nat → Bool} {σ : Sg} {K : Int32 → Int64 → Int64 → Sg → Option (Int64 × Sg)} : e_lp4 (d_X6_moths_52 x1 x2 x3 K) e_F (nI (mk5 W)) b 1 0 σ = K (nI (mk5 W)) b (lN (10 ^ cn5 W)) σ := by
  have hN := cn5_le W
  refine lp4_z (fun o => o = K (nI (mk5 W)) b (lN (10 ^ cn5 W)) σ) (fun i a' b' c' u => u = σ ∧ a' = nI (mk5 W) ∧ b' = b ∧ c' = lN (10 ^ i)) (cn5 W) ?_ ?_ (e_F_lt (by omega)) ⟨rfl, rfl, rfl, rfl⟩
  · rintro H a' b' c' u ⟨rfl, rfl, rfl, rfl⟩
    have z : nI (cn5 W) ≤ nI (cn5 W) := Int32.le_refl _
    simp only [d_X6_moths_52, q_bitCount, bc_mk5, p_cI, z, if_true]
  · rintro H i a' b' c' u hi ⟨rfl, rfl, rfl, rfl⟩ kk
    have z : ¬ nI (cn5 W) ≤ nI i := x_ge hi (by omega)
    have e10 : lN (10 ^ i) * 10 = lN (10 ^ (i + 1)) := by rw [Nat.pow_succ]; exact lN_mul _ 10
    simp only [d_X6_moths_52, q_bitCount, bc_mk5, p_cI, z, if_false, p_lt, x_s, e10]
    exact kk _ _ _ _ ⟨rfl, rfl, rfl, rfl⟩
