/-! ===== the signs of the pad ===== -/
def sg (g : Nat → Int32) (n i : Nat) : Int32 := if i < n then g i else 0
def ev (s : Nat → Int32) (i : Nat) : Nat :=
  if s i = 46 ∨ s i = 42 then 1 else if inB (s i) 65 69 = true then (if s (i + 1) = 45 ∨ inB (s (i + 1)) 97 101 = true then 2 else if inB (s (i + 1)) 65 69 = true then (if inB (s (i + 2)) 97 101 = true then 3 else 5) else 4) else 0
def evI : Nat → Int32
  | 0 => 0
  | 1 => 1
  | 2 => 2
  | 3 => 3
  | 4 => -1
  | _ => -2
def cf (s : Nat → Int32) (n : Nat) : Nat → Nat → Int32
  | 0, _ => -6
  | f + 1, i => if n ≤ i then -6 else if 1 ≤ ev s i ∧ ev s i ≤ 3 then cf s n f (i + ev s i) else nI (i + (ev s i - 3))
theorem ev_le (s : Nat → Int32) (i : Nat) : ev s i ≤ 5 := by
  unfold ev
  repeat' split
  all_goals decide
theorem lp2_s {α A B : Type} {f : (A → B → Sg → Option α) → A → B → Sg → Option α} {n : Nat} {a : A} {b : B} {s : Sg} : e_lp2 f (n + 1) a b s = f (e_lp2 f n) a b s := rfl
theorem lp1_s {α A : Type} {f : (A → Sg → Option α) → A → Sg → Option α} {n : Nat} {a : A} {s : Sg} : e_lp1 f (n + 1) a s = f (e_lp1 f n) a s := rfl
theorem nI_ad (i j : Nat) : nI i + nI j = nI (i + j) := nI_add i j
theorem sg_60 {g g' : Nat → Int32} {n : Nat} (hn : n ≤ 60) (h : ∀ i, i < 60 → g i = g' i) : sg g n = sg g' n := by
  funext i
  unfold sg
  split
  · exact h i (by omega)
  · rfl
theorem q_signAt {σ : Sg} {n i : Nat} (hn : n ≤ 60) (h : σ 58 1 = nI n) (hi : i < 1000) : m_X1_signAt (nI i) σ = some (sg (σ 59) n i, σ) := by
  unfold m_X1_signAt sg
  simp only [q_within, p_cI, p_ifz, h]
  by_cases h1 : i < n
  · have e1 : inB (nI i) 0 59 = true := decide_eq_true ⟨nI_le (a := 0) (by omega) (by omega), nI_le (b := 59) (by omega) (by decide)⟩
    simp only [e1, if_true, x_ge h1 (by omega), if_false, p_gd (x_in (show i < 60 by omega) (by decide)), x_ix (show i < 2 ^ 31 by omega), h1]
  · have e2 : nI n ≤ nI i := x_le (by omega) (by omega)
    simp only [e2, h1, if_true, if_false, ite_self]
theorem q_isPS {x : Int32} {σ : Sg} : m_X1_isPersonSign x σ = some (zI (inB x 65 69), σ) := by
  have := q_in (x := x) (a := 65) (b := 69) (σ := σ)
  unfold m_X7_in at this
  exact this
theorem q_isCS {x : Int32} {σ : Sg} : m_X1_isCoatSign x σ = some (zI (inB x 97 101), σ) := by
  have := q_in (x := x) (a := 97) (b := 101) (σ := σ)
  unfold m_X7_in at this
  exact this
theorem q_eventLength {σ : Sg} {n i : Nat} (hn : n ≤ 60) (h : σ 58 1 = nI n) (hi : i < 900) : m_X1_eventLength (nI i) σ = some (evI (ev (sg (σ 59) n) i), σ) := by
  unfold m_X1_eventLength
  have e2 : nI i + 2 = nI (i + 2) := nI_ad i 2
  simp only [e2, x_s, q_signAt hn h (show i < 1000 by omega), q_signAt hn h (show i + 1 < 1000 by omega), q_signAt hn h (show i + 2 < 1000 by omega), q_isPS, q_isCS, p_cI, p_ifz]
  unfold ev
  by_cases h1 : sg (σ 59) n i = 46
  · simp only [h1, if_true, true_or]; rfl
  · by_cases h2 : sg (σ 59) n i = 42
    · have : ¬ (42 : Int32) = 46 := by decide
      simp only [h2, this, if_true, if_false, or_true]; rfl
    · simp only [h1, h2, if_false, or_self]
      cases h3 : inB (sg (σ 59) n i) 65 69
      · simp only [Bool.false_eq_true, if_false]; rfl
      · simp only [if_true]
        by_cases h4 : sg (σ 59) n (i + 1) = 45
        · simp only [h4, if_true, true_or]; rfl
        · simp only [h4, if_false, false_or]
          cases h5 : inB (sg (σ 59) n (i + 1)) 97 101
          · simp only [Bool.false_eq_true, if_false]
            cases h6 : inB (sg (σ 59) n (i + 1)) 65 69
            · simp only [Bool.false_eq_true, if_false]; rfl
            · simp only [if_true]
              cases h7 : inB (sg (σ 59) n (i + 2)) 97 101
              · simp only [Bool.false_eq_true, if_false]; rfl
              · simp only [if_true]; rfl
          · simp only [if_true]; rfl
theorem ev_cases (s : Nat → Int32) (i : Nat) : ev s i = 0 ∨ ev s i = 1 ∨ ev s i = 2 ∨ ev s i = 3 ∨ ev s i = 4 ∨ ev s i = 5 := by
  have := ev_le s i
  omega
theorem q_ffLoop {σ : Sg} {n : Nat} (hn : n ≤ 60) (h : σ 58 1 = nI n) : ∀ f m i k, k + f = 60 → k ≤ i → i ≤ 62 → f < m → e_lp2 (d_X1_firstFault_4 (fun σ4 => some ((-6), σ4))) m (nI i) (nI k) σ = some (cf (sg (σ 59) n) n f i, σ)
  | 0, m, i, k, e1, e2, e3, e4 => by
    obtain ⟨m, rfl⟩ : ∃ m', m = m' + 1 := ⟨m - 1, by omega⟩
    have hk : k = 60 := by omega
    subst hk
    have : (60 : Int32) ≤ nI 60 := by decide
    simp only [lp2_s, d_X1_firstFault_4, this, if_true, cf]
  | f + 1, m, i, k, e1, e2, e3, e4 => by
    obtain ⟨m, rfl⟩ : ∃ m', m = m' + 1 := ⟨m - 1, by omega⟩
    have h60 : ¬ (60 : Int32) ≤ nI k := x_ge (n := 60) (by omega) (by decide)
    simp only [lp2_s, d_X1_firstFault_4, h60, if_false, h, cf]
    by_cases hi : n ≤ i
    · have : nI n ≤ nI i := x_le hi (by omega)
      simp only [this, hi, if_true]
    · have hni : ¬ nI n ≤ nI i := x_ge (by omega) (by omega)
      simp only [hni, hi, if_false, q_eventLength hn h (show i < 900 by omega), p_cI, p_lt, x_s]
      rcases ev_cases (sg (σ 59) n) i with e | e | e | e | e | e
      · rw [e]
        have z : ¬ (0 : Int32) < 0 := by decide
        have z2 : nI i - 0 = nI i := by simp
        simp only [evI, z, if_false, z2]
        rfl
      · rw [e]
        have z : (0 : Int32) < 1 := by decide
        have z1 : (1 : Nat) ≤ 1 ∧ 1 ≤ 3 := by omega
        simp only [evI, z, z1, if_true, x_s, and_self]
        exact q_ffLoop hn h f m (i + 1) (k + 1) (by omega) (by omega) (by omega) (by omega)
      · rw [e]
        have z : (0 : Int32) < 2 := by decide
        have z1 : (1 : Nat) ≤ 2 ∧ 2 ≤ 3 := by omega
        have z2 : nI i + 2 = nI (i + 2) := nI_ad i 2
        simp only [evI, z, z1, if_true, z2, and_self]
        exact q_ffLoop hn h f m (i + 2) (k + 1) (by omega) (by omega) (by omega) (by omega)
      · rw [e]
        have z : (0 : Int32) < 3 := by decide
        have z1 : (1 : Nat) ≤ 3 ∧ 3 ≤ 3 := by omega
        have z2 : nI i + 3 = nI (i + 3) := nI_ad i 3
        simp only [evI, z, z1, if_true, z2, and_self]
        exact q_ffLoop hn h f m (i + 3) (k + 1) (by omega) (by omega) (by omega) (by omega)
      · rw [e]
        have z : ¬ (0 : Int32) < -1 := by decide
        have z1 : ¬ ((1 : Nat) ≤ 4 ∧ 4 ≤ 3) := by omega
        have z2 : nI i - -1 = nI (i + 1) := by rw [Int32.sub_neg]; exact nI_ad i 1
        simp only [evI, z, z1, if_false, z2]
      · rw [e]
        have z : ¬ (0 : Int32) < -2 := by decide
        have z1 : ¬ ((1 : Nat) ≤ 5 ∧ 5 ≤ 3) := by omega
        have z2 : nI i - -2 = nI (i + 2) := by rw [Int32.sub_neg]; exact nI_ad i 2
        simp only [evI, z, z1, if_false, z2]
theorem q_firstFault {σ : Sg} {n : Nat} (hn : n ≤ 60) (h : σ 58 1 = nI n) : m_X1_firstFault σ = some (cf (sg (σ 59) n) n 60 0, σ) := by
  unfold m_X1_firstFault
  exact q_ffLoop hn h 60 e_F 0 0 (by omega) (by omega) (by omega) (e_F_lt (by decide))
theorem per_not {x : Int32} (h : inB x 65 69 = true) : inB x 97 101 = false ∧ x ≠ 45 ∧ x ≠ 46 ∧ x ≠ 42 := by
  have h' := of_decide_eq_true h
  have nn : ∀ y : Int32, inB y 65 69 = false → x ≠ y := fun y hy e => by rw [e, hy] at h; cases h
  refine ⟨?_, nn 45 (by decide), nn 46 (by decide), nn 42 (by decide)⟩
  refine decide_eq_false (fun q => ?_)
  have a := Int32.le_iff_toInt_le.mp h'.2
  have b := Int32.le_iff_toInt_le.mp q.1
  have e1 : (69 : Int32).toInt = 69 := by decide
  have e2 : (97 : Int32).toInt = 97 := by decide
  omega
theorem coat_not {x : Int32} (h : inB x 97 101 = true) : inB x 65 69 = false := by
  cases e : inB x 65 69
  · rfl
  · rw [(per_not e).1] at h; cases h
theorem q_fM {τ : Sg} {n : Nat} (hn : n ≤ 60) (h : τ 100 16 = nI n) : ∀ f m i, n ≤ i + f → i ≤ n → n - i < m →
    e_lp2 (d_X7_faultOf_4 (fun x1q6 σ6 => (if x1q6 = 0 then some ((-6), σ6) else some (σ6 100 16, σ6)))) m 0 (nI i) τ = some (cf (sg (τ 113) n) n f i, τ)
  | 0, m, i, e1, e2, e3 => by
    obtain ⟨m, rfl⟩ : ∃ m', m = m' + 1 := ⟨m - 1, by omega⟩
    have hi : i = n := by omega
    subst hi
    have : nI i ≤ nI i := Int32.le_refl _
    simp only [lp2_s, d_X7_faultOf_4, h, this, if_true, cf]
  | f + 1, m, i, e1, e2, e3 => by
    obtain ⟨m, rfl⟩ : ∃ m', m = m' + 1 := ⟨m - 1, by omega⟩
    by_cases hi : n ≤ i
    · have : nI n ≤ nI i := x_le hi (by omega)
      simp only [lp2_s, d_X7_faultOf_4, h, this, if_true, cf, hi]
    · have hni : ¬ nI n ≤ nI i := x_ge (by omega) (by omega)
      have hs : sg (τ 113) n i = τ 113 i := by simp [sg, show i < n by omega]
      have n10 : ¬ (1 : Int32) = 0 := by decide
      have n20 : ¬ (2 : Int32) = 0 := by decide
      have n21 : ¬ (2 : Int32) = 1 := by decide
      simp only [cf, hi, if_false]
      rw [lp2_s]
      simp only [d_X7_faultOf_4, h, hni, if_false, p_gd (x_in (show i < 60 by omega) (by decide)), x_ix (show i < 2 ^ 31 by omega), p_lt, q_in, p_cI, if_true, p_ifz]
      cases h3 : inB (τ 113 i) 65 69
      · simp only [Bool.false_eq_true, if_false]
        by_cases h4 : τ 113 i = 46 ∨ τ 113 i = 42
        · have ee : ev (sg (τ 113) n) i = 1 := by unfold ev; rw [hs, if_pos h4]
          have go : b_X7_faultOf_60 (fun x1q6 σ6 => (if x1q6 = 0 then some ((-6), σ6) else some (σ6 100 16, σ6))) (e_lp2 (d_X7_faultOf_4 (fun x1q6 σ6 => (if x1q6 = 0 then some ((-6), σ6) else some (σ6 100 16, σ6)))) m) 0 (nI i) (zI false) τ = some (cf (sg (τ 113) n) n f (i + 1), τ) := by
            simp only [b_X7_faultOf_60, b_X7_faultOf_99, b_X7_faultOf_140, n10, if_false, if_true, zI_f, x_s]
            exact q_fM hn h f m (i + 1) (by omega) (by omega) (by omega)
          rw [ee]
          have z1 : (1 : Nat) ≤ 1 ∧ 1 ≤ 3 := by omega
          rw [if_pos z1]
          by_cases h5 : τ 113 i = 46
          · rw [if_pos h5]; exact go
          · rw [if_neg h5, if_pos (h4.resolve_left h5)]; exact go
        · have h5 : ¬ τ 113 i = 46 := fun e => h4 (Or.inl e)
          have h6 : ¬ τ 113 i = 42 := fun e => h4 (Or.inr e)
          have ee : ev (sg (τ 113) n) i = 0 := by unfold ev; rw [hs, if_neg h4, h3]; simp
          rw [ee, if_neg h5, if_neg h6]
          have z1 : ¬ ((1 : Nat) ≤ 0 ∧ 0 ≤ 3) := by omega
          rw [if_neg z1]
          simp only [b_X7_faultOf_99, if_true]
          rfl
      · obtain ⟨p1, p2, p3, p4⟩ := per_not h3
        have hor : ¬ (τ 113 i = 46 ∨ τ 113 i = 42) := fun e => e.elim p3 p4
        simp only [if_true, b_X7_faultOf_60, b_X7_faultOf_99, b_X7_faultOf_140, n10, if_false, zI_t, x_s]
        obtain ⟨m, rfl⟩ : ∃ m', m = m' + 1 := ⟨m - 1, by omega⟩
        rw [lp2_s]
        by_cases hi1 : n ≤ i + 1
        · have : nI n ≤ nI (i + 1) := x_le hi1 (by omega)
          have s1 : sg (τ 113) n (i + 1) = 0 := by simp [sg, show ¬ i + 1 < n by omega]
          have ee : ev (sg (τ 113) n) i = 4 := by
            unfold ev
            rw [hs, if_neg hor, if_pos h3, s1]
            have t1 : ¬ ((0 : Int32) = 45 ∨ inB 0 97 101 = true) := by decide
            have t2 : ¬ (inB 0 65 69 = true) := by decide
            rw [if_neg t1, if_neg t2]
          have z1 : ¬ ((1 : Nat) ≤ 4 ∧ 4 ≤ 3) := by omega
          have hn1 : n = i + 1 := by omega
          rw [ee, if_neg z1]
          simp only [d_X7_faultOf_4, h, this, if_true, n10, if_false]
          rw [hn1]
        · have hni1 : ¬ nI n ≤ nI (i + 1) := x_ge (by omega) (by omega)
          have hs1 : sg (τ 113) n (i + 1) = τ 113 (i + 1) := by simp [sg, show i + 1 < n by omega]
          simp only [d_X7_faultOf_4, h, hni1, if_false, p_gd (x_in (show i + 1 < 60 by omega) (by decide)), x_ix (show i + 1 < 2 ^ 31 by omega), p_lt, q_in, p_cI, if_true, p_ifz, n10]
          cases h4 : inB (τ 113 (i + 1)) 65 69
          · simp only [Bool.false_eq_true, if_false]
            by_cases h5 : τ 113 (i + 1) = 45 ∨ inB (τ 113 (i + 1)) 97 101 = true
            · have ee : ev (sg (τ 113) n) i = 2 := by unfold ev; rw [hs, hs1, if_neg hor, if_pos h3, if_pos h5]
              have go : b_X7_faultOf_89 (fun x1q6 σ6 => (if x1q6 = 0 then some ((-6), σ6) else some (σ6 100 16, σ6))) (e_lp2 (d_X7_faultOf_4 (fun x1q6 σ6 => (if x1q6 = 0 then some ((-6), σ6) else some (σ6 100 16, σ6)))) m) 1 (nI (i + 1)) (zI false) τ = some (cf (sg (τ 113) n) n f (i + 2), τ) := by
                simp only [b_X7_faultOf_89, b_X7_faultOf_99, b_X7_faultOf_139, b_X7_faultOf_140, n10, if_false, if_true, zI_f, x_s]
                exact q_fM hn h f m (i + 2) (by omega) (by omega) (by omega)
              rw [ee]
              have z1 : (1 : Nat) ≤ 2 ∧ 2 ≤ 3 := by omega
              rw [if_pos z1]
              cases h6 : inB (τ 113 (i + 1)) 97 101
              · simp only [Bool.false_eq_true, if_false]
                rw [if_pos (h5.resolve_right (by rw [h6]; decide))]; exact go
              · simp only [if_true]; exact go
            · have h6 : inB (τ 113 (i + 1)) 97 101 = false := by
                cases e : inB (τ 113 (i + 1)) 97 101
                · rfl
                · exact (h5 (Or.inr e)).elim
              have h7 : ¬ τ 113 (i + 1) = 45 := fun e => h5 (Or.inl e)
              have ee : ev (sg (τ 113) n) i = 4 := by unfold ev; rw [hs, hs1, if_neg hor, if_pos h3, if_neg h5, h4]; simp
              have z1 : ¬ ((1 : Nat) ≤ 4 ∧ 4 ≤ 3) := by omega
              rw [ee, if_neg z1]
              simp only [h6, Bool.false_eq_true, if_false, h7, b_X7_faultOf_99, if_true]
          · obtain ⟨t1, t2, t3, t4⟩ := per_not h4
            have h5 : ¬ (τ 113 (i + 1) = 45 ∨ inB (τ 113 (i + 1)) 97 101 = true) := fun e => e.elim t2 (by rw [t1]; decide)
            have e12 : i + 1 + 1 = i + 2 := rfl
            simp only [if_true, b_X7_faultOf_89, b_X7_faultOf_99, b_X7_faultOf_140, n10, if_false, zI_t, x_s, e12]
            obtain ⟨m, rfl⟩ : ∃ m', m = m' + 1 := ⟨m - 1, by omega⟩
            rw [lp2_s]
            by_cases hi2 : n ≤ i + 2
            · have : nI n ≤ nI (i + 2) := x_le hi2 (by omega)
              have s2 : sg (τ 113) n (i + 2) = 0 := by simp [sg, show ¬ i + 2 < n by omega]
              have ee : ev (sg (τ 113) n) i = 5 := by
                unfold ev
                rw [hs, hs1, if_neg hor, if_pos h3, if_neg h5, if_pos h4, s2]
                decide
              have z1 : ¬ ((1 : Nat) ≤ 5 ∧ 5 ≤ 3) := by omega
              have hn1 : n = i + 2 := by omega
              rw [ee, if_neg z1]
              simp only [d_X7_faultOf_4, h, this, if_true, n20, if_false]
              rw [hn1]
            · have hni2 : ¬ nI n ≤ nI (i + 2) := x_ge (by omega) (by omega)
              have hs2 : sg (τ 113) n (i + 2) = τ 113 (i + 2) := by simp [sg, show i + 2 < n by omega]
              simp only [d_X7_faultOf_4, h, hni2, if_false, p_gd (x_in (show i + 2 < 60 by omega) (by decide)), x_ix (show i + 2 < 2 ^ 31 by omega), p_lt, q_in, p_cI, if_true, n20, n21, b_X7_faultOf_99, b_X7_faultOf_139, b_X7_faultOf_140, p_ifz]
              cases h6 : inB (τ 113 (i + 2)) 97 101
              · have ee : ev (sg (τ 113) n) i = 5 := by unfold ev; rw [hs, hs1, hs2, if_neg hor, if_pos h3, if_neg h5, if_pos h4, h6]; simp
                have z1 : ¬ ((1 : Nat) ≤ 5 ∧ 5 ≤ 3) := by omega
                rw [ee, if_neg z1]
                simp only [Bool.false_eq_true, if_false]
              · have ee : ev (sg (τ 113) n) i = 3 := by unfold ev; rw [hs, hs1, hs2, if_neg hor, if_pos h3, if_neg h5, if_pos h4, h6]; simp
                have z1 : (1 : Nat) ≤ 3 ∧ 3 ≤ 3 := by omega
                rw [ee, if_pos z1]
                simp only [if_true, x_s]
                exact q_fM hn h f m (i + 3) (by omega) (by omega) (by omega)
theorem q_faultOf {τ : Sg} {n : Nat} (hn : n ≤ 60) (h : τ 100 16 = nI n) : m_X7_faultOf τ = some (cf (sg (τ 113) n) n 60 0, τ) := by
  unfold m_X7_faultOf
  exact q_fM hn h 60 e_F 0 (by omega) (by omega) (e_F_lt (by omega))
theorem op_fault : SimI m_X6_fault m_X7_fault := by
  intro σ hI
  obtain ⟨w1, w2, ⟨⟨n, hn, e1, e2⟩, e3⟩, w4⟩ := id hI
  refine ⟨cf (sg (σ 59) n) n 60 0, σ, σ, ?_, ?_, hI⟩
  · unfold m_X6_fault
    rw [q_firstFault hn e1, p_cI]
  · unfold m_X7_fault
    rw [q_faultOf hn e2, p_cI, sg_60 hn e3]
