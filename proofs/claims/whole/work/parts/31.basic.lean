/-! ===== small readers ===== -/
theorem i_nlt {x y : Int32} : ¬ x < y ↔ y ≤ x := by rw [Int32.lt_iff_toInt_lt, Int32.le_iff_toInt_le]; omega
theorem i_nle {x y : Int32} : ¬ x ≤ y ↔ y < x := by rw [Int32.lt_iff_toInt_lt, Int32.le_iff_toInt_le]; omega
def inB (x a b : Int32) : Bool := decide (a ≤ x ∧ x ≤ b)
def tB (P x : Int32) : Bool := decide ((jsr P x &&& 1) = 1)
def hB (P x : Int32) : Bool := inB x 0 4 && tB P x
theorem q_in {x a b : Int32} {σ : Sg} : m_X7_in x a b σ = some (zI (inB x a b), σ) := by
  unfold m_X7_in inB
  by_cases h1 : x < a
  · have : ¬ a ≤ x := by rw [i_nle]; exact h1
    simp [h1, this, e_rz, zI]
  · have h1' : a ≤ x := i_nlt.mp h1
    by_cases h2 : b < x
    · have : ¬ x ≤ b := by rw [i_nle]; exact h2
      simp [h1, h2, this, e_rz, zI]
    · have h2' : x ≤ b := i_nlt.mp h2
      simp [h1, h1', h2, h2', e_rz, zI]
theorem q_within {x m : Int32} {σ : Sg} : m_X6_within x m σ = some (zI (inB x 0 m), σ) := by
  unfold m_X6_within inB
  by_cases h1 : x < 0
  · have : ¬ 0 ≤ x := by rw [i_nle]; exact h1
    simp [h1, this, e_rz, zI]
  · have h1' : 0 ≤ x := i_nlt.mp h1
    by_cases h2 : m < x
    · have : ¬ x ≤ m := by rw [i_nle]; exact h2
      simp [h1, h2, this, e_rz, zI]
    · have h2' : x ≤ m := i_nlt.mp h2
      simp [h1, h1', h2, h2', e_rz, zI]
theorem q_has {s x : Int32} {σ : Sg} : m_X7_has s x σ = some (zI (tB s x), σ) := by
  unfold m_X7_has tB
  by_cases h : (jsr s x &&& 1) = 1 <;> simp [h, e_rz, zI]
theorem q_isThere {x : Int32} {σ : Sg} : m_X7_isThere x σ = some (zI (hB (σ 100 0) x), σ) := by
  unfold m_X7_isThere hB
  simp only [q_in, q_has, p_cI, p_ifz, p_rz0, p_rz1]
  cases inB x 0 4 <;> cases tB (σ 100 0) x <;> rfl
theorem q_isCoat {x : Int32} {σ : Sg} : m_X7_isCoat x σ = some (zI (hB (σ 100 1) x), σ) := by
  unfold m_X7_isCoat hB
  simp only [q_in, q_has, p_cI, p_ifz, p_rz0, p_rz1]
  cases inB x 0 4 <;> cases tB (σ 100 1) x <;> rfl
theorem lt5 {x : Int32} : 5 ≤ x ↔ ¬ x ≤ 4 := by
  rw [Int32.le_iff_toInt_le, Int32.le_iff_toInt_le]
  have h1 : (5 : Int32).toInt = 5 := by decide
  have h2 : (4 : Int32).toInt = 4 := by decide
  omega
theorem q_hasPerson {k : Nat} {x : Int32} {σ : Sg} : m_X4_hasPerson k x σ = some (zI (hB (σ k 0) x), σ) := by
  unfold m_X4_hasPerson hB inB tB
  by_cases h1 : x < 0
  · have : ¬ 0 ≤ x := by rw [i_nle]; exact h1
    simp [h1, this, e_rz, zI]
  · have h1' : 0 ≤ x := i_nlt.mp h1
    by_cases h2 : x ≤ 4
    · have h3 : ¬ 5 ≤ x := by rw [lt5]; simpa using h2
      by_cases h : (jsr (σ k 0) x &&& 1) = 1 <;> simp [h1, h1', h2, h3, h, e_rz, zI]
    · have h3 : 5 ≤ x := lt5.mpr h2
      simp [h1, h2, h3, e_rz, zI]
theorem q_hasCoat {k : Nat} {x : Int32} {σ : Sg} : m_X4_hasCoat k x σ = some (zI (hB (σ k 1) x), σ) := by
  unfold m_X4_hasCoat hB inB tB
  by_cases h1 : x < 0
  · have : ¬ 0 ≤ x := by rw [i_nle]; exact h1
    simp [h1, this, e_rz, zI]
  · have h1' : 0 ≤ x := i_nlt.mp h1
    by_cases h2 : x ≤ 4
    · have h3 : ¬ 5 ≤ x := by rw [lt5]; simpa using h2
      by_cases h : (jsr (σ k 1) x &&& 1) = 1 <;> simp [h1, h1', h2, h3, h, e_rz, zI]
    · have h3 : 5 ≤ x := lt5.mpr h2
      simp [h1, h2, h3, e_rz, zI]
theorem inB_ix {x : Int32} {n : Nat} (hn : n < 2 ^ 31) (h : inB x 0 (nI n) = true) : ∃ i, i ≤ n ∧ x = nI i := by
  unfold inB at h
  have h := of_decide_eq_true h
  exact nI_of2 (nI_toInt hn) (i_nlt.mpr h.1) h.2
theorem hB_ix {P x : Int32} (h : hB P x = true) : ∃ i, i < 5 ∧ x = nI i := by
  unfold hB at h
  simp only [Bool.and_eq_true] at h
  obtain ⟨i, h1, h2⟩ := inB_ix (n := 4) (by decide) h.1
  exact ⟨i, by omega, h2⟩
