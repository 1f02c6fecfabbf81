/-! ===== who wears a coat ===== -/
theorem q_wearers {k : Nat} {c : Int32} {σ : Sg} : m_X4_wearers k c σ = some (nI (mk5 (fun i => decide (σ (k + 1) i = c))), σ) := by
  unfold m_X4_wearers
  rw [← fo_or5]
  exact lp2_acc (fun i a => if decide (σ (k + 1) i = c) = true then a ||| jsl 1 (nI i) else a) 5 (fun a => some (a, σ)) (fun H a => by simp only [d_X4_wearers_4, le5, if_true])
    (fun H i a hi => by
      simp only [d_X4_wearers_4, ge5 hi, if_false, p_gd (in5 hi), ix5 hi, p_lt, x_s, decide_eq_true_eq]
      by_cases h : σ (k + 1) i = c <;> simp only [h, if_true, if_false]) (e_F_lt (by decide)) 0
theorem q_wearersM {c : Int32} {σ : Sg} : m_X7_wearers c σ = some (nI (mk5 (fun i => tB (σ 100 0) (nI i) && decide (σ 106 i = c))), σ) := by
  unfold m_X7_wearers
  rw [← fo_or5']
  exact lp2_acc (fun i a => a ||| (if (tB (σ 100 0) (nI i) && decide (σ 106 i = c)) = true then jsl 1 (nI i) else 0)) 5 (fun a => some (a, σ)) (fun H a => by simp only [d_X7_wearers_4, le5, if_true])
    (fun H i a hi => by
      simp only [d_X7_wearers_4, ge5 hi, if_false, q_has, p_cI, p_ifz, b_X7_wearers_37, b_X7_wearers_38, p_gd (in5 hi), ix5 hi, p_lt, x_s]
      cases tB (σ 100 0) (nI i) <;> by_cases h : σ 106 i = c <;> simp [h]) (e_F_lt (by decide)) 0
theorem q_many {c : Int32} {σ : Sg} : m_X7_many c σ = some (nI (cn5 (fun i => tB (σ 100 0) (nI i) && decide (σ 114 i = c))), σ) := by
  unfold m_X7_many
  rw [← fo_cn5]
  exact lp2_acc (fun i a => a + (if (tB (σ 100 0) (nI i) && decide (σ 114 i = c)) = true then 1 else 0)) 5 (fun a => some (a, σ)) (fun H a => by simp only [d_X7_many_4, le5, if_true])
    (fun H i a hi => by
      simp only [d_X7_many_4, ge5 hi, if_false, q_has, p_cI, p_ifz, b_X7_many_35, b_X7_many_36, p_gd (in5 hi), ix5 hi, p_lt, x_s]
      cases tB (σ 100 0) (nI i) <;> by_cases h : σ 114 i = c <;> simp [h]) (e_F_lt (by decide)) 0
/-! ===== worths ===== -/
def wo (s l h : Int32) : Int32 := if h = 1 then (if l ≤ s then l else s) / 2 else (if l ≤ s then l else s)
theorem wo_min (s l : Int32) : (if l < s then l else s) = (if l ≤ s then l else s) := by
  by_cases h : l < s
  · have : l ≤ s := Int32.le_of_lt h
    simp [h, this]
  · by_cases h2 : l ≤ s
    · have : l = s := by
        have h3 := i_nlt.mp h
        exact Int32.le_antisymm h2 h3
      simp [this]
    · simp [h, h2]
/-- the worth of a coat by its number, of a row of stitches, a cap, a row of halves: 0 if it is none -/
def wv (st ha : Nat → Int32) (cap x : Int32) : Int32 := if inB x 0 4 then wo (st x.toNatClampNeg) cap (ha x.toNatClampNeg) else 0
theorem q_worthOf {k : Nat} {x : Int32} {σ : Sg} : m_X4_worthOf k x σ = some (wv (σ (k + 7)) (σ (k + 11)) (σ k 2) x, σ) := by
  unfold m_X4_worthOf wv
  by_cases h1 : x < 0
  · have h2 : inB x 0 4 = false := by
      unfold inB; exact decide_eq_false (fun h => absurd h1 (i_nlt.mpr h.1))
    simp [h1, h2]
  · by_cases h3 : x < 5
    · have h4 : inB x 0 4 = true := by
        unfold inB
        refine decide_eq_true ⟨i_nlt.mp h1, ?_⟩
        have := lt5 (x := x)
        by_cases q : x ≤ 4
        · exact q
        · exact absurd h3 (i_nlt.mpr (this.mpr q))
      obtain ⟨i, hi, rfl⟩ := inB_ix (n := 4) (by decide) h4
      have hi5 : i < 5 := by omega
      simp only [h1, h3, h4, if_false, if_true, p_gd (in5 hi5), ix5 hi5, m_J9_min_7cf53, p_cI, wo, wo_min]
      by_cases h : σ (k + 11) i = 1 <;> simp [h]
    · have h2 : inB x 0 4 = false := by
        unfold inB
        exact decide_eq_false (fun h => absurd h.2 (lt5.mp (i_nlt.mp h3)))
      simp [h1, h2, h3]
theorem wv_nI {st ha : Nat → Int32} {cap : Int32} {c : Nat} (h : c < 5) : wv st ha cap (nI c) = wo (st c) cap (ha c) := by
  have : inB (nI c) 0 4 = true := by
    unfold inB
    exact decide_eq_true ⟨nI_pos' (by omega), by
      have := nI_le (a := c) (b := 4) (by omega) (by decide)
      exact this⟩
  simp [wv, this, ix5 h]
theorem wv_no {st ha : Nat → Int32} {cap : Int32} : wv st ha cap (-1) = 0 := by
  have : inB (-1) 0 4 = false := by decide
  simp [wv, this]
theorem wv_5 {st ha : Nat → Int32} {cap : Int32} : wv st ha cap 5 = 0 := by
  have : inB 5 0 4 = false := by decide
  simp [wv, this]
/-- what a person wears, told as the reference does: 5 is nothing -/
def mc (w : Int32) : Int32 := if w = -1 then 5 else w
theorem q_worth {p c : Nat} {σ : Sg} (hp : p < 5) (hc : c ≤ 5) (ho : σ 114 p = nI c) : m_X7_worth (nI p) σ = some (wv (σ 118) (σ 105) (σ 100 23) (nI c), σ) := by
  unfold m_X7_worth
  simp only [p_gd (in5 hp), ix5 hp, p_lt, ho]
  by_cases h5 : c = 5
  · subst h5
    have : (nI 5 : Int32) = 5 := rfl
    simp [this, wv_5]
  · have hc5 : c < 5 := by omega
    have hne : ¬ nI c = 5 := by
      intro h
      have := (nI_eq (a := c) (b := 5) (by omega) (by decide)).mp h
      omega
    simp only [hne, if_false, p_gd (in5 hc5), ix5 hc5, b_X7_worth_40, wv_nI hc5, wo]
    by_cases h1 : σ 100 23 ≤ σ 118 c <;> by_cases h2 : σ 105 c = 1 <;> simp [h1, h2]
/-! ===== seats ===== -/
/-- x sits ahead of r -/
def ah (v : Nat → Int32) (x r : Nat) : Bool := if r < x then decide (v r < v x) else decide (v r ≤ v x)
def seatN (P : Int32) (v : Nat → Int32) (r : Nat) : Nat := cn5 (fun x => tB P (nI x) && (!decide (x = r) && ah v x r))
theorem seatN_le (P : Int32) (v : Nat → Int32) (r : Nat) : seatN P v r ≤ 5 := cn5_le _
theorem q_seatM {p : Nat} {σ : Sg} {v : Nat → Int32} (hp : p < 5) (hv : ∀ i, i < 5 → m_X7_worth (nI i) σ = some (v i, σ)) : m_X7_seatOf (nI p) σ = some (nI (seatN (σ 100 0) v p), σ) := by
  unfold m_X7_seatOf seatN
  rw [← fo_cn5]
  exact lp2_acc (fun i a => a + (if (tB (σ 100 0) (nI i) && (!decide (i = p) && ah v i p)) = true then 1 else 0)) 5 (fun a => some (a, σ)) (fun H a => by simp only [d_X7_seatOf_4, le5, if_true])
    (fun H i a hi => by
      have e1 : (nI i = nI p) ↔ i = p := nI_eq (by omega) (by omega)
      have e2 : (nI p ≤ nI i) ↔ p ≤ i := nI_leI (by omega) (by omega)
      simp only [d_X7_seatOf_4, ge5 hi, if_false, q_has, p_cI, p_ifz, b_X7_seatOf_60, b_X7_seatOf_61, b_X7_seatOf_74, b_X7_seatOf_56, hv i hi, hv p hp, p_lt, x_s, e1, e2, if_true]
      cases tB (σ 100 0) (nI i)
      · simp
      · by_cases h : i = p
        · simp [h]
        · by_cases h1 : v p < v i
          · have h3 : v p ≤ v i := Int32.le_of_lt h1
            simp [h, h1, h3, ah]
          · by_cases h2 : v i = v p
            · by_cases h4 : p ≤ i
              · have h5 : p < i := by omega
                simp [h, h2, h4, h5, ah]
              · have h5 : ¬ p < i := by omega
                simp [h, h2, h4, h5, ah]
            · have h3 : ¬ v p ≤ v i := by
                intro q
                exact h2 (Int32.le_antisymm (i_nlt.mp h1) q)
              simp [h, h1, h2, h3, ah]) (e_F_lt (by decide)) 0
