/-! ===== the law's loop ===== -/
theorem and63 (x : Int32) : ∃ j, j < 64 ∧ x &&& 63 = nI j := by
  have h : (x &&& 63).toBitVec.toNat < 64 := by
    rw [Int32.toBitVec_and, BitVec.toNat_and]
    have e : (63 : Int32).toBitVec.toNat = 63 := by decide
    rw [e]
    exact Nat.lt_of_le_of_lt Nat.and_le_right (by decide)
  refine ⟨(x &&& 63).toBitVec.toNat, h, ?_⟩
  apply Int32.toBitVec_inj.mp
  rw [nI_bv]
  simp
theorem lt_L {L i : Nat} (hL : L ≤ 256) (hi : i ≤ 300) : (Int32.ofNat L - 4 < nI i) ↔ L < i + 4 := by
  by_cases h : 4 ≤ L
  · have e : Int32.ofNat L - 4 = nI (L - 4) := nI_sub (a := L) (b := 4) h
    rw [e, nI_ltI (by omega) (by omega)]
    omega
  · have : L = 0 ∨ L = 1 ∨ L = 2 ∨ L = 3 := by omega
    have z : ∀ x : Int32, x < 0 → x < nI i := fun x hx => Int32.lt_of_lt_of_le hx (nI_pos' (by omega))
    refine ⟨fun _ => by omega, fun _ => z _ ?_⟩
    rcases this with rfl | rfl | rfl | rfl <;> decide
theorem lg_refl (r : Int64) : lg_cmp r r = 0 := by
  unfold lg_cmp
  have : ¬ r > r := Int64.lt_irrefl
  simp [this]
theorem law_c0 {xs : Nat → Int32} {L i : Nat} {σ : Sg} {K : Sg → Option Unit} {H : Int32 → Sg → Option Unit} (hi : i + 4 ≤ L) (hL : L ≤ 256) (hI : Inv σ) (hH : ∀ s, Inv s → H (nI (i + 4)) s = some ()) {j : Nat} (hj : xs i &&& 63 = nI j) (hr : 0 ≤ j ∧ j ≤ 5) : d_L_law_18 xs L K H (nI i) σ = some () := by
  have gi : k_in (nI i) L = true := x_in (by omega) (by omega)
  have xi : Int32.toNatClampNeg (nI i) = i := x_ix (by omega)
  have e1 : nI i + 1 = nI (i + 1) := nI_ad i 1
  have e2 : nI i + 2 = nI (i + 2) := nI_ad i 2
  have e3 : nI i + 3 = nI (i + 3) := nI_ad i 3
  have e4 : nI i + 4 = nI (i + 4) := nI_ad i 4
  have g1 : k_in (nI (i + 1)) L = true := x_in (by omega) (by omega)
  have g2 : k_in (nI (i + 2)) L = true := x_in (by omega) (by omega)
  have g3 : k_in (nI (i + 3)) L = true := x_in (by omega) (by omega)
  have x1 : Int32.toNatClampNeg (nI (i + 1)) = i + 1 := x_ix (by omega)
  have x2 : Int32.toNatClampNeg (nI (i + 2)) = i + 2 := x_ix (by omega)
  have x3 : Int32.toNatClampNeg (nI (i + 3)) = i + 3 := x_ix (by omega)
  have hlt : ¬ Int32.ofNat L - 4 < nI i := fun h => by have := (lt_L hL (by omega)).mp h; omega
  unfold d_L_law_18
  rw [if_neg hlt, p_gd gi, xi, hj]
  have hc : j = 0 ∨ j = 1 ∨ j = 2 ∨ j = 3 ∨ j = 4 ∨ j = 5 := by omega
  rcases hc with rfl | rfl | rfl | rfl | rfl | rfl
  · obtain ⟨r, s1, s2, h1, h2, h3⟩ := op_person (xs (i + 1)) σ hI
    rw [sw_in (by decide) (by decide)]
    simp only [e1, e2, e3, e4, p_gd g1, p_gd g2, p_gd g3, x1, x2, x3, h1, h2, p_cI, p_cJ, lg_refl, if_true]
    exact hH s2 h3
  · obtain ⟨r, s1, s2, h1, h2, h3⟩ := op_leave (xs (i + 1)) σ hI
    rw [sw_in (by decide) (by decide)]
    simp only [e1, e2, e3, e4, p_gd g1, p_gd g2, p_gd g3, x1, x2, x3, h1, h2, p_cI, p_cJ, lg_refl, if_true]
    exact hH s2 h3
  · obtain ⟨r, s1, s2, h1, h2, h3⟩ := op_coat (xs (i + 1)) (xs (i + 2)) (xs (i + 3)) σ hI
    rw [sw_in (by decide) (by decide)]
    simp only [e1, e2, e3, e4, p_gd g1, p_gd g2, p_gd g3, x1, x2, x3, h1, h2, p_cI, p_cJ, lg_refl, if_true]
    exact hH s2 h3
  · obtain ⟨r, s1, s2, h1, h2, h3⟩ := op_set (xs (i + 1)) (xs (i + 2)) (xs (i + 3)) σ hI
    rw [sw_in (by decide) (by decide)]
    simp only [e1, e2, e3, e4, p_gd g1, p_gd g2, p_gd g3, x1, x2, x3, h1, h2, p_cI, p_cJ, lg_refl, if_true]
    exact hH s2 h3
  · obtain ⟨r, s1, s2, h1, h2, h3⟩ := op_cap (xs (i + 1)) σ hI
    rw [sw_in (by decide) (by decide)]
    simp only [e1, e2, e3, e4, p_gd g1, p_gd g2, p_gd g3, x1, x2, x3, h1, h2, p_cI, p_cJ, lg_refl, if_true]
    exact hH s2 h3
  · obtain ⟨r, s1, s2, h1, h2, h3⟩ := op_give (xs (i + 1)) (xs (i + 2)) (xs (i + 3)) σ hI
    rw [sw_in (by decide) (by decide)]
    simp only [e1, e2, e3, e4, p_gd g1, p_gd g2, p_gd g3, x1, x2, x3, h1, h2, p_cI, p_cJ, lg_refl, if_true]
    exact hH s2 h3
theorem law_c1 {xs : Nat → Int32} {L i : Nat} {σ : Sg} {K : Sg → Option Unit} {H : Int32 → Sg → Option Unit} (hi : i + 4 ≤ L) (hL : L ≤ 256) (hI : Inv σ) (hH : ∀ s, Inv s → H (nI (i + 4)) s = some ()) {j : Nat} (hj : xs i &&& 63 = nI j) (hr : 6 ≤ j ∧ j ≤ 11) : d_L_law_18 xs L K H (nI i) σ = some () := by
  have gi : k_in (nI i) L = true := x_in (by omega) (by omega)
  have xi : Int32.toNatClampNeg (nI i) = i := x_ix (by omega)
  have e1 : nI i + 1 = nI (i + 1) := nI_ad i 1
  have e2 : nI i + 2 = nI (i + 2) := nI_ad i 2
  have e3 : nI i + 3 = nI (i + 3) := nI_ad i 3
  have e4 : nI i + 4 = nI (i + 4) := nI_ad i 4
  have g1 : k_in (nI (i + 1)) L = true := x_in (by omega) (by omega)
  have g2 : k_in (nI (i + 2)) L = true := x_in (by omega) (by omega)
  have g3 : k_in (nI (i + 3)) L = true := x_in (by omega) (by omega)
  have x1 : Int32.toNatClampNeg (nI (i + 1)) = i + 1 := x_ix (by omega)
  have x2 : Int32.toNatClampNeg (nI (i + 2)) = i + 2 := x_ix (by omega)
  have x3 : Int32.toNatClampNeg (nI (i + 3)) = i + 3 := x_ix (by omega)
  have hlt : ¬ Int32.ofNat L - 4 < nI i := fun h => by have := (lt_L hL (by omega)).mp h; omega
  unfold d_L_law_18
  rw [if_neg hlt, p_gd gi, xi, hj]
  have hc : j = 6 ∨ j = 7 ∨ j = 8 ∨ j = 9 ∨ j = 10 ∨ j = 11 := by omega
  rcases hc with rfl | rfl | rfl | rfl | rfl | rfl
  · obtain ⟨r, s1, s2, h1, h2, h3⟩ := op_say (xs (i + 1)) σ hI
    rw [sw_in (by decide) (by decide)]
    simp only [e1, e2, e3, e4, p_gd g1, p_gd g2, p_gd g3, x1, x2, x3, h1, h2, p_cI, p_cJ, lg_refl, if_true]
    exact hH s2 h3
  · obtain ⟨r, s1, s2, h1, h2, h3⟩ := op_wipe σ hI
    rw [sw_in (by decide) (by decide)]
    simp only [e1, e2, e3, e4, p_gd g1, p_gd g2, p_gd g3, x1, x2, x3, h1, h2, p_cI, p_cJ, lg_refl, if_true]
    exact hH s2 h3
  · obtain ⟨r, s1, s2, h1, h2, h3⟩ := op_fault σ hI
    rw [sw_in (by decide) (by decide)]
    simp only [e1, e2, e3, e4, p_gd g1, p_gd g2, p_gd g3, x1, x2, x3, h1, h2, p_cI, p_cJ, lg_refl, if_true]
    exact hH s2 h3
  · obtain ⟨r, s1, s2, h1, h2, h3⟩ := op_judge (xs (i + 1)) σ hI
    rw [sw_in (by decide) (by decide)]
    simp only [e1, e2, e3, e4, p_gd g1, p_gd g2, p_gd g3, x1, x2, x3, h1, h2, p_cI, p_cJ, lg_refl, if_true]
    exact hH s2 h3
  · obtain ⟨r, s1, s2, h1, h2, h3⟩ := op_done σ hI
    rw [sw_in (by decide) (by decide)]
    simp only [e1, e2, e3, e4, p_gd g1, p_gd g2, p_gd g3, x1, x2, x3, h1, h2, p_cI, p_cJ, lg_refl, if_true]
    exact hH s2 h3
  · obtain ⟨r, s1, s2, h1, h2, h3⟩ := op_state (xs (i + 1)) (xs (i + 2)) σ hI
    rw [sw_in (by decide) (by decide)]
    simp only [e1, e2, e3, e4, p_gd g1, p_gd g2, p_gd g3, x1, x2, x3, h1, h2, p_cI, p_cJ, lg_refl, if_true]
    exact hH s2 h3
theorem law_c2 {xs : Nat → Int32} {L i : Nat} {σ : Sg} {K : Sg → Option Unit} {H : Int32 → Sg → Option Unit} (hi : i + 4 ≤ L) (hL : L ≤ 256) (hI : Inv σ) (hH : ∀ s, Inv s → H (nI (i + 4)) s = some ()) {j : Nat} (hj : xs i &&& 63 = nI j) (hr : 12 ≤ j ∧ j ≤ 17) : d_L_law_18 xs L K H (nI i) σ = some () := by
  have gi : k_in (nI i) L = true := x_in (by omega) (by omega)
  have xi : Int32.toNatClampNeg (nI i) = i := x_ix (by omega)
  have e1 : nI i + 1 = nI (i + 1) := nI_ad i 1
  have e2 : nI i + 2 = nI (i + 2) := nI_ad i 2
  have e3 : nI i + 3 = nI (i + 3) := nI_ad i 3
  have e4 : nI i + 4 = nI (i + 4) := nI_ad i 4
  have g1 : k_in (nI (i + 1)) L = true := x_in (by omega) (by omega)
  have g2 : k_in (nI (i + 2)) L = true := x_in (by omega) (by omega)
  have g3 : k_in (nI (i + 3)) L = true := x_in (by omega) (by omega)
  have x1 : Int32.toNatClampNeg (nI (i + 1)) = i + 1 := x_ix (by omega)
  have x2 : Int32.toNatClampNeg (nI (i + 2)) = i + 2 := x_ix (by omega)
  have x3 : Int32.toNatClampNeg (nI (i + 3)) = i + 3 := x_ix (by omega)
  have hlt : ¬ Int32.ofNat L - 4 < nI i := fun h => by have := (lt_L hL (by omega)).mp h; omega
  unfold d_L_law_18
  rw [if_neg hlt, p_gd gi, xi, hj]
  have hc : j = 12 ∨ j = 13 ∨ j = 14 ∨ j = 15 ∨ j = 16 ∨ j = 17 := by omega
  rcases hc with rfl | rfl | rfl | rfl | rfl | rfl
  · obtain ⟨r, s1, s2, h1, h2, h3⟩ := op_behind (xs (i + 1)) (xs (i + 2)) σ hI
    rw [sw_in (by decide) (by decide)]
    simp only [e1, e2, e3, e4, p_gd g1, p_gd g2, p_gd g3, x1, x2, x3, h1, h2, p_cI, p_cJ, lg_refl, if_true]
    exact hH s2 h3
  · obtain ⟨r, s1, s2, h1, h2, h3⟩ := op_at (xs (i + 1)) σ hI
    rw [sw_in (by decide) (by decide)]
    simp only [e1, e2, e3, e4, p_gd g1, p_gd g2, p_gd g3, x1, x2, x3, h1, h2, p_cI, p_cJ, lg_refl, if_true]
    exact hH s2 h3
  · obtain ⟨r, s1, s2, h1, h2, h3⟩ := op_beside (xs (i + 1)) (xs (i + 2)) σ hI
    rw [sw_in (by decide) (by decide)]
    simp only [e1, e2, e3, e4, p_gd g1, p_gd g2, p_gd g3, x1, x2, x3, h1, h2, p_cI, p_cJ, lg_refl, if_true]
    exact hH s2 h3
  · obtain ⟨r, s1, s2, h1, h2, h3⟩ := op_head (xs (i + 1)) (xs (i + 2)) σ hI
    rw [sw_in (by decide) (by decide)]
    simp only [e1, e2, e3, e4, p_gd g1, p_gd g2, p_gd g3, x1, x2, x3, h1, h2, p_cI, p_cJ, lg_refl, if_true]
    exact hH s2 h3
  · obtain ⟨r, s1, s2, h1, h2, h3⟩ := op_ways (xs (i + 1)) (xs (i + 2)) σ hI
    rw [sw_in (by decide) (by decide)]
    simp only [e1, e2, e3, e4, p_gd g1, p_gd g2, p_gd g3, x1, x2, x3, h1, h2, p_cI, p_cJ, lg_refl, if_true]
    exact hH s2 h3
  · obtain ⟨r, s1, s2, h1, h2, h3⟩ := op_seatings σ hI
    rw [sw_in (by decide) (by decide)]
    simp only [e1, e2, e3, e4, p_gd g1, p_gd g2, p_gd g3, x1, x2, x3, h1, h2, p_cI, p_cJ, lg_refl, if_true]
    exact hH s2 h3
theorem law_c3 {xs : Nat → Int32} {L i : Nat} {σ : Sg} {K : Sg → Option Unit} {H : Int32 → Sg → Option Unit} (hi : i + 4 ≤ L) (hL : L ≤ 256) (hI : Inv σ) (hH : ∀ s, Inv s → H (nI (i + 4)) s = some ()) {j : Nat} (hj : xs i &&& 63 = nI j) (hr : 18 ≤ j ∧ j ≤ 23) : d_L_law_18 xs L K H (nI i) σ = some () := by
  have gi : k_in (nI i) L = true := x_in (by omega) (by omega)
  have xi : Int32.toNatClampNeg (nI i) = i := x_ix (by omega)
  have e1 : nI i + 1 = nI (i + 1) := nI_ad i 1
  have e2 : nI i + 2 = nI (i + 2) := nI_ad i 2
  have e3 : nI i + 3 = nI (i + 3) := nI_ad i 3
  have e4 : nI i + 4 = nI (i + 4) := nI_ad i 4
  have g1 : k_in (nI (i + 1)) L = true := x_in (by omega) (by omega)
  have g2 : k_in (nI (i + 2)) L = true := x_in (by omega) (by omega)
  have g3 : k_in (nI (i + 3)) L = true := x_in (by omega) (by omega)
  have x1 : Int32.toNatClampNeg (nI (i + 1)) = i + 1 := x_ix (by omega)
  have x2 : Int32.toNatClampNeg (nI (i + 2)) = i + 2 := x_ix (by omega)
  have x3 : Int32.toNatClampNeg (nI (i + 3)) = i + 3 := x_ix (by omega)
  have hlt : ¬ Int32.ofNat L - 4 < nI i := fun h => by have := (lt_L hL (by omega)).mp h; omega
  unfold d_L_law_18
  rw [if_neg hlt, p_gd gi, xi, hj]
  have hc : j = 18 ∨ j = 19 ∨ j = 20 ∨ j = 21 ∨ j = 22 ∨ j = 23 := by omega
  rcases hc with rfl | rfl | rfl | rfl | rfl | rfl
  · obtain ⟨r, s1, s2, h1, h2, h3⟩ := op_decides (xs (i + 1)) σ hI
    rw [sw_in (by decide) (by decide)]
    simp only [e1, e2, e3, e4, p_gd g1, p_gd g2, p_gd g3, x1, x2, x3, h1, h2, p_cI, p_cJ, lg_refl, if_true]
    exact hH s2 h3
  · obtain ⟨r, s1, s2, h1, h2, h3⟩ := op_sewn (xs (i + 1)) (xs (i + 2)) σ hI
    rw [sw_in (by decide) (by decide)]
    simp only [e1, e2, e3, e4, p_gd g1, p_gd g2, p_gd g3, x1, x2, x3, h1, h2, p_cI, p_cJ, lg_refl, if_true]
    exact hH s2 h3
  · obtain ⟨r, s1, s2, h1, h2, h3⟩ := op_hired (xs (i + 1)) (xs (i + 2)) (xs (i + 3)) σ hI
    rw [sw_in (by decide) (by decide)]
    simp only [e1, e2, e3, e4, p_gd g1, p_gd g2, p_gd g3, x1, x2, x3, h1, h2, p_cI, p_cJ, lg_refl, if_true]
    exact hH s2 h3
  · obtain ⟨r, s1, s2, h1, h2, h3⟩ := op_rises (xs (i + 1)) σ hI
    rw [sw_in (by decide) (by decide)]
    simp only [e1, e2, e3, e4, p_gd g1, p_gd g2, p_gd g3, x1, x2, x3, h1, h2, p_cI, p_cJ, lg_refl, if_true]
    exact hH s2 h3
  · obtain ⟨r, s1, s2, h1, h2, h3⟩ := op_league (xs (i + 1)) σ hI
    rw [sw_in (by decide) (by decide)]
    simp only [e1, e2, e3, e4, p_gd g1, p_gd g2, p_gd g3, x1, x2, x3, h1, h2, p_cI, p_cJ, lg_refl, if_true]
    exact hH s2 h3
  · obtain ⟨r, s1, s2, h1, h2, h3⟩ := op_share (xs (i + 1)) (xs (i + 2)) σ hI
    rw [sw_in (by decide) (by decide)]
    simp only [e1, e2, e3, e4, p_gd g1, p_gd g2, p_gd g3, x1, x2, x3, h1, h2, p_cI, p_cJ, lg_refl, if_true]
    exact hH s2 h3
theorem law_c4 {xs : Nat → Int32} {L i : Nat} {σ : Sg} {K : Sg → Option Unit} {H : Int32 → Sg → Option Unit} (hi : i + 4 ≤ L) (hL : L ≤ 256) (hI : Inv σ) (hH : ∀ s, Inv s → H (nI (i + 4)) s = some ()) {j : Nat} (hj : xs i &&& 63 = nI j) (hr : 24 ≤ j ∧ j ≤ 29) : d_L_law_18 xs L K H (nI i) σ = some () := by
  have gi : k_in (nI i) L = true := x_in (by omega) (by omega)
  have xi : Int32.toNatClampNeg (nI i) = i := x_ix (by omega)
  have e1 : nI i + 1 = nI (i + 1) := nI_ad i 1
  have e2 : nI i + 2 = nI (i + 2) := nI_ad i 2
  have e3 : nI i + 3 = nI (i + 3) := nI_ad i 3
  have e4 : nI i + 4 = nI (i + 4) := nI_ad i 4
  have g1 : k_in (nI (i + 1)) L = true := x_in (by omega) (by omega)
  have g2 : k_in (nI (i + 2)) L = true := x_in (by omega) (by omega)
  have g3 : k_in (nI (i + 3)) L = true := x_in (by omega) (by omega)
  have x1 : Int32.toNatClampNeg (nI (i + 1)) = i + 1 := x_ix (by omega)
  have x2 : Int32.toNatClampNeg (nI (i + 2)) = i + 2 := x_ix (by omega)
  have x3 : Int32.toNatClampNeg (nI (i + 3)) = i + 3 := x_ix (by omega)
  have hlt : ¬ Int32.ofNat L - 4 < nI i := fun h => by have := (lt_L hL (by omega)).mp h; omega
  unfold d_L_law_18
  rw [if_neg hlt, p_gd gi, xi, hj]
  have hc : j = 24 ∨ j = 25 ∨ j = 26 ∨ j = 27 ∨ j = 28 ∨ j = 29 := by omega
  rcases hc with rfl | rfl | rfl | rfl | rfl | rfl
  · obtain ⟨r, s1, s2, h1, h2, h3⟩ := op_leaves (xs (i + 1)) σ hI
    rw [sw_in (by decide) (by decide)]
    simp only [e1, e2, e3, e4, p_gd g1, p_gd g2, p_gd g3, x1, x2, x3, h1, h2, p_cI, p_cJ, lg_refl, if_true]
    exact hH s2 h3
  · obtain ⟨r, s1, s2, h1, h2, h3⟩ := op_elected (xs (i + 1)) σ hI
    rw [sw_in (by decide) (by decide)]
    simp only [e1, e2, e3, e4, p_gd g1, p_gd g2, p_gd g3, x1, x2, x3, h1, h2, p_cI, p_cJ, lg_refl, if_true]
    exact hH s2 h3
  · obtain ⟨r, s1, s2, h1, h2, h3⟩ := op_moths (xs (i + 1)) (xs (i + 2)) (xs (i + 3)) σ hI
    rw [sw_in (by decide) (by decide)]
    simp only [e1, e2, e3, e4, p_gd g1, p_gd g2, p_gd g3, x1, x2, x3, h1, h2, p_cI, p_cJ, lg_refl, if_true]
    exact hH s2 h3
  · obtain ⟨r, s1, s2, h1, h2, h3⟩ := op_seen (xs (i + 1)) (xs (i + 2)) σ hI
    rw [sw_in (by decide) (by decide)]
    simp only [e1, e2, e3, e4, p_gd g1, p_gd g2, p_gd g3, x1, x2, x3, h1, h2, p_cI, p_cJ, lg_refl, if_true]
    exact hH s2 h3
  · obtain ⟨r, s1, s2, h1, h2, h3⟩ := op_forget σ hI
    rw [sw_in (by decide) (by decide)]
    simp only [e1, e2, e3, e4, p_gd g1, p_gd g2, p_gd g3, x1, x2, x3, h1, h2, p_cI, p_cJ, lg_refl, if_true]
    exact hH s2 h3
  · obtain ⟨r, s1, s2, h1, h2, h3⟩ := op_fit (xs (i + 1)) σ hI
    rw [sw_in (by decide) (by decide)]
    simp only [e1, e2, e3, e4, p_gd g1, p_gd g2, p_gd g3, x1, x2, x3, h1, h2, p_cI, p_cJ, lg_refl, if_true]
    exact hH s2 h3
theorem law_c5 {xs : Nat → Int32} {L i : Nat} {σ : Sg} {K : Sg → Option Unit} {H : Int32 → Sg → Option Unit} (hi : i + 4 ≤ L) (hL : L ≤ 256) (hI : Inv σ) (hH : ∀ s, Inv s → H (nI (i + 4)) s = some ()) {j : Nat} (hj : xs i &&& 63 = nI j) (hr : 30 ≤ j ∧ j ≤ 33) : d_L_law_18 xs L K H (nI i) σ = some () := by
  have gi : k_in (nI i) L = true := x_in (by omega) (by omega)
  have xi : Int32.toNatClampNeg (nI i) = i := x_ix (by omega)
  have e1 : nI i + 1 = nI (i + 1) := nI_ad i 1
  have e2 : nI i + 2 = nI (i + 2) := nI_ad i 2
  have e3 : nI i + 3 = nI (i + 3) := nI_ad i 3
  have e4 : nI i + 4 = nI (i + 4) := nI_ad i 4
  have g1 : k_in (nI (i + 1)) L = true := x_in (by omega) (by omega)
  have g2 : k_in (nI (i + 2)) L = true := x_in (by omega) (by omega)
  have g3 : k_in (nI (i + 3)) L = true := x_in (by omega) (by omega)
  have x1 : Int32.toNatClampNeg (nI (i + 1)) = i + 1 := x_ix (by omega)
  have x2 : Int32.toNatClampNeg (nI (i + 2)) = i + 2 := x_ix (by omega)
  have x3 : Int32.toNatClampNeg (nI (i + 3)) = i + 3 := x_ix (by omega)
  have hlt : ¬ Int32.ofNat L - 4 < nI i := fun h => by have := (lt_L hL (by omega)).mp h; omega
  unfold d_L_law_18
  rw [if_neg hlt, p_gd gi, xi, hj]
  have hc : j = 30 ∨ j = 31 ∨ j = 32 ∨ j = 33 := by omega
  rcases hc with rfl | rfl | rfl | rfl
  · obtain ⟨r, s1, s2, h1, h2, h3⟩ := op_year (xs (i + 1)) (xs (i + 2)) (xs (i + 3)) σ hI
    rw [sw_in (by decide) (by decide)]
    simp only [e1, e2, e3, e4, p_gd g1, p_gd g2, p_gd g3, x1, x2, x3, h1, h2, p_cI, p_cJ, lg_refl, if_true]
    exact hH s2 h3
  · obtain ⟨r, s1, s2, h1, h2, h3⟩ := op_image (xs (i + 1)) σ hI
    rw [sw_in (by decide) (by decide)]
    simp only [e1, e2, e3, e4, p_gd g1, p_gd g2, p_gd g3, x1, x2, x3, h1, h2, p_cI, p_cJ, lg_refl, if_true]
    exact hH s2 h3
  · obtain ⟨r, s1, s2, h1, h2, h3⟩ := op_restore (xs (i + 1)) σ hI
    rw [sw_in (by decide) (by decide)]
    simp only [e1, e2, e3, e4, p_gd g1, p_gd g2, p_gd g3, x1, x2, x3, h1, h2, p_cI, p_cJ, lg_refl, if_true]
    exact hH s2 h3
  · obtain ⟨r, s1, s2, h1, h2, h3⟩ := op_told (xs (i + 1)) σ hI
    rw [sw_in (by decide) (by decide)]
    simp only [e1, e2, e3, e4, p_gd g1, p_gd g2, p_gd g3, x1, x2, x3, h1, h2, p_cI, p_cJ, lg_refl, if_true]
    exact hH s2 h3
theorem law_step {xs : Nat → Int32} {L i : Nat} {σ : Sg} {K : Sg → Option Unit} {H : Int32 → Sg → Option Unit} (hi : i + 4 ≤ L) (hL : L ≤ 256) (hI : Inv σ) (hH : ∀ s, Inv s → H (nI (i + 4)) s = some ()) {j : Nat} (hj : xs i &&& 63 = nI j) (hj64 : j < 64) : d_L_law_18 xs L K H (nI i) σ = some () := by
  by_cases h34 : j < 34
  · by_cases q0 : j ≤ 5
    · exact law_c0 hi hL hI hH hj ⟨by omega, q0⟩
    · by_cases q1 : j ≤ 11
      · exact law_c1 hi hL hI hH hj ⟨by omega, q1⟩
      · by_cases q2 : j ≤ 17
        · exact law_c2 hi hL hI hH hj ⟨by omega, q2⟩
        · by_cases q3 : j ≤ 23
          · exact law_c3 hi hL hI hH hj ⟨by omega, q3⟩
          · by_cases q4 : j ≤ 29
            · exact law_c4 hi hL hI hH hj ⟨by omega, q4⟩
            · exact law_c5 hi hL hI hH hj ⟨by omega, by omega⟩
  · have e4 : nI i + 4 = nI (i + 4) := nI_ad i 4
    have gi : k_in (nI i) L = true := x_in (by omega) (by omega)
    have xi : Int32.toNatClampNeg (nI i) = i := x_ix (by omega)
    have hlt : ¬ Int32.ofNat L - 4 < nI i := fun h => by have := (lt_L hL (by omega)).mp h; omega
    unfold d_L_law_18
    rw [if_neg hlt, p_gd gi, xi, hj, sw_out (by omega) (by omega), e4]
    exact hH σ hI
theorem law_lp {xs : Nat → Int32} {L : Nat} (hL : L ≤ 256) : ∀ (f m i : Nat) (σ : Sg), L < i + 4 + 4 * f → i ≤ 300 → f < m → Inv σ → e_lp1 (d_L_law_18 xs L (fun _ => some ())) m (nI i) σ = some ()
  | 0, m, i, σ, h1, h2, h3, hI => by
    obtain ⟨m, rfl⟩ : ∃ m1, m = m1 + 1 := ⟨m - 1, by omega⟩
    rw [lp1_s]
    unfold d_L_law_18
    rw [if_pos ((lt_L hL h2).mpr (by omega))]
  | f + 1, m, i, σ, h1, h2, h3, hI => by
    obtain ⟨m, rfl⟩ : ∃ m1, m = m1 + 1 := ⟨m - 1, by omega⟩
    rw [lp1_s]
    by_cases hl : L < i + 4
    · unfold d_L_law_18
      rw [if_pos ((lt_L hL h2).mpr hl)]
    · obtain ⟨j, hj, ej⟩ := and63 (xs i)
      exact law_step (by omega) hL hI (fun s hs => law_lp hL f m (i + 4) s (by omega) (by omega) (by omega) hs) ej hj
theorem inv_0 : Inv s_0 := by
  have h2 : ∀ p, p < 5 → s_0 2 p = -1 := by decide
  have r5 : ∀ r, r < 5 → r = 0 ∨ r = 1 ∨ r = 2 ∨ r = 3 ∨ r = 4 := fun r hr => by omega
  refine ⟨⟨⟨0, by decide, rfl⟩, ⟨0, by decide, rfl⟩, ⟨0, by decide, rfl⟩, fun p hp => Or.inl (h2 p hp), fun c hc => ⟨0, by decide, rfl, fun h => ?_⟩, fun c hc => ⟨0, by decide, rfl⟩, fun c hc => ⟨0, by decide, rfl⟩, fun c hc => ⟨0, by decide, rfl⟩, fun c hc => Or.inl rfl, fun c hc => ?_, fun r hr => ⟨0, by decide, rfl⟩⟩, ⟨rfl, rfl, rfl, rfl, fun r hr => ?_, fun r hr => ⟨rfl, rfl⟩⟩, ⟨⟨0, by decide, rfl, rfl⟩, fun i hi => rfl⟩, fun n hn => ⟨rfl, Or.inl rfl⟩⟩
  · have e : s_0 1 1 = 0 := rfl
    have z : ∀ c, c < 5 → tB 0 (nI c) = false := by decide
    rw [e, z c hc] at h
    cases h
  · have e : cn5 (fun i => decide (s_0 (1 + 1) i = nI c)) = 0 := by
      have z : ∀ q, q < 5 → bN (decide (s_0 (1 + 1) q = nI c)) = 0 := fun q hq => by
        rw [show s_0 (1 + 1) q = s_0 2 q from rfl, h2 q hq, decide_eq_false (m1_c hc)]; rfl
      unfold cn5
      rw [z 0 (by decide), z 1 (by decide), z 2 (by decide), z 3 (by decide), z 4 (by decide)]
    rw [e]
    omega
  · have h106 : ∀ r, r < 5 → s_0 106 r = 5 := by decide
    exact ⟨by rw [h106 r hr, h2 r hr]; decide, rfl, rfl, rfl, rfl, rfl, rfl, rfl, rfl, rfl, rfl⟩
theorem law_pure (xs : Nat → Int32) {L : Nat} (hL : L ≤ 256) : m_L_law xs L s_0 = some () := by
  unfold m_L_law
  exact law_lp hL 100 e_F 0 s_0 (by omega) (by omega) (e_F_lt (by omega)) inv_0
