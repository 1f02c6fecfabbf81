theorem bec_0 {σ s : Sg} {a b : Nat} (h : bec σ a b s) {r : Nat} (hr : r < 4) : s a r = σ b r := by
  have := h.2 0 r (by omega) (by simp [rng, hr])
  simpa using this
theorem bec_j {σ s : Sg} {a b j r : Nat} (h : bec σ a b s) (h1 : 1 ≤ j) (h2 : j ≤ 11) (hr : r < 5) : s (a + j) r = σ (b + j) r := h.2 j r (by omega) (by simp [rng, h1, h2, hr])
theorem bec_s {σ s : Sg} {a b j r : Nat} (h : bec σ a b s) (h1 : 12 ≤ j) (h2 : j ≤ 13) (hr : r < 6) : s (a + j) r = σ (b + j) r := h.2 j r (by omega) (by simp [rng, h1, h2, hr])
theorem Wf.bec {σ s : Sg} {a b : Nat} (h : bec σ a b s) (w : Wf σ b) : Wf s a := by
  obtain ⟨v1, v2, v3, v4, v5, v6, v7, v8, v9, v10, v11⟩ := w
  unfold Wf
  rw [bec_0 h (show 0 < 4 by decide), bec_0 h (show 1 < 4 by decide), bec_0 h (show 3 < 4 by decide)]
  refine ⟨v1, v2, v3, fun p hp => ?_, fun c hc => ?_, fun c hc => ?_, fun c hc => ?_, fun c hc => ?_, fun c hc => ?_, fun c hc => ?_, fun r hr => ?_⟩
  · rw [bec_j h (by decide) (by decide) hp]; exact v4 p hp
  · rw [bec_j h (by decide) (by decide) hc]; exact v5 c hc
  · rw [bec_j h (by decide) (by decide) hc]; exact v6 c hc
  · rw [bec_j h (by decide) (by decide) hc]; exact v7 c hc
  · rw [bec_j h (by decide) (by decide) hc]; exact v8 c hc
  · rw [bec_j h (by decide) (by decide) hc]; exact v9 c hc
  · rw [bec_j h (show 1 ≤ 11 by decide) (by decide) hc, cn5_cong (b := fun i => decide (σ (b + 1) i = nI c)) (fun i hi => by rw [bec_j h (by decide) (by decide) hi])]; exact v10 c hc
  · rw [bec_s h (by decide) (by decide) hr]; exact v11 r hr
theorem ge12 {i : Nat} (h : i < 12) : ¬ (12 : Int32) ≤ nI i := x_ge (n := 12) h (by decide)
theorem le12 : (12 : Int32) ≤ nI 12 := by decide
theorem a200 (n j i : Nat) : (nI n + nI j) + nI i = nI (n + j + i) := by rw [nI_add, nI_add]
theorem in200 {i : Nat} (h : i < 200) : k_in (nI i) 200 = true := x_in h (by decide)
theorem ix200 {i : Nat} (h : i < 200) : Int32.toNatClampNeg (nI i) = i := x_ix (by omega)
theorem l5 : (5 : Int32) = nI 5 := rfl
theorem l10 : (10 : Int32) = nI 10 := rfl
theorem l15 : (15 : Int32) = nI 15 := rfl
theorem l20 : (20 : Int32) = nI 20 := rfl
theorem l25 : (25 : Int32) = nI 25 := rfl
theorem l30 : (30 : Int32) = nI 30 := rfl
theorem l35 : (35 : Int32) = nI 35 := rfl
theorem l40 : (40 : Int32) = nI 40 := rfl
theorem l45 : (45 : Int32) = nI 45 := rfl
theorem l50 : (50 : Int32) = nI 50 := rfl
theorem l55 : (55 : Int32) = nI 55 := rfl
theorem l70 : (70 : Int32) = nI 70 := rfl
theorem l71 : (71 : Int32) = nI 71 := rfl
theorem l72 : (72 : Int32) = nI 72 := rfl
theorem l73 : (73 : Int32) = nI 73 := rfl
/-- a row of the image's, told by five places -/
def imR (σ s : Sg) (t i : Nat) : Prop := ∀ r, r < i → s 121 (t + r) = σ 101 r ∧ s 121 (t + 5 + r) = σ 102 r ∧ s 121 (t + 10 + r) = σ 103 r ∧ s 121 (t + 15 + r) = σ 104 r ∧ s 121 (t + 20 + r) = σ 105 r ∧ s 121 (t + 25 + r) = σ 106 r ∧ s 121 (t + 30 + r) = σ 107 r ∧ s 121 (t + 35 + r) = σ 108 r ∧ s 121 (t + 40 + r) = σ 109 r ∧ s 121 (t + 45 + r) = σ 110 r ∧ s 121 (t + 50 + r) = σ 111 r
theorem q_imageM {n : Nat} {σ : Sg} (hn : n < 2) : ∃ s, m_X7_image (nI n) σ = some (1, s) ∧ (∀ c, c ≠ 121 → c ≠ 122 → s c = σ c) ∧ (∀ y, y < 100 * n ∨ 100 * n + 100 ≤ y → s 121 y = σ 121 y) ∧ imR σ s (100 * n) 5 ∧ (∀ r, r < 12 → s 121 (100 * n + 55 + r) = σ 112 r) ∧ s 121 (100 * n + 70) = σ 100 0 ∧ s 121 (100 * n + 71) = σ 100 1 ∧ s 121 (100 * n + 72) = σ 100 7 ∧ s 121 (100 * n + 73) = σ 100 14 ∧ s 122 = upd (σ 122) n 1 := by
  unfold m_X7_image
  have hin : inB (nI n) 0 1 = true := by
    have : n = 0 ∨ n = 1 := by omega
    rcases this with rfl | rfl <;> decide
  have h100 : (100 : Int32) * nI n = nI (100 * n) := pk_mul 100 n
  have hi2 : k_in (nI n) 2 = true := x_in hn (by decide)
  have hx2 : Int32.toNatClampNeg (nI n) = n := x_ix (by omega)
  simp only [q_in, p_cI, p_ifz, hin, if_true, p_lt, h100]
  refine lp2_z (fun o => ∃ s : Sg, o = some (1, s) ∧ (∀ c, c ≠ 121 → c ≠ 122 → s c = σ c) ∧ (∀ y, y < 100 * n ∨ 100 * n + 100 ≤ y → s 121 y = σ 121 y) ∧ imR σ s (100 * n) 5 ∧ (∀ r, r < 12 → s 121 (100 * n + 55 + r) = σ 112 r) ∧ s 121 (100 * n + 70) = σ 100 0 ∧ s 121 (100 * n + 71) = σ 100 1 ∧ s 121 (100 * n + 72) = σ 100 7 ∧ s 121 (100 * n + 73) = σ 100 14 ∧ s 122 = upd (σ 122) n 1)
    (fun i a s => a = nI (100 * n) ∧ (∀ c, c ≠ 121 → s c = σ c) ∧ (∀ y, y < 100 * n ∨ 100 * n + 100 ≤ y → s 121 y = σ 121 y) ∧ imR σ s (100 * n) i) 5 ?_ ?_ (e_F_lt (by omega)) ⟨rfl, fun _ _ => rfl, fun _ _ => rfl, fun r hr => by omega⟩
  · rintro H a s ⟨rfl, g1, g2, g3⟩
    simp only [d_X7_image_19, le5, if_true]
    refine lp2_z (fun o => ∃ s : Sg, o = some (1, s) ∧ (∀ c, c ≠ 121 → c ≠ 122 → s c = σ c) ∧ (∀ y, y < 100 * n ∨ 100 * n + 100 ≤ y → s 121 y = σ 121 y) ∧ imR σ s (100 * n) 5 ∧ (∀ r, r < 12 → s 121 (100 * n + 55 + r) = σ 112 r) ∧ s 121 (100 * n + 70) = σ 100 0 ∧ s 121 (100 * n + 71) = σ 100 1 ∧ s 121 (100 * n + 72) = σ 100 7 ∧ s 121 (100 * n + 73) = σ 100 14 ∧ s 122 = upd (σ 122) n 1)
      (fun i a s => a = nI (100 * n) ∧ (∀ c, c ≠ 121 → s c = σ c) ∧ (∀ y, y < 100 * n ∨ 100 * n + 100 ≤ y → s 121 y = σ 121 y) ∧ imR σ s (100 * n) 5 ∧ ∀ r, r < i → s 121 (100 * n + 55 + r) = σ 112 r) 12 ?_ ?_ (e_F_lt (by omega)) ⟨rfl, g1, g2, g3, fun r hr => by omega⟩
    · rintro H a s ⟨rfl, g1, g2, g3, g4⟩
      have e70 : nI (100 * n) + 70 = nI (100 * n + 70) := nI_add _ _
      have e71 : nI (100 * n) + 71 = nI (100 * n + 71) := nI_add _ _
      have e72 : nI (100 * n) + 72 = nI (100 * n + 72) := nI_add _ _
      have e73 : nI (100 * n) + 73 = nI (100 * n + 73) := nI_add _ _
      simp only [d_X7_image_215, le12, if_true, e70, e71, e72, e73, p_wr (in200 (show 100 * n + 70 < 200 by omega)), p_wr (in200 (show 100 * n + 71 < 200 by omega)), p_wr (in200 (show 100 * n + 72 < 200 by omega)), p_wr (in200 (show 100 * n + 73 < 200 by omega)), ix200 (show 100 * n + 70 < 200 by omega), ix200 (show 100 * n + 71 < 200 by omega), ix200 (show 100 * n + 72 < 200 by omega), ix200 (show 100 * n + 73 < 200 by omega), p_wr hi2, hx2]
      refine ⟨_, rfl, ?_⟩
      simp only [up_rw]
      simp only [rw1_eq, rw1_ne (show (100 : Nat) ≠ 121 by decide), rw1_ne (show (122 : Nat) ≠ 121 by decide), rw1_ne (show (121 : Nat) ≠ 122 by decide), g1 100 (by decide), g1 122 (by decide)]
      refine ⟨fun c h1 h2 => by simp [rw1, h1, h2, g1 c h1], fun y hy => ?_, fun r hr => ?_, fun r hr => ?_, ?_, ?_, ?_, ?_, trivial⟩
      · simp (disch := omega) only [upd_n]; exact g2 y hy
      · simp (disch := omega) only [rw1_eq, rw1_ne, upd_n]; exact g3 r hr
      · simp (disch := omega) only [upd_n]; exact g4 r hr
      · simp (disch := omega) only [upd_n, upd_s]
      · simp (disch := omega) only [upd_n, upd_s]
      · simp (disch := omega) only [upd_n, upd_s]
      · simp (disch := omega) only [upd_n, upd_s]
    · rintro H i a s hi ⟨rfl, g1, g2, g3, g4⟩ kk
      have e1 : (nI (100 * n) + 55) + nI i = nI (100 * n + 55 + i) := a200 _ 55 _
      simp only [d_X7_image_215, ge12 hi, if_false, p_gd (x_in hi (show 12 < 2 ^ 31 by decide)), e1, p_wr (in200 (show 100 * n + 55 + i < 200 by omega)), ix200 (show 100 * n + 55 + i < 200 by omega), x_ix (show i < 2 ^ 31 by omega), x_s, up_rw]
      refine kk _ _ ⟨rfl, fun c hc => by rw [rw1_ne hc]; exact g1 c hc, fun y hy => ?_, fun r hr => ?_, fun r hr => ?_⟩
      · rw [rw1_eq, upd_n (by omega)]; exact g2 y hy
      · simp (disch := omega) only [rw1_eq, upd_n]; exact g3 r hr
      · rw [rw1_eq]
        by_cases e : r = i
        · subst e; rw [upd_s, g1 112 (by decide)]
        · rw [upd_n (by omega)]; exact g4 r (by omega)
  · rintro H i a s hi ⟨rfl, g1, g2, g3⟩ kk
    have e0 : nI (100 * n) + nI i = nI (100 * n + i) := nI_add _ _
    simp only [d_X7_image_19, ge5 hi, x_ge (n := 5) hi (by decide), if_false, p_gd (in5 hi), ix5 hi, l5, l10, l15, l20, l25, l30, l35, l40, l45, l50, a200, e0, x_s, p_wr (in200 (show 100 * n + i < 200 by omega)), ix200 (show 100 * n + i < 200 by omega), p_wr (in200 (show 100 * n + 5 + i < 200 by omega)), ix200 (show 100 * n + 5 + i < 200 by omega), p_wr (in200 (show 100 * n + 10 + i < 200 by omega)), ix200 (show 100 * n + 10 + i < 200 by omega), p_wr (in200 (show 100 * n + 15 + i < 200 by omega)), ix200 (show 100 * n + 15 + i < 200 by omega), p_wr (in200 (show 100 * n + 20 + i < 200 by omega)), ix200 (show 100 * n + 20 + i < 200 by omega), p_wr (in200 (show 100 * n + 25 + i < 200 by omega)), ix200 (show 100 * n + 25 + i < 200 by omega), p_wr (in200 (show 100 * n + 30 + i < 200 by omega)), ix200 (show 100 * n + 30 + i < 200 by omega), p_wr (in200 (show 100 * n + 35 + i < 200 by omega)), ix200 (show 100 * n + 35 + i < 200 by omega), p_wr (in200 (show 100 * n + 40 + i < 200 by omega)), ix200 (show 100 * n + 40 + i < 200 by omega), p_wr (in200 (show 100 * n + 45 + i < 200 by omega)), ix200 (show 100 * n + 45 + i < 200 by omega), p_wr (in200 (show 100 * n + 50 + i < 200 by omega)), ix200 (show 100 * n + 50 + i < 200 by omega)]
    simp only [up_rw, rw1_eq, rw1_rw1, rw1_ne (show (101 : Nat) ≠ 121 by decide), rw1_ne (show (102 : Nat) ≠ 121 by decide), rw1_ne (show (103 : Nat) ≠ 121 by decide), rw1_ne (show (104 : Nat) ≠ 121 by decide), rw1_ne (show (105 : Nat) ≠ 121 by decide), rw1_ne (show (106 : Nat) ≠ 121 by decide), rw1_ne (show (107 : Nat) ≠ 121 by decide), rw1_ne (show (108 : Nat) ≠ 121 by decide), rw1_ne (show (109 : Nat) ≠ 121 by decide), rw1_ne (show (110 : Nat) ≠ 121 by decide), rw1_ne (show (111 : Nat) ≠ 121 by decide)]
    refine kk _ _ ⟨rfl, fun c hc => by rw [rw1_ne hc]; exact g1 c hc, fun y hy => ?_, fun r hr => ?_⟩
    · rw [rw1_eq]
      simp (disch := omega) only [upd_n]; exact g2 y hy
    · simp only [rw1_eq]
      by_cases e : r = i
      · subst e
        simp (disch := omega) only [upd_n, upd_s]
        simp only [g1 101 (by decide), g1 102 (by decide), g1 103 (by decide), g1 104 (by decide), g1 105 (by decide), g1 106 (by decide), g1 107 (by decide), g1 108 (by decide), g1 109 (by decide), g1 110 (by decide), g1 111 (by decide), and_self]
      · simp (disch := omega) only [upd_n]; exact g3 r (by omega)
theorem q_restoreM {n : Nat} {σ : Sg} (hn : n < 2) (hk : σ 122 n = 1) : ∃ s, m_X7_restore (nI n) σ = some (1, s) ∧ (∀ c, c < 100 ∨ 113 ≤ c → s c = σ c) ∧ (∀ r, r < 5 → s 101 r = σ 121 (100 * n + r) ∧ s 102 r = σ 121 (100 * n + 5 + r) ∧ s 103 r = σ 121 (100 * n + 10 + r) ∧ s 104 r = σ 121 (100 * n + 15 + r) ∧ s 105 r = σ 121 (100 * n + 20 + r) ∧ s 106 r = σ 121 (100 * n + 25 + r) ∧ s 107 r = σ 121 (100 * n + 30 + r) ∧ s 108 r = σ 121 (100 * n + 35 + r) ∧ s 109 r = σ 121 (100 * n + 40 + r) ∧ s 110 r = σ 121 (100 * n + 45 + r) ∧ s 111 r = σ 121 (100 * n + 50 + r)) ∧ (∀ r, r < 12 → s 112 r = σ 121 (100 * n + 55 + r)) ∧ s 100 0 = σ 121 (100 * n + 70) ∧ s 100 1 = σ 121 (100 * n + 71) ∧ s 100 7 = σ 121 (100 * n + 72) ∧ s 100 14 = σ 121 (100 * n + 73) ∧ s 100 16 = σ 100 16 := by
  unfold m_X7_restore
  have hin : inB (nI n) 0 1 = true := by
    have : n = 0 ∨ n = 1 := by omega
    rcases this with rfl | rfl <;> decide
  have h100 : (100 : Int32) * nI n = nI (100 * n) := pk_mul 100 n
  have hi2 : k_in (nI n) 2 = true := x_in hn (by decide)
  have hx2 : Int32.toNatClampNeg (nI n) = n := x_ix (by omega)
  have h10 : ¬ (1 : Int32) = 0 := by decide
  simp only [q_in, p_cI, p_ifz, hin, if_true, p_gd hi2, hx2, hk, h10, if_false, p_lt, h100]
  refine lp2_z (fun o => ∃ s : Sg, o = some (1, s) ∧ (∀ c, c < 100 ∨ 113 ≤ c → s c = σ c) ∧ (∀ r, r < 5 → s 101 r = σ 121 (100 * n + r) ∧ s 102 r = σ 121 (100 * n + 5 + r) ∧ s 103 r = σ 121 (100 * n + 10 + r) ∧ s 104 r = σ 121 (100 * n + 15 + r) ∧ s 105 r = σ 121 (100 * n + 20 + r) ∧ s 106 r = σ 121 (100 * n + 25 + r) ∧ s 107 r = σ 121 (100 * n + 30 + r) ∧ s 108 r = σ 121 (100 * n + 35 + r) ∧ s 109 r = σ 121 (100 * n + 40 + r) ∧ s 110 r = σ 121 (100 * n + 45 + r) ∧ s 111 r = σ 121 (100 * n + 50 + r)) ∧ (∀ r, r < 12 → s 112 r = σ 121 (100 * n + 55 + r)) ∧ s 100 0 = σ 121 (100 * n + 70) ∧ s 100 1 = σ 121 (100 * n + 71) ∧ s 100 7 = σ 121 (100 * n + 72) ∧ s 100 14 = σ 121 (100 * n + 73) ∧ s 100 16 = σ 100 16)
    (fun i a s => a = nI (100 * n) ∧ (∀ c, c ≤ 100 ∨ 112 ≤ c → s c = σ c) ∧ (∀ r, r < i → s 101 r = σ 121 (100 * n + r) ∧ s 102 r = σ 121 (100 * n + 5 + r) ∧ s 103 r = σ 121 (100 * n + 10 + r) ∧ s 104 r = σ 121 (100 * n + 15 + r) ∧ s 105 r = σ 121 (100 * n + 20 + r) ∧ s 106 r = σ 121 (100 * n + 25 + r) ∧ s 107 r = σ 121 (100 * n + 30 + r) ∧ s 108 r = σ 121 (100 * n + 35 + r) ∧ s 109 r = σ 121 (100 * n + 40 + r) ∧ s 110 r = σ 121 (100 * n + 45 + r) ∧ s 111 r = σ 121 (100 * n + 50 + r))) 5 ?_ ?_ (e_F_lt (by omega)) ⟨rfl, fun _ _ => rfl, fun r hr => by omega⟩
  · rintro H a s ⟨rfl, g1, g3⟩
    simp only [d_X7_restore_31, le5, if_true]
    refine lp2_z (fun o => ∃ s : Sg, o = some (1, s) ∧ (∀ c, c < 100 ∨ 113 ≤ c → s c = σ c) ∧ (∀ r, r < 5 → s 101 r = σ 121 (100 * n + r) ∧ s 102 r = σ 121 (100 * n + 5 + r) ∧ s 103 r = σ 121 (100 * n + 10 + r) ∧ s 104 r = σ 121 (100 * n + 15 + r) ∧ s 105 r = σ 121 (100 * n + 20 + r) ∧ s 106 r = σ 121 (100 * n + 25 + r) ∧ s 107 r = σ 121 (100 * n + 30 + r) ∧ s 108 r = σ 121 (100 * n + 35 + r) ∧ s 109 r = σ 121 (100 * n + 40 + r) ∧ s 110 r = σ 121 (100 * n + 45 + r) ∧ s 111 r = σ 121 (100 * n + 50 + r)) ∧ (∀ r, r < 12 → s 112 r = σ 121 (100 * n + 55 + r)) ∧ s 100 0 = σ 121 (100 * n + 70) ∧ s 100 1 = σ 121 (100 * n + 71) ∧ s 100 7 = σ 121 (100 * n + 72) ∧ s 100 14 = σ 121 (100 * n + 73) ∧ s 100 16 = σ 100 16)
      (fun i a t => a = nI (100 * n) ∧ (∀ c, c ≠ 112 → t c = s c) ∧ ∀ r, r < i → t 112 r = σ 121 (100 * n + 55 + r)) 12 ?_ ?_ (e_F_lt (by omega)) ⟨rfl, fun _ _ => rfl, fun r hr => by omega⟩
    · rintro H a t ⟨rfl, f1, f2⟩
      have e70 : nI (100 * n) + 70 = nI (100 * n + 70) := nI_add _ _
      have e71 : nI (100 * n) + 71 = nI (100 * n + 71) := nI_add _ _
      have e72 : nI (100 * n) + 72 = nI (100 * n + 72) := nI_add _ _
      have e73 : nI (100 * n) + 73 = nI (100 * n + 73) := nI_add _ _
      have t121 : t 121 = σ 121 := (f1 121 (by decide)).trans (g1 121 (by omega))
      have t100 : t 100 = σ 100 := (f1 100 (by decide)).trans (g1 100 (by omega))
      simp only [d_X7_restore_227, le12, if_true, e70, e71, e72, e73, p_gd (in200 (show 100 * n + 70 < 200 by omega)), p_gd (in200 (show 100 * n + 71 < 200 by omega)), p_gd (in200 (show 100 * n + 72 < 200 by omega)), p_gd (in200 (show 100 * n + 73 < 200 by omega)), ix200 (show 100 * n + 70 < 200 by omega), ix200 (show 100 * n + 71 < 200 by omega), ix200 (show 100 * n + 72 < 200 by omega), ix200 (show 100 * n + 73 < 200 by omega), p_lt, up_rw, rw1_eq, rw1_rw1, rw1_ne (show (121 : Nat) ≠ 100 by decide), t121, t100]
      refine ⟨_, rfl, fun c hc => by rw [rw1_ne (by omega), f1 c (by omega)]; exact g1 c (by omega), fun r hr => ?_, fun r hr => ?_, ?_, ?_, ?_, ?_, ?_⟩
      · simp (disch := omega) only [rw1_ne]
        simp (disch := omega) only [f1]
        exact g3 r hr
      · rw [rw1_ne (by decide)]; exact f2 r hr
      · rw [rw1_eq]; simp (disch := omega) only [upd_n, upd_s]
      · rw [rw1_eq]; simp (disch := omega) only [upd_n, upd_s]
      · rw [rw1_eq]; simp (disch := omega) only [upd_n, upd_s]
      · rw [rw1_eq]; simp (disch := omega) only [upd_n, upd_s]
      · rw [rw1_eq]; simp (disch := omega) only [upd_n, upd_s]
    · rintro H i a t hi ⟨rfl, f1, f2⟩ kk
      have e1 : (nI (100 * n) + 55) + nI i = nI (100 * n + 55 + i) := a200 _ 55 _
      simp only [d_X7_restore_227, ge12 hi, if_false, e1, p_gd (in200 (show 100 * n + 55 + i < 200 by omega)), ix200 (show 100 * n + 55 + i < 200 by omega), p_wr (x_in hi (show 12 < 2 ^ 31 by decide)), x_ix (show i < 2 ^ 31 by omega), x_s, up_rw]
      refine kk _ _ ⟨rfl, fun c hc => by rw [rw1_ne hc]; exact f1 c hc, fun r hr => ?_⟩
      rw [rw1_eq]
      by_cases e : r = i
      · subst e; rw [upd_s, f1 121 (by decide), g1 121 (by omega)]
      · rw [upd_n e]; exact f2 r (by omega)
  · rintro H i a s hi ⟨rfl, g1, g3⟩ kk
    have e0 : nI (100 * n) + nI i = nI (100 * n + i) := nI_add _ _
    have e121 : s 121 = σ 121 := g1 121 (by omega)
    simp only [d_X7_restore_31, ge5 hi, x_ge (n := 5) hi (by decide), if_false, ix5 hi, l5, l10, l15, l20, l25, l30, l35, l40, l45, l50, a200, e0, x_s, p_wr (in5 hi), p_gd (in200 (show 100 * n + i < 200 by omega)), ix200 (show 100 * n + i < 200 by omega), p_gd (in200 (show 100 * n + 5 + i < 200 by omega)), ix200 (show 100 * n + 5 + i < 200 by omega), p_gd (in200 (show 100 * n + 10 + i < 200 by omega)), ix200 (show 100 * n + 10 + i < 200 by omega), p_gd (in200 (show 100 * n + 15 + i < 200 by omega)), ix200 (show 100 * n + 15 + i < 200 by omega), p_gd (in200 (show 100 * n + 20 + i < 200 by omega)), ix200 (show 100 * n + 20 + i < 200 by omega), p_gd (in200 (show 100 * n + 25 + i < 200 by omega)), ix200 (show 100 * n + 25 + i < 200 by omega), p_gd (in200 (show 100 * n + 30 + i < 200 by omega)), ix200 (show 100 * n + 30 + i < 200 by omega), p_gd (in200 (show 100 * n + 35 + i < 200 by omega)), ix200 (show 100 * n + 35 + i < 200 by omega), p_gd (in200 (show 100 * n + 40 + i < 200 by omega)), ix200 (show 100 * n + 40 + i < 200 by omega), p_gd (in200 (show 100 * n + 45 + i < 200 by omega)), ix200 (show 100 * n + 45 + i < 200 by omega), p_gd (in200 (show 100 * n + 50 + i < 200 by omega)), ix200 (show 100 * n + 50 + i < 200 by omega)]
    simp (disch := decide) only [up_rw, rw1_eq, rw1_ne, e121]
    refine kk _ _ ⟨rfl, fun c hc => ?_, fun r hr => ?_⟩
    · simp (disch := omega) only [rw1_ne]; exact g1 c hc
    · simp (disch := decide) only [rw1_eq, rw1_ne]
      by_cases e : r = i
      · subst e
        simp only [upd_s, and_self]
      · simp (disch := omega) only [upd_n]; exact g3 r (by omega)
