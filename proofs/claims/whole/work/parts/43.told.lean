theorem n01 {n : Nat} (h : n < 2) : n = 0 ∨ n = 1 := by omega
theorem nI_0' {n : Nat} (h : n < 2) : (nI n = 0) ↔ n = 0 := by rcases n01 h with rfl | rfl <;> decide
theorem op_image (x : Int32) : SimI (m_X6_image x) (m_X7_image x) := by
  intro σ hI
  obtain ⟨w1, w2, w3, w4⟩ := id hI
  obtain ⟨a1, a2, a3, a4, a5, a6⟩ := id w2
  unfold m_X6_image
  simp only [q_within, p_cI, p_ifz]
  cases hx : inB x 0 1
  · exact ⟨_, _, σ, rfl, by unfold m_X7_image; simp [q_in, p_cI, p_ifz, hx], hI⟩
  · obtain ⟨n, hn1, rfl⟩ := inB_ix (n := 1) (by decide) hx
    have hn : n < 2 := by omega
    have him : m_X6_imageOf (nI n) σ = some (29 + 14 * n, σ) := by
      rcases n01 hn with rfl | rfl <;> rfl
    have htw : k_twb (29 + 14 * n) = true := by rcases n01 hn with rfl | rfl <;> rfl
    obtain ⟨s, g0, g1⟩ := q_become (a := 29 + 14 * n) (b := 1) (σ := σ) (by omega)
    simp only [if_true, him, p_cR, p_gd htw, g0, p_cV, p_wr (x_in hn (show 2 < 2 ^ 31 by decide)), x_ix (show n < 2 ^ 31 by omega)]
    have sc : ∀ c, c < 29 + 14 * n ∨ 29 + 14 * n + 14 ≤ c → c ≠ 57 → k_up s 57 n 1 c = σ c := fun c hc h => by simp [k_up, h]; exact g1.1 c hc
    obtain ⟨t, t0, t1, t2, t3, t4, t5, t6, t7, t8, t9⟩ := q_imageM (n := n) (σ := k_up s 57 n 1) hn
    refine ⟨1, k_up s 57 n 1, t, rfl, t0, ?_⟩
    have rt : ∀ c, c < 29 + 14 * n ∨ 29 + 14 * n + 14 ≤ c → c ≠ 57 → c ≠ 121 → c ≠ 122 → t c = σ c := fun c hc h1 h2 h3 => by rw [t1 c h2 h3]; exact sc c hc h1
    have rb : ∀ c, 29 + 14 * n ≤ c → c < 29 + 14 * n + 14 → t c = s c := fun c h1 h2 => by rw [t1 c (by omega) (by omega)]; simp [k_up, show c ≠ 57 by omega]
    have b2 : bec σ (29 + 14 * n) 1 t ∨ True := Or.inr trivial
    have wfN : Wf t (29 + 14 * n) := (w1.bec g1).ext (fun c h1 h2 => rb c h1 (by omega))
    have e57 : t 57 = upd (σ 57) n 1 := by rw [t1 57 (by decide) (by decide)]; simp [k_up, g1.1 57 (by omega)]
    have e122 : t 122 = upd (σ 122) n 1 := by rw [t9, sc 122 (by omega) (by decide)]
    refine ⟨w1.ext (fun c h1 h2 => rt c (by omega) (by omega) (by omega) (by omega)), w2.ext (fun c h1 h2 => rt c (by omega) (by omega) (by omega) (by omega)) (fun c h1 h2 => rt c (by omega) (by omega) (by omega) (by omega)) (by rw [rt 100 (by omega) (by omega) (by omega) (by omega)]) (by rw [rt 100 (by omega) (by omega) (by omega) (by omega)]) (by rw [rt 100 (by omega) (by omega) (by omega) (by omega)]) (by rw [rt 100 (by omega) (by omega) (by omega) (by omega)]), w3.ext (rt 58 (by omega) (by omega) (by omega) (by omega)) (rt 59 (by omega) (by omega) (by omega) (by omega)) (rt 113 (by omega) (by omega) (by omega) (by omega)) (by rw [rt 100 (by omega) (by omega) (by omega) (by omega)]), fun k hk => ?_⟩
    rw [e57, e122]
    by_cases e : k = n
    · subst e
      rw [upd_s, upd_s]
      refine ⟨rfl, Or.inr ⟨rfl, wfN, ?_⟩⟩
      have m100 : k_up s 57 k 1 100 = σ 100 := sc 100 (by omega) (by decide)
      have bs : ∀ r, r < 4 → t (29 + 14 * k) r = σ 1 r := fun r hr => by rw [rb _ (by omega) (by omega)]; exact bec_0 g1 hr
      have bj : ∀ j r, 1 ≤ j → j ≤ 11 → r < 5 → t (29 + 14 * k + j) r = σ (1 + j) r := fun j r h1 h2 h3 => by rw [rb _ (by omega) (by omega)]; exact bec_j g1 h1 h2 h3
      have bss : ∀ j r, 12 ≤ j → j ≤ 13 → r < 6 → t (29 + 14 * k + j) r = σ (1 + j) r := fun j r h1 h2 h3 => by rw [rb _ (by omega) (by omega)]; exact bec_s g1 h1 h2 h3
      have mrow : ∀ c, 101 ≤ c → c ≤ 112 → k_up s 57 k 1 c = σ c := fun c h1 h2 => sc c (by omega) (by omega)
      refine ⟨by rw [t5, m100, bs 0 (by decide)]; exact a1, by rw [t6, m100, bs 1 (by decide)]; exact a2, by rw [t7, m100, bs 2 (by decide)]; exact a3, by rw [t8, m100, bs 3 (by decide)]; exact a4, fun r hr => ?_, fun r hr => ?_⟩
      · obtain ⟨c1, c2, c3, c4, c5, c6, c7, c8, c9, c10, c11⟩ := t3 r hr
        obtain ⟨b1, b2, b3, b4, b5, b6, b7, b8, b9, b10, b11⟩ := a5 r hr
        rw [c1, c2, c3, c4, c5, c6, c7, c8, c9, c10, c11]
        simp (disch := omega) only [mrow, bj, Nat.reduceAdd]
        exact ⟨b1, b2, b3, b4, b5, b6, b7, b8, b9, b10, b11⟩
      · rw [t4 (2 * r) (by omega), t4 (2 * r + 1) (by omega), mrow 112 (by omega) (by omega), bss 12 r (by omega) (by omega) hr, bss 13 r (by omega) (by omega) hr]
        exact a6 r hr
    · rw [upd_n e, upd_n e]
      obtain ⟨c1, c2⟩ := w4 k hk
      refine ⟨c1, ?_⟩
      rcases c2 with c2 | ⟨c2, c3, c4⟩
      · exact Or.inl c2
      · refine Or.inr ⟨c2, c3.ext (fun c h1 h2 => rt c (by omega) (by omega) (by omega) (by omega)), ?_⟩
        have rk : ∀ j, j ≤ 13 → t (29 + 14 * k + j) = σ (29 + 14 * k + j) := fun j hj => rt _ (by omega) (by omega) (by omega) (by omega)
        have rk0 : t (29 + 14 * k) = σ (29 + 14 * k) := rt _ (by omega) (by omega) (by omega) (by omega)
        have ry : ∀ y, 100 * k ≤ y → y < 100 * k + 100 → t 121 y = σ 121 y := fun y h1 h2 => by rw [t2 y (by omega), sc 121 (by omega) (by decide)]
        obtain ⟨d1, d2, d3, d4, d5, d6⟩ := c4
        refine ⟨by rw [ry _ (by omega) (by omega), rk0]; exact d1, by rw [ry _ (by omega) (by omega), rk0]; exact d2, by rw [ry _ (by omega) (by omega), rk0]; exact d3, by rw [ry _ (by omega) (by omega), rk0]; exact d4, fun r hr => ?_, fun r hr => ?_⟩
        · simp (disch := omega) only [ry, rk]; exact d5 r hr
        · simp (disch := omega) only [ry, rk]; exact d6 r hr
theorem op_restore (x : Int32) : SimI (m_X6_restore x) (m_X7_restore x) := by
  intro σ hI
  obtain ⟨w1, w2, w3, w4⟩ := id hI
  unfold m_X6_restore
  simp only [q_within, p_cI, p_ifz]
  cases hx : inB x 0 1
  · exact ⟨_, _, σ, rfl, by unfold m_X7_restore; simp [q_in, p_cI, p_ifz, hx], hI⟩
  · obtain ⟨n, hn1, rfl⟩ := inB_ix (n := 1) (by decide) hx
    have hn : n < 2 := by omega
    obtain ⟨e1, e2⟩ := w4 n hn
    have hi2 : k_in (nI n) 2 = true := x_in hn (by decide)
    have hx2 : Int32.toNatClampNeg (nI n) = n := x_ix (by omega)
    simp only [if_true, p_gd hi2, hx2]
    rcases e2 with e2 | ⟨e2, c3, c4⟩
    · refine ⟨-3, σ, σ, by simp [e2], ?_, hI⟩
      unfold m_X7_restore
      simp [q_in, p_cI, p_ifz, hx, p_gd hi2, hx2, e1, e2]
    · have him : m_X6_imageOf (nI n) σ = some (29 + 14 * n, σ) := by
        rcases n01 hn with rfl | rfl <;> rfl
      have htw : k_twb (29 + 14 * n) = true := by rcases n01 hn with rfl | rfl <;> rfl
      have h10 : ¬ (1 : Int32) = 0 := by decide
      obtain ⟨s, g0, g1⟩ := q_become (a := 1) (b := 29 + 14 * n) (σ := σ) (by omega)
      simp only [e2, h10, if_false, him, p_cR, p_gd htw, g0, p_cV]
      have sc : ∀ c, 15 ≤ c → s c = σ c := fun c hc => g1.1 c (by omega)
      obtain ⟨t, t0, t1, t2, t3, t4, t5, t6, t7, t8⟩ := q_restoreM (n := n) (σ := s) hn (by rw [sc 122 (by omega), e1, e2])
      refine ⟨1, s, t, rfl, t0, ?_⟩
      have rt : ∀ c, (15 ≤ c ∧ c < 100) ∨ 113 ≤ c → t c = σ c := fun c hc => by rw [t1 c (by omega)]; exact sc c (by omega)
      have rs : ∀ c, c < 15 → t c = s c := fun c hc => t1 c (by omega)
      obtain ⟨d1, d2, d3, d4, d5, d6⟩ := c4
      have s121 : s 121 = σ 121 := sc 121 (by omega)
      have ts : ∀ r, r < 4 → t 1 r = σ (29 + 14 * n) r := fun r hr => by rw [rs 1 (by omega)]; exact bec_0 g1 hr
      have tj : ∀ j r, 1 ≤ j → j ≤ 11 → r < 5 → t (1 + j) r = σ (29 + 14 * n + j) r := fun j r h1 h2 h3 => by rw [rs (1 + j) (by omega)]; exact bec_j g1 h1 h2 h3
      have tss : ∀ j r, 12 ≤ j → j ≤ 13 → r < 6 → t (1 + j) r = σ (29 + 14 * n + j) r := fun j r h1 h2 h3 => by rw [rs (1 + j) (by omega)]; exact bec_s g1 h1 h2 h3
      refine ⟨(c3.bec g1).ext (fun c h1 h2 => rs c (by omega)), ⟨by rw [t4, s121, ts 0 (by decide)]; exact d1, by rw [t5, s121, ts 1 (by decide)]; exact d2, by rw [t6, s121, ts 2 (by decide)]; exact d3, by rw [t7, s121, ts 3 (by decide)]; exact d4, fun r hr => ?_, fun r hr => ?_⟩, w3.ext (rt 58 (by omega)) (rt 59 (by omega)) (rt 113 (by omega)) (by rw [t8, sc 100 (by omega)]), w4.ext (rt 121 (by omega)) (rt 122 (by omega)) (fun c h1 h2 => rt c (by omega))⟩
      · obtain ⟨b1, b2, b3, b4, b5, b6, b7, b8, b9, b10, b11⟩ := d5 r hr
        obtain ⟨f1, f2, f3, f4, f5, f6, f7, f8, f9, f10, f11⟩ := t2 r hr
        have k1 := tj 1 r (by omega) (by omega) hr; have k2 := tj 2 r (by omega) (by omega) hr; have k3 := tj 3 r (by omega) (by omega) hr; have k4 := tj 4 r (by omega) (by omega) hr; have k5 := tj 5 r (by omega) (by omega) hr; have k6 := tj 6 r (by omega) (by omega) hr; have k7 := tj 7 r (by omega) (by omega) hr; have k8 := tj 8 r (by omega) (by omega) hr; have k9 := tj 9 r (by omega) (by omega) hr; have k10 := tj 10 r (by omega) (by omega) hr; have k11 := tj 11 r (by omega) (by omega) hr
        simp only [Nat.reduceAdd] at k1 k2 k3 k4 k5 k6 k7 k8 k9 k10 k11
        rw [f1, f2, f3, f4, f5, f6, f7, f8, f9, f10, f11, k1, k2, k3, k4, k5, k6, k7, k8, k9, k10, k11, s121]
        exact ⟨b1, b2, b3, b4, b5, b6, b7, b8, b9, b10, b11⟩
      · have k12 := tss 12 r (by omega) (by omega) hr; have k13 := tss 13 r (by omega) (by omega) hr
        simp only [Nat.reduceAdd] at k12 k13
        rw [t3 (2 * r) (by omega), t3 (2 * r + 1) (by omega), k12, k13, s121]
        exact d6 r hr
theorem sw_in {α : Type} {k n : Nat} {f : Nat → Option α} {d : Option α} (h : k < n) (hn : n < 2 ^ 31) : e_sw (nI k) n f d = f k := by
  simp [e_sw, x_in h hn, x_ix (show k < 2 ^ 31 by omega)]
theorem sw_out {α : Type} {k n : Nat} {f : Nat → Option α} {d : Option α} (h : n ≤ k) (hk : k < 2 ^ 31) : e_sw (nI k) n f d = d := by
  have : k_in (nI k) n = false := by
    unfold k_in
    refine decide_eq_false (fun q => q (Or.inr ?_))
    rw [x_ix hk]; exact h
  simp [e_sw, this]
theorem sw_neg {α : Type} {x : Int32} {n : Nat} {f : Nat → Option α} {d : Option α} (h : x < 0) : e_sw x n f d = d := by
  have : k_in x n = false := by
    unfold k_in
    exact decide_eq_false (fun q => q (Or.inl h))
  simp [e_sw, this]
theorem lt_nI {a n : Nat} (ha : a < 2 ^ 31) (hn : n < 2 ^ 31) : ((OfNat.ofNat a : Int32) ≤ nI n) ↔ a ≤ n := nI_leI ha hn
theorem ltl {a n : Nat} (ha : a < 2 ^ 31) (hn : n < 2 ^ 31) : (nI n < (OfNat.ofNat a : Int32)) ↔ n < a := nI_ltI hn ha
theorem inB_no {n m : Nat} (hn : n < 2 ^ 31) (hm : m < n) : inB (nI n) 0 (nI m) = false := by
  unfold inB
  refine decide_eq_false (fun h => ?_)
  have := (nI_leI hn (by omega)).mp h.2
  omega
theorem inB_no4 {n : Nat} (hn : n < 2 ^ 31) (hm : 4 < n) : inB (nI n) 0 4 = false := inB_no (m := 4) hn hm
theorem op_told (x : Int32) : SimI (m_X6_told x) (m_X7_told x) := by
  intro σ hI
  obtain ⟨w1, w2, w3, w4⟩ := id hI
  obtain ⟨a1, a2, a3, a4, a5, a6⟩ := id w2
  obtain ⟨⟨np, hnp, p1, p2⟩, p3⟩ := id w3
  suffices h : ∃ r, m_X6_told x σ = some (r, σ) ∧ m_X7_told x σ = some (r, σ) by
    obtain ⟨r, h1, h2⟩ := h
    exact ⟨r, σ, σ, h1, h2, hI⟩
  unfold m_X6_told m_X7_told
  simp only [q_within, p_cI, p_ifz, p_lt, b_X6_told_41]
  by_cases hneg : x < 0
  · have h1 : inB x 0 4 = false := by unfold inB; exact decide_eq_false (fun h => absurd hneg (i_nlt.mpr h.1))
    have h10 : x < 10 := Int32.lt_trans hneg (by decide)
    have h100 : x < 100 := Int32.lt_trans hneg (by decide)
    have h4 : ¬ x = 4 := fun e => by subst e; exact absurd hneg (by decide)
    exact ⟨-2, by simp [h1, h10, h100], by simp [h10, h100, sw_neg hneg, h4]⟩
  · obtain ⟨n, hn, rfl⟩ := nI_of hneg
    have c10 : (nI n < 10) ↔ n < 10 := ltl (by decide) hn
    have c60 : ((60 : Int32) ≤ nI n) ↔ 60 ≤ n := lt_nI (by decide) hn
    have c100 : (nI n < 100) ↔ n < 100 := ltl (by decide) hn
    have c600 : ((600 : Int32) ≤ nI n) ↔ 600 ≤ n := lt_nI (by decide) hn
    simp only [c10, c60, c100, c600]
    by_cases h5 : n < 5
    · have : n = 0 ∨ n = 1 ∨ n = 2 ∨ n = 3 ∨ n = 4 := by omega
      have e1 : inB (nI n) 0 4 = true := inB_nI h5
      simp only [e1, if_true, show n < 10 by omega, show n < 100 by omega, m_X6_toldOfAll]
      rcases this with rfl | rfl | rfl | rfl | rfl
      · exact ⟨nI np, by simp [sw_in (show 0 < 4 by decide) (by decide), p1, p_cI], by simp [sw_in (show 0 < 4 by decide) (by decide), p2]⟩
      · exact ⟨σ 1 0, by simp [sw_in (show 1 < 4 by decide) (by decide), p_cI], by simp [sw_in (show 1 < 4 by decide) (by decide), a1]⟩
      · exact ⟨σ 1 1, by simp [sw_in (show 2 < 4 by decide) (by decide), p_cI], by simp [sw_in (show 2 < 4 by decide) (by decide), a2]⟩
      · exact ⟨σ 1 2, by simp [sw_in (show 3 < 4 by decide) (by decide), p_cI], by simp [sw_in (show 3 < 4 by decide) (by decide), a3]⟩
      · have h44 : (nI 4 : Int32) = 4 := rfl
        exact ⟨σ 1 3, by rw [sw_out (show 4 ≤ 4 by decide) (by decide)]; simp [p_cI], by rw [sw_out (show 4 ≤ 4 by decide) (by decide)]; simp [h44, a4]⟩
    · have e1 : inB (nI n) 0 4 = false := inB_no (m := 4) hn (by omega)
      have e4 : ¬ nI n = 4 := fun e => by
        have := (nI_eq (a := n) (b := 4) hn (by decide)).mp e
        omega
      simp only [e1, Bool.false_eq_true, if_false]
      by_cases h10 : n < 10
      · exact ⟨-2, by simp [h10, show n < 100 by omega], by simp [h10, show n < 100 by omega, sw_out (show 4 ≤ n by omega) hn, e4]⟩
      · have r10 : jrm (nI n) 10 = nI (n % 10) := pk_rem (d := 10) hn (by decide) (by decide)
        have d10 : nI n / 10 - 1 = nI (n / 10 - 1) := by
          have : nI n / 10 = nI (n / 10) := pk_div (d := 10) hn (by decide) (by decide)
          rw [this]
          have h : 1 ≤ n / 10 := by omega
          exact pk_sub (a := n / 10) (b := 1) h
        by_cases h60 : n < 60
        · have hc : n / 10 - 1 < 5 := by omega
          simp only [h10, if_false, show ¬ 60 ≤ n by omega, show n < 100 by omega, if_true, r10, d10, m_X6_toldOfCoat, q_hasCoat, q_isCoat, p_cI, p_ifz, a2, hB_nI hc]
          cases tc : tB (σ 1 1) (nI (n / 10 - 1))
          · exact ⟨-2, by simp [p_cI], by simp⟩
          · simp only [if_true]
            have hk : n % 10 < 10 := by omega
            generalize n % 10 = k at hk ⊢
            generalize n / 10 - 1 = c at hc ⊢
            obtain ⟨b1, b2, b3, b4, b5, b6, b7, b8, b9, b10, b11⟩ := a5 c hc
            have : k = 0 ∨ k = 1 ∨ k = 2 ∨ k = 3 ∨ k = 4 ∨ k = 5 ∨ 6 ≤ k := by omega
            rcases this with rfl | rfl | rfl | rfl | rfl | rfl | h6
            · exact ⟨σ 8 c, by simp [sw_in (show 0 < 6 by decide) (by decide), p_gd (in5 hc), ix5 hc, p_cI], by simp [sw_in (show 0 < 5 by decide) (by decide), p_gd (in5 hc), ix5 hc, b7]⟩
            · exact ⟨σ 9 c, by simp [sw_in (show 1 < 6 by decide) (by decide), p_gd (in5 hc), ix5 hc, p_cI], by simp [sw_in (show 1 < 5 by decide) (by decide), p_gd (in5 hc), ix5 hc, b8]⟩
            · exact ⟨σ 10 c, by simp [sw_in (show 2 < 6 by decide) (by decide), p_gd (in5 hc), ix5 hc, p_cI], by simp [sw_in (show 2 < 5 by decide) (by decide), p_gd (in5 hc), ix5 hc, b9]⟩
            · exact ⟨σ 11 c, by simp [sw_in (show 3 < 6 by decide) (by decide), p_gd (in5 hc), ix5 hc, p_cI], by simp [sw_in (show 3 < 5 by decide) (by decide), p_gd (in5 hc), ix5 hc, b10]⟩
            · exact ⟨σ 12 c, by simp [sw_in (show 4 < 6 by decide) (by decide), p_gd (in5 hc), ix5 hc, p_cI], by simp [sw_in (show 4 < 5 by decide) (by decide), p_gd (in5 hc), ix5 hc, b11]⟩
            · have h55 : (nI 5 : Int32) = 5 := rfl
              exact ⟨nI (mk5 (fun i => decide (σ 2 i = nI c))), by simp [sw_in (show 5 < 6 by decide) (by decide), q_wearers, p_cI], by rw [sw_out (show 5 ≤ 5 by decide) (by decide)]; simp [h55, q_wearersM, p_cI, wear_eq w1 w2 hc]⟩
            · have hne : ¬ nI k = 5 := fun e => by
                have := (nI_eq (a := k) (b := 5) (by omega) (by decide)).mp e
                omega
              exact ⟨-2, by simp [sw_out h6 (show k < 2 ^ 31 by omega), p_cI], by simp [sw_out (show 5 ≤ k by omega) (show k < 2 ^ 31 by omega), hne]⟩
        · by_cases h100 : n < 100
          · have hb : hB (σ 100 1) (nI (n / 10 - 1)) = false := by
              unfold hB
              rw [inB_no4 (show n / 10 - 1 < 2 ^ 31 by omega) (by omega)]; rfl
            refine ⟨-2, by simp [h10, show 60 ≤ n by omega, h100], ?_⟩
            simp [h10, h100, d10, q_isCoat, p_cI, p_ifz, hb]
          · have r100 : jrm (nI n) 100 = nI (n % 100) := pk_rem (d := 100) hn (by decide) (by decide)
            have d100 : nI n / 100 - 1 = nI (n / 100 - 1) := by
              have : nI n / 100 = nI (n / 100) := pk_div (d := 100) hn (by decide) (by decide)
              rw [this]
              exact pk_sub (a := n / 100) (b := 1) (by omega)
            simp only [h10, if_false, show 60 ≤ n by omega, if_true, h100, r100, d100, m_X6_toldOfPerson, q_hasPerson, q_isThere, p_cI, p_ifz, a1, b_X7_told_34, q_within]
            by_cases h600 : 600 ≤ n
            · have hb : hB (σ 1 0) (nI (n / 100 - 1)) = false := by
                unfold hB
                rw [inB_no4 (show n / 100 - 1 < 2 ^ 31 by omega) (by omega)]; rfl
              exact ⟨-2, by simp [h600], by simp [hb]⟩
            · have hp : n / 100 - 1 < 5 := by omega
              simp only [h600, if_false, hB_nI hp]
              cases tp : tB (σ 1 0) (nI (n / 100 - 1))
              · exact ⟨-2, by simp [p_cI], by simp⟩
              · simp only [if_true]
                have hk : n % 100 < 100 := by omega
                generalize n % 100 = k at hk ⊢
                generalize n / 100 - 1 = p at hp ⊢
                obtain ⟨b1, b2, b3, b4, b5, b6, -⟩ := a5 p hp
                have : k = 0 ∨ k = 1 ∨ 2 ≤ k := by omega
                rcases this with rfl | rfl | h2
                · have i1 : inB (nI 0) 0 1 = true := by decide
                  have i2 : (nI 0 : Int32) ≤ 1 := by decide
                  have i3 : (nI 0 : Int32) = 0 := rfl
                  exact ⟨σ 6 p, by simp [show inB 0 0 1 = true from i1, i3, p_gd (in5 hp), ix5 hp, p_cI], by simp [i2, i3, p_gd (in5 hp), ix5 hp, b5]⟩
                · have i1 : inB (nI 1) 0 1 = true := by decide
                  have i2 : (nI 1 : Int32) ≤ 1 := by decide
                  have i3 : ¬ (nI 1 : Int32) = 0 := by decide
                  exact ⟨σ 7 p, by simp [i1, i3, p_gd (in5 hp), ix5 hp, p_cI], by simp [i2, i3, p_gd (in5 hp), ix5 hp, b6]⟩
                · have i1 : inB (nI k) 0 1 = false := inB_no (m := 1) (show k < 2 ^ 31 by omega) (by omega)
                  have i2 : ¬ (nI k : Int32) ≤ 1 := fun e => by
                    have := (nI_leI (a := k) (b := 1) (by omega) (by decide)).mp e
                    omega
                  exact ⟨-2, by simp [i1, p_cI], by simp [i2]⟩
