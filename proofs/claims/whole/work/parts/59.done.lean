theorem q_doneM {t : Sg} : ∃ u, e_lp1 (d_X7_done_12 (fun σ8 => e_lt (k_up σ8 100 16 0) (fun σ9 => some (σ9 100 25, σ9)))) e_F 0 t = some (t 100 25, u) ∧ (∀ c, c ≠ 100 → c ≠ 101 → c ≠ 106 → c ≠ 107 → c ≠ 108 → c ≠ 109 → u c = t c) ∧ u 100 = upd (t 100) 16 0 ∧
    ∀ r, r < 5 → u 106 r = t 114 r ∧ u 107 r = t 115 r ∧ u 108 r = t 116 r ∧ u 109 r = t 117 r ∧ u 101 r = t 118 r := by
  refine lp1_z (fun o => ∃ u : Sg, o = some (t 100 25, u) ∧ (∀ c, c ≠ 100 → c ≠ 101 → c ≠ 106 → c ≠ 107 → c ≠ 108 → c ≠ 109 → u c = t c) ∧ u 100 = upd (t 100) 16 0 ∧
    ∀ r, r < 5 → u 106 r = t 114 r ∧ u 107 r = t 115 r ∧ u 108 r = t 116 r ∧ u 109 r = t 117 r ∧ u 101 r = t 118 r)
    (fun i u => (∀ c, c ≠ 101 → c ≠ 106 → c ≠ 107 → c ≠ 108 → c ≠ 109 → u c = t c) ∧ ∀ r, r < i → u 106 r = t 114 r ∧ u 107 r = t 115 r ∧ u 108 r = t 116 r ∧ u 109 r = t 117 r ∧ u 101 r = t 118 r) 5 ?_ ?_ (e_F_lt (by omega)) ⟨fun _ _ _ _ _ _ => rfl, fun r hr => by omega⟩
  · rintro H u ⟨g1, g2⟩
    simp only [d_X7_done_12, le5, if_true, p_lt]
    have e100 : u 100 = t 100 := g1 100 (by decide) (by decide) (by decide) (by decide) (by decide)
    refine ⟨k_up u 100 16 0, ?_, fun c h0 h1 h2 h3 h4 h5 => ?_, ?_, fun r hr => ?_⟩
    · rw [up_rw, rw1_eq, upd_n (by decide), e100]
    · rw [up_rw, rw1_ne h0]; exact g1 c h1 h2 h3 h4 h5
    · rw [up_rw, rw1_eq, e100]
    · rw [up_rw]
      simp (disch := decide) only [rw1_ne]
      exact g2 r hr
  · rintro H i u hi ⟨g1, g2⟩ kk
    simp only [d_X7_done_12, ge5 hi, if_false, p_gd (in5 hi), p_wr (in5 hi), ix5 hi, x_s, up_rw]
    simp (disch := decide) only [rw1_ne, rw1_eq]
    refine kk _ ⟨fun c h1 h2 h3 h4 h5 => ?_, fun r hr => ?_⟩
    · rw [rw1_ne h1, rw1_ne h5, rw1_ne h4, rw1_ne h3, rw1_ne h2]; exact g1 c h1 h2 h3 h4 h5
    · simp (disch := decide) only [rw1_ne, rw1_eq]
      by_cases e : r = i
      · subst e
        simp only [upd_s]
        rw [g1 114 (by decide) (by decide) (by decide) (by decide) (by decide), g1 115 (by decide) (by decide) (by decide) (by decide) (by decide), g1 116 (by decide) (by decide) (by decide) (by decide) (by decide), g1 117 (by decide) (by decide) (by decide) (by decide) (by decide), g1 118 (by decide) (by decide) (by decide) (by decide) (by decide)]
        exact ⟨rfl, rfl, rfl, rfl, rfl⟩
      · simp only [upd_n e]; exact g2 r (by omega)
theorem op_done : SimI m_X6_done m_X7_done := by
  intro σ hI
  obtain ⟨w1, w2, ⟨⟨n, hn, e1, e2⟩, e3⟩, w4⟩ := id hI
  obtain ⟨a1, a2, a3, a4, a5, a6⟩ := id w2
  have z0 : (0 : Int32) ≤ 0 := by decide
  have z5 : ¬ (0 : Int32) ≤ -5 := by decide
  unfold m_X6_done m_X7_done
  rcases cf_ge (s := sg (σ 59) n) (n := n) 60 0 (by omega) with hc | ⟨i, hi, hc⟩
  · obtain ⟨s, t1, t2, t3, t4⟩ := feast_go hI hn e1 e2 e3 hc
    simp only [t1, p_cI, p_ifz]
    by_cases hz : s 64 2 = 0
    · obtain ⟨s2, g1, g2⟩ := q_become (a := 1) (b := 15) (σ := s) (by omega)
      have o2 : ∀ c, 15 ≤ c → k_up s2 58 1 0 c = (if c = 58 then upd (s 58) 1 0 else s c) := fun c hc => by
        by_cases q : c = 58
        · subst q; rw [up_rw, rw1_eq, if_pos rfl, g2.1 58 (by omega)]
        · rw [up_rw, rw1_ne q, if_neg q]; exact g2.1 c (by omega)
      have hτ : ∀ c, 100 ≤ c → k_up s2 58 1 0 c = σ c := fun c hc => by rw [o2 c (by omega), if_neg (by omega)]; exact t2 c (by omega)
      obtain ⟨t, r, kk, u1, u2, u3, u4, u5, u6⟩ := t4 _ hτ
      rcases u6 with ⟨v1, rfl, v3, v4⟩ | ⟨v1, rfl, v3⟩
      · obtain ⟨u, f1, f2, f3, f4⟩ := q_doneM (t := t)
        have z6 : (-6 : Int32) < 0 := by decide
        refine ⟨nI kk, k_up s2 58 1 0, u, ?_, ?_, ?_⟩
        · simp only [hz, decide_true, if_true, g1, p_cV, m_X1_clear, p_lt, p_cI]
          rw [o2 64 (by omega), if_neg (by decide), u4]
        · simp only [q_bar hn e2 e3 hτ hc u1, p_cI, z6, if_true, z0, f1, u5]
        · -- the order behind
          have uc : ∀ c, c < 100 → u c = k_up s2 58 1 0 c := fun c hc => by rw [f2 c (by omega) (by omega) (by omega) (by omega) (by omega) (by omega)]; exact u2.1 c (by omega)
          have ut : ∀ c, 1 ≤ c → c ≤ 14 → u c = s2 c := fun c h1 h2 => by rw [uc c (by omega), up_rw, rw1_ne (by omega)]
          have um : ∀ j, j < 23 → j ≠ 16 → u 100 j = σ 100 j := fun j h1 h2 => by rw [f3, upd_n h2, u2.2 j h1, hτ 100 (by omega)]
          have uk : ∀ c, c = 102 ∨ c = 103 ∨ c = 104 ∨ c = 105 ∨ (110 ≤ c ∧ c ≤ 113) ∨ c = 121 ∨ c = 122 → u c = σ c := fun c hc => by
            rw [f2 c (by omega) (by omega) (by omega) (by omega) (by omega) (by omega), u2.1 c (by omega)]; exact hτ c (by omega)
          have ui : ∀ c, 29 ≤ c → c ≤ 59 → c ≠ 58 → u c = σ c := fun c h1 h2 h3 => by rw [uc c (by omega), o2 c (by omega), if_neg h3]; exact t2 c (by omega)
          have s15 : ∀ r, r < 4 → s2 1 r = σ 1 r := fun r hr => by rw [bec_0 g2 hr]; exact t3.1 r hr
          refine ⟨?_, ⟨?_, ?_, ?_, ?_, fun r hr => ?_, fun r hr => ?_⟩, ⟨⟨0, by omega, ?_, ?_⟩, fun j hj => ?_⟩, ?_⟩
          · exact Wf.ext (fun c h1 h2 => ut c (by omega) (by omega)) (Wf.bec g2 v3)
          · rw [um 0 (by decide) (by decide), ut 1 (by decide) (by decide), s15 0 (by decide)]; exact a1
          · rw [um 1 (by decide) (by decide), ut 1 (by decide) (by decide), s15 1 (by decide)]; exact a2
          · rw [um 7 (by decide) (by decide), ut 1 (by decide) (by decide), s15 2 (by decide)]; exact a3
          · rw [um 14 (by decide) (by decide), ut 1 (by decide) (by decide), s15 3 (by decide)]; exact a4
          · obtain ⟨b1, b2, b3, b4, b5, b6, b7, b8, b9, b10, b11⟩ := a5 r hr
            obtain ⟨c1, c2, c3, c4, c5⟩ := f4 r hr
            obtain ⟨d1, d2, d3, d4, d5, d6, d7⟩ := v4.2.2.2 r hr
            have k : ∀ j, 1 ≤ j → j ≤ 11 → u (1 + j) r = s (15 + j) r := fun j h1 h2 => by rw [ut (1 + j) (by omega) (by omega)]; exact bec_j g2 h1 h2 hr
            have kf : ∀ j, 5 ≤ j → j ≤ 11 → j ≠ 7 → u (1 + j) r = σ (1 + j) r := fun j h1 h2 h7 => by
              rw [k j (by omega) (by omega)]
              exact t3.2 j r (by omega) (by omega) (by omega) (by omega) (by omega) h7 (by simp [rng, show 1 ≤ j by omega, h2, hr])
            refine ⟨?_, ?_, ?_, ?_, ?_, ?_, ?_, ?_, ?_, ?_, ?_⟩
            · rw [c1, d1]; exact congrArg mc (k 1 (by decide) (by decide)).symm
            · rw [c2, d2]; exact (k 2 (by decide) (by decide)).symm
            · rw [c3, d3]; exact (k 3 (by decide) (by decide)).symm
            · rw [c4, d4]; exact (k 4 (by decide) (by decide)).symm
            · rw [uk 110 (by omega), b5]; exact (kf 5 (by decide) (by decide) (by decide)).symm
            · rw [uk 111 (by omega), b6]; exact (kf 6 (by decide) (by decide) (by decide)).symm
            · rw [c5, d5]; exact (k 7 (by decide) (by decide)).symm
            · rw [uk 102 (by omega), b8]; exact (kf 8 (by decide) (by decide) (by decide)).symm
            · rw [uk 103 (by omega), b9]; exact (kf 9 (by decide) (by decide) (by decide)).symm
            · rw [uk 104 (by omega), b10]; exact (kf 10 (by decide) (by decide) (by decide)).symm
            · rw [uk 105 (by omega), b11]; exact (kf 11 (by decide) (by decide) (by decide)).symm
          · obtain ⟨b1, b2⟩ := a6 r hr
            have k : ∀ j, 12 ≤ j → j ≤ 13 → u (1 + j) r = σ (1 + j) r := fun j h1 h2 => by
              rw [ut (1 + j) (by omega) (by omega), bec_s g2 h1 h2 hr]
              exact t3.2 j r (by omega) (by omega) (by omega) (by omega) (by omega) (by omega) (by simp [rng, h1, h2, hr])
            rw [uk 112 (by omega), b1, b2]
            exact ⟨(k 12 (by decide) (by decide)).symm, (k 13 (by decide) (by decide)).symm⟩
          · rw [uc 58 (by omega), o2 58 (by omega), if_pos rfl, upd_s]; rfl
          · rw [f3, upd_s]; rfl
          · rw [uk 113 (by omega), ui 59 (by omega) (by omega) (by omega)]; exact e3 j hj
          · exact w4.ext (uk 121 (by omega)) (uk 122 (by omega)) (fun c h1 h2 => ui c h1 (by omega) (by omega))
      · exact absurd hz (lt_n0 v1)
    · obtain ⟨t, r, kk, u1, u2, u3, u4, u5, u6⟩ := t4 s (fun c hc => t2 c (by omega))
      rcases u6 with ⟨v1, rfl, v3, v4⟩ | ⟨v1, rfl, v3⟩
      · exact absurd v1 hz
      · refine ⟨-5, s, t, by simp only [hz, decide_false, Bool.false_eq_true, if_false], ?_, (hI.ps t2.ps).ps u2.ps⟩
        have hp' : ¬ nI kk < 0 := nI_pos (by omega)
        simp only [q_bar hn e2 e3 (fun c hc => t2 c (by omega)) hc u1, p_cI, hp', if_false, z5]
  · refine ⟨-5, σ, σ, by simp only [q_tryF hn e1 hi hc, p_cI, if_true], ?_, hI⟩
    have f3 : cf (sg (σ 113) n) n 60 0 = nI i := by rw [sg_60 hn e3]; exact hc
    simp only [q_barF hn e2 hi f3, p_cI, z5, if_false]
