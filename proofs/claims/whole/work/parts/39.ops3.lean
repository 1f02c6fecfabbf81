theorem q_bring {k c o n : Nat} {σ : Sg} (hc : c < 5) : ∃ s, m_X4_bring k (nI c) (nI n) (nI o) σ = some s ∧ s k = upd (σ k) 1 (σ k 1 ||| jsl 1 (nI c)) ∧ (∀ p, p < 5 → s (k + 1) p = if σ (k + 1) p = nI c then -1 else σ (k + 1) p) ∧ s (k + 7) = upd (σ (k + 7)) c (nI n) ∧ s (k + 8) = upd (σ (k + 8)) c (nI o) ∧ (∀ j, 9 ≤ j → j ≤ 11 → s (k + j) = upd (σ (k + j)) c 0) ∧ ∀ x, x < k ∨ (k + 2 ≤ x ∧ x ≤ k + 6) ∨ k + 11 < x → s x = σ x := by
  unfold m_X4_bring
  simp only [q_within, p_cI, p_ifz, inB_nI hc, if_true]
  obtain ⟨s, g0, g1, g2⟩ := q_undress (k := k) (x := nI c) (σ := σ)
  simp only [g0, p_cV, p_lt, p_wr (in5 hc), ix5 hc]
  refine ⟨_, rfl, ?_, fun p hp => ?_, ?_, ?_, fun j h1 h2 => ?_, fun x hx => ?_⟩
  · simp [k_up, g1 k (by omega)]
  · simp [k_up]; exact g2 p hp
  · simp [k_up, g1 (k + 7) (by omega)]
  · simp [k_up, g1 (k + 8) (by omega)]
  · have : j = 9 ∨ j = 10 ∨ j = 11 := by omega
    rcases this with rfl | rfl | rfl
    · simp [k_up, g1 (k + 9) (by omega)]
    · simp [k_up, g1 (k + 10) (by omega)]
    · simp [k_up, g1 (k + 11) (by omega)]
  · simp [k_up, show x ≠ k by omega, show x ≠ k + 7 by omega, show x ≠ k + 8 by omega, show x ≠ k + 9 by omega, show x ≠ k + 10 by omega, show x ≠ k + 11 by omega, g1 x (by omega)]
theorem q_coatM {c o n : Nat} {σ : Sg} (hc : c < 5) (ho : o < 5) (hn : n < 100) (ht : tB (σ 100 0) (nI o) = true) : ∃ s, m_X7_coat (nI c) (nI n) (nI o) σ = some (btI (σ 100 1 ||| jsl 1 (nI c)), s) ∧ s 100 = upd (σ 100) 1 (σ 100 1 ||| jsl 1 (nI c)) ∧ (∀ p, p < 5 → s 106 p = if σ 106 p = nI c then 5 else σ 106 p) ∧ s 101 = upd (σ 101) c (nI n) ∧ s 102 = upd (σ 102) c (nI o) ∧ (∀ j, 103 ≤ j → j ≤ 105 → s j = upd (σ j) c 0) ∧ ∀ x, x < 100 ∨ 107 ≤ x → s x = σ x := by
  unfold m_X7_coat
  have h99 : inB (nI n) 0 99 = true := by
    unfold inB
    exact decide_eq_true ⟨nI_pos' (by omega), by have := nI_le (a := n) (b := 99) (by omega) (by decide); exact this⟩
  simp only [q_in, q_isThere, p_cI, p_ifz, inB_nI hc, hB_nI ho, ht, h99, if_true]
  obtain ⟨s, g0, g1, g2⟩ := q_undressM (x := nI c) (σ := σ)
  simp only [g0, p_cV, p_lt, p_wr (in5 hc), ix5 hc, q_bits, p_cI]
  refine ⟨k_up (k_up (k_up (k_up (k_up (k_up s 100 1 (s 100 1 ||| jsl 1 (nI c))) 101 c (nI n)) 102 c (nI o)) 103 c 0) 104 c 0) 105 c 0, ?_, ?_, fun p hp => ?_, ?_, ?_, fun j h1 h2 => ?_, fun x hx => ?_⟩
  · simp [k_up, upd, g1 100 (by omega)]
  · simp [k_up, g1 100 (by omega)]
  · simp [k_up]; exact g2 p hp
  · simp [k_up, g1 101 (by omega)]
  · simp [k_up, g1 102 (by omega)]
  · have : j = 103 ∨ j = 104 ∨ j = 105 := by omega
    rcases this with rfl | rfl | rfl
    · simp [k_up, g1 103 (by omega)]
    · simp [k_up, g1 104 (by omega)]
    · simp [k_up, g1 105 (by omega)]
  · simp [k_up, show x ≠ 100 by omega, show x ≠ 101 by omega, show x ≠ 102 by omega, show x ≠ 103 by omega, show x ≠ 104 by omega, show x ≠ 105 by omega, g1 x (by omega)]
theorem inB_99 {x : Int32} (h : inB x 0 99 = true) : ∃ n, n < 100 ∧ x = nI n := by
  obtain ⟨i, hi, rfl⟩ := inB_ix (n := 99) (by decide) h
  exact ⟨i, by omega, rfl⟩
theorem mc_if {w : Int32} {c : Nat} (hc : c < 5) : mc (if w = nI c then -1 else w) = if mc w = nI c then 5 else mc w := by
  by_cases h : w = nI c
  · have := (mc_c (w := w) hc).mpr h
    simp only [h, if_true]
    have h2 : mc (nI c) = nI c := (mc_c hc).mpr rfl
    simp only [h2, if_true]
    decide
  · have : ¬ mc w = nI c := fun q => h ((mc_c hc).mp q)
    simp [h, this]
theorem op_coat (x y z : Int32) : SimI (m_X6_coat x y z) (m_X7_coat x y z) := by
  intro σ hI
  obtain ⟨w1, w2, w3, w4⟩ := id hI
  obtain ⟨a1, a2, a3, a4, a5, a6⟩ := id w2
  obtain ⟨v1, ⟨m, hm, em⟩, v3, v4, v5, v6, v7, v8, v9, v10, v11⟩ := id w1
  unfold m_X6_coat
  simp only [q_within, q_hasPerson, p_cI, p_ifz]
  cases hx : inB x 0 4
  · exact ⟨_, _, σ, rfl, by unfold m_X7_coat; simp [q_in, p_cI, p_ifz, hx], hI⟩
  · simp only [if_true]
    cases hz : hB (σ 1 0) z
    · exact ⟨_, _, σ, rfl, by unfold m_X7_coat; simp [q_in, q_isThere, p_cI, p_ifz, hx, a1, hz], hI⟩
    · simp only [if_true]
      cases hy : inB y 0 99
      · exact ⟨_, _, σ, rfl, by unfold m_X7_coat; simp [q_in, q_isThere, p_cI, p_ifz, hx, a1, hz, hy], hI⟩
      · simp only [if_true]
        obtain ⟨c, hc4, rfl⟩ := inB_ix (n := 4) (by decide) hx
        have hc : c < 5 := by omega
        obtain ⟨o, ho, rfl⟩ := hB_ix hz
        obtain ⟨n, hn, rfl⟩ := inB_99 hy
        have hto : tB (σ 1 0) (nI o) = true := by rw [← hB_nI ho]; exact hz
        obtain ⟨s, g0, g1, g2, g3, g4, g5, g6⟩ := q_bring (k := 1) (c := c) (o := o) (n := n) (σ := σ) hc
        have e100 : s 100 = σ 100 := g6 100 (by omega)
        obtain ⟨t, t0, t1, t2, t3, t4, t5, t6⟩ := q_coatM (c := c) (o := o) (n := n) (σ := s) hc ho hn (by rw [e100, a1]; exact hto)
        obtain ⟨m', hm', em'⟩ := or_mask hm hc
        refine ⟨bcI (s 1 1), s, t, by rw [g0]; simp only [p_cV, q_bitCount, p_cI], ?_, ?_⟩
        · rw [t0, e100, a2, g1, upd_s, em, em', bc_bt hm']
        · have r1 : t 1 = upd (σ 1) 1 (σ 1 1 ||| jsl 1 (nI c)) := by rw [t6 1 (by omega), g1]
          have r2 : ∀ p, p < 5 → t 2 p = if σ 2 p = nI c then -1 else σ 2 p := fun p hp => by rw [t6 2 (by omega)]; exact g2 p hp
          have r8 : t 8 = upd (σ 8) c (nI n) := by rw [t6 8 (by omega)]; exact g3
          have r9 : t 9 = upd (σ 9) c (nI o) := by rw [t6 9 (by omega)]; exact g4
          have r10 : t 10 = upd (σ 10) c 0 := by rw [t6 10 (by omega)]; exact g5 9 (by omega) (by omega)
          have r11 : t 11 = upd (σ 11) c 0 := by rw [t6 11 (by omega)]; exact g5 10 (by omega) (by omega)
          have r12 : t 12 = upd (σ 12) c 0 := by rw [t6 12 (by omega)]; exact g5 11 (by omega) (by omega)
          have ro : ∀ x, (3 ≤ x ∧ x ≤ 7) ∨ (12 < x ∧ x < 100) ∨ 107 ≤ x → t x = σ x := fun x h => by rw [t6 x (by omega)]; exact g6 x (by omega)
          have s100 : t 100 = upd (σ 100) 1 (σ 1 1 ||| jsl 1 (nI c)) := by rw [t1, e100, a2]
          have s106 : ∀ p, p < 5 → t 106 p = if σ 106 p = nI c then 5 else σ 106 p := fun p hp => by rw [t2 p hp, g6 106 (by omega)]
          have sj : ∀ j, 103 ≤ j → j ≤ 105 → t j = upd (σ j) c 0 := fun j h1 h2 => by rw [t5 j h1 h2, g6 j (by omega)]
          have s101 : t 101 = upd (σ 101) c (nI n) := by rw [t3, g6 101 (by omega)]
          have s102 : t 102 = upd (σ 102) c (nI o) := by rw [t4, g6 102 (by omega)]
          have tor : ∀ j, j < 5 → tB (σ 1 1 ||| jsl 1 (nI c)) (nI j) = (tB (σ 1 1) (nI j) || decide (j = c)) := fun j hj => by rw [em]; exact tB_or hm hc hj
          have u0 : t 1 0 = σ 1 0 := by rw [r1]; exact upd_n (by decide)
          have u1 : t 1 1 = σ 1 1 ||| jsl 1 (nI c) := by rw [r1]; exact upd_s
          have u2 : t 1 2 = σ 1 2 := by rw [r1]; exact upd_n (by decide)
          have u3 : t 1 3 = σ 1 3 := by rw [r1]; exact upd_n (by decide)
          refine ⟨?_, ?_, w3.ext (ro 58 (by omega)) (ro 59 (by omega)) (ro 113 (by omega)) (by rw [s100]; exact upd_n (by decide)), w4.ext (ro 121 (by omega)) (ro 122 (by omega)) (fun x c1 c2 => ro x (by omega))⟩
          · unfold Wf
            simp only [Nat.reduceAdd]
            rw [u0, u1, u3, r8, r9, r10, r11, r12, ro 14 (by omega)]
            have split : ∀ {Q : Nat → Int32 → Prop} {f : Nat → Int32} {v : Int32}, Q c v → (∀ d, d < 5 → Q d (f d)) → ∀ d, d < 5 → Q d (upd f c v d) := fun {Q f v} h1 h2 d hd => by
              by_cases e : d = c
              · subst e; rw [upd_s]; exact h1
              · rw [upd_n e]; exact h2 d hd
            refine ⟨v1, ⟨m', hm', by rw [em, em']⟩, v3, fun q hq => ?_, ?_, split (Q := fun d v => ∃ n, n < 100 ∧ v = nI n) ⟨n, hn, rfl⟩ v6, split (Q := fun d v => ∃ n, n < 100 ∧ v = nI n) ⟨0, by omega, rfl⟩ v7, split (Q := fun d v => ∃ n, n ≤ 10 ∧ v = nI n) ⟨0, by omega, rfl⟩ v8, split (Q := fun d v => v = 0 ∨ v = 1) (Or.inl rfl) v9, fun d hd => ?_, v11⟩
            · rw [r2 q hq]
              by_cases e : σ 2 q = nI c
              · simp [e]
              · simp only [e, if_false]
                rcases v4 q hq with h | ⟨d, h1, h2, h3, h4⟩
                · exact Or.inl h
                · exact Or.inr ⟨d, h1, h2, by rw [tor d h1, h3]; rfl, h4⟩
            · intro d hd
              by_cases e : d = c
              · subst e; rw [upd_s]; exact ⟨o, ho, rfl, fun _ => hto⟩
              · rw [upd_n e]
                obtain ⟨o', h1, h2, h3⟩ := v5 d hd
                exact ⟨o', h1, h2, fun h => h3 (by rw [tor d hd] at h; simpa [e] using h)⟩
            · by_cases e : d = c
              · subst e
                have : cn5 (fun i => decide (t 2 i = nI d)) = cn5 (fun _ => false) := cn5_cong (fun i hi => by
                  rw [r2 i hi]
                  by_cases q : σ 2 i = nI d
                  · simp [q, m1_c hd]
                  · simp [q])
                rw [this]
                have : cn5 (fun _ => false) = 0 := rfl
                omega
              · rw [upd_n e]
                have : cn5 (fun i => decide (t 2 i = nI d)) = cn5 (fun i => decide (σ 2 i = nI d)) := cn5_cong (fun i hi => by
                  rw [r2 i hi]
                  by_cases q : σ 2 i = nI c
                  · have : ¬ nI c = nI d := fun h => e ((nI_inj5 hc hd).mp h).symm
                    simp [q, m1_c hd, this]
                  · simp [q])
                rw [this]; exact v10 d hd
          · refine ⟨by rw [s100, u0, upd_n (by decide)]; exact a1, by rw [s100, u1]; exact upd_s, by rw [s100, u2, upd_n (by decide)]; exact a3, by rw [s100, u3, upd_n (by decide)]; exact a4, fun r hr => ?_, fun r hr => by rw [ro 112 (by omega), ro 13 (by omega), ro 14 (by omega)]; exact a6 r hr⟩
            obtain ⟨b1, b2, b3, b4, b5, b6, b7, b8, b9, b10, b11⟩ := a5 r hr
            rw [s106 r hr, r2 r hr, mc_if hc, b1, ro 107 (by omega), ro 108 (by omega), ro 109 (by omega), ro 110 (by omega), ro 111 (by omega), ro 3 (by omega), ro 4 (by omega), ro 5 (by omega), ro 6 (by omega), ro 7 (by omega), s101, s102, sj 103 (by omega) (by omega), sj 104 (by omega) (by omega), sj 105 (by omega) (by omega), r8, r9, r10, r11, r12]
            by_cases e : r = c
            · subst e
              simp only [upd_s, b2, b3, b4, b5, b6, and_self]
            · simp only [upd_n e, b2, b3, b4, b5, b6, b7, b8, b9, b10, b11, and_self]
