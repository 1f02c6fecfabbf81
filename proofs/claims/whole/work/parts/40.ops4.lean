theorem wear_eq {σ : Sg} (w1 : Wf σ 1) (w2 : RlM σ) {c : Nat} (hc : c < 5) : mk5 (fun i => tB (σ 100 0) (nI i) && decide (σ 106 i = nI c)) = mk5 (fun i => decide (σ 2 i = nI c)) := by
  refine mk5_cong (fun i hi => ?_)
  rw [w2.1, (w2.2.2.2.2.1 i hi).1]
  by_cases h : σ 2 i = nI c
  · have h1 : mc (σ 2 i) = nI c := (mc_c hc).mpr h
    rcases w1.2.2.2.1 i hi with h2 | ⟨d, -, -, -, h3⟩
    · have h2' : σ 2 i = -1 := h2
      rw [h] at h2'; exact absurd h2'.symm (m1_c hc)
    · simp [h, (mc_c hc).mpr rfl, h3]
  · have h1 : ¬ mc (σ 2 i) = nI c := fun q => h ((mc_c hc).mp q)
    simp [h, h1]
theorem inv_trait {σ : Sg} {a b c : Nat} {v : Int32} (hI : Inv σ) (hc : c < 5) (hab : (a = 10 ∧ b = 103 ∧ ∃ n, n < 100 ∧ v = nI n) ∨ (a = 11 ∧ b = 104 ∧ ∃ n, n ≤ 10 ∧ v = nI n) ∨ (a = 12 ∧ b = 105 ∧ (v = 1 ∨ (v = 0 ∧ cn5 (fun i => decide (σ 2 i = nI c)) ≤ 1)))) : Inv (k_up (k_up σ a c v) b c v) := by
  obtain ⟨w1, w2, w3, w4⟩ := hI
  have hab' : (a = 10 ∧ b = 103) ∨ (a = 11 ∧ b = 104) ∨ (a = 12 ∧ b = 105) := by
    rcases hab with ⟨h1, h2, -⟩ | ⟨h1, h2, -⟩ | ⟨h1, h2, -⟩ <;> omega
  refine ⟨?_, ?_, w3.ext (by simp [k_up, show 58 ≠ a by omega, show 58 ≠ b by omega]) (by simp [k_up, show 59 ≠ a by omega, show 59 ≠ b by omega]) (by simp [k_up, show 113 ≠ a by omega, show 113 ≠ b by omega]) (by simp [k_up, show 100 ≠ a by omega, show 100 ≠ b by omega]), w4.ext (by simp [k_up, show 121 ≠ a by omega, show 121 ≠ b by omega]) (by simp [k_up, show 122 ≠ a by omega, show 122 ≠ b by omega]) (fun c c1 c2 => by simp [k_up, show c ≠ a by omega, show c ≠ b by omega])⟩
  · obtain ⟨v1, v2, v3, v4, v5, v6, v7, v8, v9, v10, v11⟩ := w1
    have split : ∀ {Q : Nat → Int32 → Prop} {f : Nat → Int32} {v : Int32}, Q c v → (∀ d, d < 5 → Q d (f d)) → ∀ d, d < 5 → Q d (upd f c v d) := fun {Q f v} h1 h2 d hd => by
      by_cases e : d = c
      · subst e; rw [upd_s]; exact h1
      · rw [upd_n e]; exact h2 d hd
    unfold Wf
    rcases hab with ⟨rfl, rfl, hv⟩ | ⟨rfl, rfl, hv⟩ | ⟨rfl, rfl, hv⟩
    · have e : ∀ x, x ≠ 10 → x ≠ 103 → k_up (k_up σ 10 c v) 103 c v x = σ x := fun x h1 h2 => by simp [k_up, h1, h2]
      have e10 : k_up (k_up σ 10 c v) 103 c v 10 = upd (σ 10) c v := by simp [k_up]
      simp only [Nat.reduceAdd]
      rw [e 1 (by decide) (by decide), e 2 (by decide) (by decide), e 8 (by decide) (by decide), e 9 (by decide) (by decide), e10, e 11 (by decide) (by decide), e 12 (by decide) (by decide), e 14 (by decide) (by decide)]
      exact ⟨v1, v2, v3, v4, v5, v6, split (Q := fun d v => ∃ n, n < 100 ∧ v = nI n) hv v7, v8, v9, v10, v11⟩
    · have e : ∀ x, x ≠ 11 → x ≠ 104 → k_up (k_up σ 11 c v) 104 c v x = σ x := fun x h1 h2 => by simp [k_up, h1, h2]
      have e10 : k_up (k_up σ 11 c v) 104 c v 11 = upd (σ 11) c v := by simp [k_up]
      simp only [Nat.reduceAdd]
      rw [e 1 (by decide) (by decide), e 2 (by decide) (by decide), e 8 (by decide) (by decide), e 9 (by decide) (by decide), e 10 (by decide) (by decide), e10, e 12 (by decide) (by decide), e 14 (by decide) (by decide)]
      exact ⟨v1, v2, v3, v4, v5, v6, v7, split (Q := fun d v => ∃ n, n ≤ 10 ∧ v = nI n) hv v8, v9, v10, v11⟩
    · have e : ∀ x, x ≠ 12 → x ≠ 105 → k_up (k_up σ 12 c v) 105 c v x = σ x := fun x h1 h2 => by simp [k_up, h1, h2]
      have e10 : k_up (k_up σ 12 c v) 105 c v 12 = upd (σ 12) c v := by simp [k_up]
      simp only [Nat.reduceAdd]
      rw [e 1 (by decide) (by decide), e 2 (by decide) (by decide), e 8 (by decide) (by decide), e 9 (by decide) (by decide), e 10 (by decide) (by decide), e 11 (by decide) (by decide), e10, e 14 (by decide) (by decide)]
      refine ⟨v1, v2, v3, v4, v5, v6, v7, v8, split (Q := fun d v => v = 0 ∨ v = 1) (hv.elim Or.inr (fun h => Or.inl h.1)) v9, ?_, v11⟩
      have h10 : ¬ (0 : Int32) = 1 := by decide
      refine split (Q := fun d v => cn5 (fun i => decide (σ 2 i = nI d)) ≤ 1 + (if v = 1 then 1 else 0)) ?_ v10
      rcases hv with rfl | ⟨rfl, h⟩
      · have := v10 c hc
        have h2 : cn5 (fun i => decide (σ 2 i = nI c)) ≤ 1 + (if σ 12 c = 1 then 1 else 0) := this
        simp only [if_true]
        split at h2 <;> omega
      · simpa [h10] using h
  · obtain ⟨a1, a2, a3, a4, a5, a6⟩ := w2
    have key : ∀ x y : Nat, x ≠ a → x ≠ b → k_up (k_up σ a c v) b c v x y = σ x y := fun x y h1 h2 => by simp [k_up, h1, h2]
    refine ⟨?_, ?_, ?_, ?_, fun r hr => ?_, fun r hr => ?_⟩
    · rw [key _ _ (by omega) (by omega), key _ _ (by omega) (by omega)]; exact a1
    · rw [key _ _ (by omega) (by omega), key _ _ (by omega) (by omega)]; exact a2
    · rw [key _ _ (by omega) (by omega), key _ _ (by omega) (by omega)]; exact a3
    · rw [key _ _ (by omega) (by omega), key _ _ (by omega) (by omega)]; exact a4
    · obtain ⟨b1, b2, b3, b4, b5, b6, b7, b8, b9, b10, b11⟩ := a5 r hr
      by_cases e : r = c
      · subst e
        rcases hab' with ⟨rfl, rfl⟩ | ⟨rfl, rfl⟩ | ⟨rfl, rfl⟩ <;> simp [k_up, upd, b1, b2, b3, b4, b5, b6, b7, b8, b9, b10, b11]
      · rcases hab' with ⟨rfl, rfl⟩ | ⟨rfl, rfl⟩ | ⟨rfl, rfl⟩ <;> simp [k_up, upd, e, b1, b2, b3, b4, b5, b6, b7, b8, b9, b10, b11]
    · rw [key _ _ (by omega) (by omega), key _ _ (by omega) (by omega), key _ _ (by omega) (by omega), key _ _ (by omega) (by omega)]; exact a6 r hr
theorem cn_le1 {n : Nat} (h : n ≤ 2) : (nI n ≤ 1) ↔ ¬ (nI n = 2) := by
  have : n = 0 ∨ n = 1 ∨ n = 2 := by omega
  rcases this with rfl | rfl | rfl <;> decide
theorem cn_le1' {n : Nat} (h : n ≤ 2) : (nI n ≤ 1) ↔ n ≤ 1 := by
  have : n = 0 ∨ n = 1 ∨ n = 2 := by omega
  rcases this with rfl | rfl | rfl <;> decide
theorem op_set (x y z : Int32) : SimI (m_X6_set x y z) (m_X7_set x y z) := by
  intro σ hI
  obtain ⟨w1, w2, w3, w4⟩ := id hI
  obtain ⟨a1, a2, a3, a4, a5, a6⟩ := id w2
  unfold m_X6_set m_X7_set
  simp only [q_hasCoat, q_isCoat, p_cI, p_ifz, q_within, q_in, m_X6_mostOfTrait]
  cases hx : hB (σ 1 1) x
  · exact ⟨_, _, σ, rfl, by simp [a2, hx], hI⟩
  · obtain ⟨c, hc, rfl⟩ := hB_ix hx
    have h10 : ¬ (1 : Int32) = 0 := by decide
    have h20 : ¬ (2 : Int32) = 0 := by decide
    have h21 : ¬ (2 : Int32) = 1 := by decide
    have h02 : ¬ (0 : Int32) = 2 := by decide
    have h12 : ¬ (1 : Int32) = 2 := by decide
    by_cases y0 : y = 0
    · subst y0
      have e1 : inB 0 0 2 = true := by decide
      simp only [e1, if_true, p_cI, q_within, p_ifz, h02, if_false]
      cases hz : inB z 0 99
      · refine ⟨-2, σ, σ, by simp, ?_, hI⟩
        simp [a2, hx, b_X7_set_58, zI]
      · refine ⟨σ 10 c, k_up σ 10 c z, k_up (k_up σ 10 c z) 103 c z, ?_, ?_, inv_trait hI hc (Or.inl ⟨rfl, rfl, inB_99 hz⟩)⟩
        · simp only [if_true, b_X6_set_62, m_X4_trait, p_cR, Nat.reduceAdd, p_gd (arr_of ka_10).1, (arr_of ka_10).2, p_gd (in5 hc), p_wr (in5 hc), p_lt, ix5 hc]
        · have q : k_up σ 10 c z 100 1 = σ 1 1 := by simp [k_up, a2]
          simp only [q, hx, if_true, b_X7_set_58, zI_t, h10, h02, if_false, b_X7_set_92, b_X7_set_125, p_gd (in5 hc), p_wr (in5 hc), ix5 hc]
          congr 1
          refine Prod.ext ?_ rfl
          simp [k_up]; exact (a5 c hc).2.2.2.2.2.2.2.2.1
    · by_cases y1 : y = 1
      · subst y1
        have e1 : inB 1 0 2 = true := by decide
        simp only [e1, if_true, p_cI, q_within, p_ifz, h10, h12, if_false]
        cases hz : inB z 0 10
        · refine ⟨-2, σ, σ, by simp, ?_, hI⟩
          simp [a2, hx, b_X7_set_58, zI]
        · have hv : ∃ n, n ≤ 10 ∧ z = nI n := inB_ix (n := 10) (by decide) hz
          refine ⟨σ 11 c, k_up σ 11 c z, k_up (k_up σ 11 c z) 104 c z, ?_, ?_, inv_trait hI hc (Or.inr (Or.inl ⟨rfl, rfl, hv⟩))⟩
          · simp only [if_true, b_X6_set_62, m_X4_trait, h10, if_false, p_cR, Nat.reduceAdd, p_gd (arr_of ka_11).1, (arr_of ka_11).2, p_gd (in5 hc), p_wr (in5 hc), p_lt, ix5 hc]
          · have q : k_up σ 11 c z 100 1 = σ 1 1 := by simp [k_up, a2]
            simp only [q, hx, if_true, b_X7_set_58, zI_t, h10, h12, if_false, b_X7_set_92, b_X7_set_125, p_gd (in5 hc), p_wr (in5 hc), ix5 hc]
            congr 1
            refine Prod.ext ?_ rfl
            simp [k_up]; exact (a5 c hc).2.2.2.2.2.2.2.2.2.1
      · by_cases y2 : y = 2
        · subst y2
          have e1 : inB 2 0 2 = true := by decide
          simp only [e1, if_true, p_cI, q_within, p_ifz, h20, h21, if_false]
          cases hz : inB z 0 1
          · refine ⟨-2, σ, σ, by simp, ?_, hI⟩
            simp [a2, hx, b_X7_set_57, b_X7_set_58]
          · have main : ∀ s : Sg, s = σ → (z = 1 ∨ (z = 0 ∧ cn5 (fun i => decide (σ 2 i = nI c)) ≤ 1)) → b_X6_set_62 (nI c) 2 z s = some (σ 12 c, k_up σ 12 c z) ∧ b_X7_set_92 (nI c) 2 z (k_up σ 12 c z) = some (σ 12 c, k_up (k_up σ 12 c z) 105 c z) ∧ Inv (k_up (k_up σ 12 c z) 105 c z) := by
              rintro s rfl hv
              refine ⟨?_, ?_, inv_trait hI hc (Or.inr (Or.inr ⟨rfl, rfl, hv⟩))⟩
              · simp only [b_X6_set_62, m_X4_trait, h20, h21, if_false, p_cR, Nat.reduceAdd, p_gd (arr_of ka_12).1, (arr_of ka_12).2, p_gd (in5 hc), p_wr (in5 hc), p_lt, ix5 hc]
              · simp only [b_X7_set_92, b_X7_set_125, h20, h21, if_false, p_gd (in5 hc), p_wr (in5 hc), ix5 hc]
                congr 1
                refine Prod.ext ?_ rfl
                simp [k_up]; exact (a5 c hc).2.2.2.2.2.2.2.2.2.2
            rcases inB_1.mp hz with rfl | rfl
            · simp only [if_true, q_wearers, p_cI, q_bitCount, bc_mk5, Nat.reduceAdd]
              have hle : cn5 (fun i => decide (σ 2 i = nI c)) ≤ 2 := by
                have : cn5 (fun i => decide (σ 2 i = nI c)) ≤ 1 + (if σ 12 c = 1 then 1 else 0) := w1.2.2.2.2.2.2.2.2.2.1 c hc
                split at this <;> omega
              by_cases h1 : cn5 (fun i => decide (σ 2 i = nI c)) ≤ 1
              · obtain ⟨m1, m2, m3⟩ := main σ rfl (Or.inr ⟨rfl, h1⟩)
                have hle1 : nI (cn5 (fun i => decide (σ 2 i = nI c))) ≤ 1 := (cn_le1' hle).mpr h1
                refine ⟨σ 12 c, k_up σ 12 c 0, _, by simp only [hle1, if_true]; exact m1, ?_, m3⟩
                have q : k_up σ 12 c 0 100 1 = σ 1 1 := by simp [k_up, a2]
                have q1 : k_up σ 12 c 0 100 0 = σ 100 0 := by simp [k_up]
                have q2 : k_up σ 12 c 0 106 = σ 106 := by simp [k_up]
                have hne : ¬ nI (cn5 (fun i => decide (σ 2 i = nI c))) = 2 := (cn_le1 hle).mp hle1
                simp only [q, hx, if_true, b_X7_set_58, h10, if_false, q_wearersM, q1, q2, wear_eq w1 w2 hc, p_cI, q_bits, bt_mk5, hne]
                exact m2
              · have hle1 : ¬ nI (cn5 (fun i => decide (σ 2 i = nI c))) ≤ 1 := fun q => h1 ((cn_le1' hle).mp q)
                have heq : nI (cn5 (fun i => decide (σ 2 i = nI c))) = 2 := Classical.byContradiction (fun q => hle1 ((cn_le1 hle).mpr q))
                refine ⟨-3, σ, σ, by simp only [hle1, if_false], ?_, hI⟩
                simp only [a2, hx, if_true, b_X7_set_58, h10, if_false, q_wearersM, wear_eq w1 w2 hc, p_cI, q_bits, bt_mk5, heq]
            · obtain ⟨m1, m2, m3⟩ := main σ rfl (Or.inl rfl)
              refine ⟨σ 12 c, k_up σ 12 c 1, _, by simp only [if_true, h10, if_false]; exact m1, ?_, m3⟩
              have q : k_up σ 12 c 1 100 1 = σ 1 1 := by simp [k_up, a2]
              simp only [q, hx, if_true, b_X7_set_58, h10, if_false]
              exact m2
        · have e1 : inB y 0 2 = false := inB_f (fun h => by rcases inB_2.mp h with h | h | h; exact y0 h; exact y1 h; exact y2 h)
          refine ⟨-2, σ, σ, by simp [e1], ?_, hI⟩
          simp [a2, hx, y0, y1, y2, b_X7_set_57, b_X7_set_58]
theorem s_isSeat {x : Int32} {σ : Sg} : m_X6_isSeat x σ = some (zI (inB x 0 4), σ) := by
  unfold m_X6_isSeat
  simp only [q_within, p_cI, p_rzz]
theorem op_seen (x y : Int32) : SimI (m_X6_seen x y) (m_X7_seen x y) := by
  intro σ hI
  obtain ⟨w1, w2, w3, w4⟩ := id hI
  obtain ⟨a1, a2, a3, a4, a5, a6⟩ := id w2
  obtain ⟨v1, v2, ⟨n, hn, en⟩, v4, v5, v6, v7, v8, v9, v10, v11⟩ := id w1
  unfold m_X6_seen m_X7_seen
  simp only [q_within, q_in, s_isSeat, p_cI, p_ifz]
  cases hx : inB x 0 4
  · exact ⟨_, _, σ, rfl, by simp, hI⟩
  · simp only [if_true]
    cases hy : inB y 0 4
    · exact ⟨_, _, σ, rfl, by simp, hI⟩
    · simp only [if_true, m_X4_addSight, q_within, p_cI, p_ifz, Nat.reduceAdd]
      by_cases h6 : n = 6
      · subst h6
        have hf : inB (nI 6) 0 5 = false := by decide
        refine ⟨-4, σ, σ, by simp [en, hf, p_rz0, p_cI], ?_, hI⟩
        have : (nI 6 : Int32) = 6 := rfl
        simp [a4, en, this]
      · have hn' : n < 6 := by omega
        have ht : inB (nI n) 0 5 = true := by
          unfold inB
          exact decide_eq_true ⟨nI_pos' (by omega), by have := nI_le (a := n) (b := 5) (by omega) (by decide); exact this⟩
        have hne : ¬ (nI n = 6) := by
          intro h
          have := (nI_eq (a := n) (b := 6) (by omega) (by decide)).mp h
          omega
        have h10 : ¬ (1 : Int32) = 0 := by decide
        obtain ⟨yy, hy4, rfl⟩ := inB_ix (n := 4) (by decide) hy
        have d2 : (2 : Int32) * nI n = nI (2 * n) := pk_mul 2 n
        have i1 : k_in (nI (2 * n)) 12 = true := x_in (by omega) (by decide)
        have i2 : k_in (nI (2 * n + 1)) 12 = true := x_in (by omega) (by decide)
        have j1 : Int32.toNatClampNeg (nI (2 * n)) = 2 * n := x_ix (by omega)
        have j2 : Int32.toNatClampNeg (nI (2 * n + 1)) = 2 * n + 1 := x_ix (by omega)
        refine ⟨nI (n + 1), k_up (k_up (k_up σ 13 n x) 14 n (nI yy)) 1 3 (nI (n + 1)), k_up (k_up (k_up (k_up (k_up (k_up σ 13 n x) 14 n (nI yy)) 1 3 (nI (n + 1))) 112 (2 * n) x) 112 (2 * n + 1) (nI yy)) 100 14 (nI (n + 1)), ?_, ?_, ?_⟩
        · simp only [en, ht, if_true, p_wr (in6 hn'), ix6 hn']
          have q1 : k_up σ 13 n x 1 3 = nI n := by simp [k_up, en]
          have q2 : k_up (k_up σ 13 n x) 14 n (nI yy) 1 3 = nI n := by simp [k_up, en]
          simp only [q1, p_wr (in6 hn'), ix6 hn', q2, p_lt, x_s, p_rz1, p_cI, h10, if_false]
          simp [k_up, upd]
        · have q1 : k_up (k_up (k_up σ 13 n x) 14 n (nI yy)) 1 3 (nI (n + 1)) 100 14 = nI n := by simp [k_up, a4, en]
          simp only [q1, hne, if_false, d2, p_wr i1, j1]
          have q2 : k_up (k_up (k_up (k_up σ 13 n x) 14 n (nI yy)) 1 3 (nI (n + 1))) 112 (2 * n) x 100 14 = nI n := by simp [k_up, a4, en]
          simp only [q2, d2, x_s, p_wr i2, j2, p_lt]
          have q3 : k_up (k_up (k_up (k_up (k_up σ 13 n x) 14 n (nI yy)) 1 3 (nI (n + 1))) 112 (2 * n) x) 112 (2 * n + 1) (nI yy) 100 14 = nI n := by simp [k_up, a4, en]
          simp only [q3, x_s]
          simp [k_up, upd]
        · refine ⟨?_, ?_, w3.ext (by simp [k_up]) (by simp [k_up]) (by simp [k_up]) (by simp [k_up, upd]), w4.ext (by simp [k_up]) (by simp [k_up]) (fun c c1 c2 => by simp [k_up, show c ≠ 100 by omega, show c ≠ 1 by omega, show c ≠ 112 by omega, show c ≠ 13 by omega, show c ≠ 14 by omega])⟩
          · have e : ∀ z, z ≠ 1 → z ≠ 13 → z ≠ 14 → z < 100 → k_up (k_up (k_up (k_up (k_up (k_up σ 13 n x) 14 n (nI yy)) 1 3 (nI (n + 1))) 112 (2 * n) x) 112 (2 * n + 1) (nI yy)) 100 14 (nI (n + 1)) z = σ z := fun z h1 h2 h3 h4 => by simp [k_up, h1, h2, h3, show z ≠ 112 by omega, show z ≠ 100 by omega]
            have e1 : k_up (k_up (k_up (k_up (k_up (k_up σ 13 n x) 14 n (nI yy)) 1 3 (nI (n + 1))) 112 (2 * n) x) 112 (2 * n + 1) (nI yy)) 100 14 (nI (n + 1)) 1 = upd (σ 1) 3 (nI (n + 1)) := by simp [k_up]
            have e14 : k_up (k_up (k_up (k_up (k_up (k_up σ 13 n x) 14 n (nI yy)) 1 3 (nI (n + 1))) 112 (2 * n) x) 112 (2 * n + 1) (nI yy)) 100 14 (nI (n + 1)) 14 = upd (σ 14) n (nI yy) := by simp [k_up]
            unfold Wf
            simp only [Nat.reduceAdd]
            rw [e1, e 2 (by decide) (by decide) (by decide) (by decide), e 8 (by decide) (by decide) (by decide) (by decide), e 9 (by decide) (by decide) (by decide) (by decide), e 10 (by decide) (by decide) (by decide) (by decide), e 11 (by decide) (by decide) (by decide) (by decide), e 12 (by decide) (by decide) (by decide) (by decide), e14, upd_n (show (0 : Nat) ≠ 3 by decide), upd_n (show (1 : Nat) ≠ 3 by decide), upd_s]
            refine ⟨v1, v2, ⟨n + 1, by omega, rfl⟩, v4, v5, v6, v7, v8, v9, v10, fun r hr => ?_⟩
            by_cases er : r = n
            · subst er; rw [upd_s]; exact ⟨yy, by omega, rfl⟩
            · rw [upd_n er]; exact v11 r hr
          · refine ⟨by simpa [k_up, upd] using a1, by simpa [k_up, upd] using a2, by simpa [k_up, upd] using a3, by simp [k_up, upd], fun r hr => by simpa [k_up] using a5 r hr, fun r hr => ?_⟩
            obtain ⟨b1, b2⟩ := a6 r hr
            by_cases er : r = n
            · subst er
              simp [k_up, upd]
            · have e112 : k_up (k_up (k_up (k_up (k_up (k_up σ 13 n x) 14 n (nI yy)) 1 3 (nI (n + 1))) 112 (2 * n) x) 112 (2 * n + 1) (nI yy)) 100 14 (nI (n + 1)) 112 = upd (upd (σ 112) (2 * n) x) (2 * n + 1) (nI yy) := by simp [k_up]
              have e13 : k_up (k_up (k_up (k_up (k_up (k_up σ 13 n x) 14 n (nI yy)) 1 3 (nI (n + 1))) 112 (2 * n) x) 112 (2 * n + 1) (nI yy)) 100 14 (nI (n + 1)) 13 = upd (σ 13) n x := by simp [k_up]
              have e14 : k_up (k_up (k_up (k_up (k_up (k_up σ 13 n x) 14 n (nI yy)) 1 3 (nI (n + 1))) 112 (2 * n) x) 112 (2 * n + 1) (nI yy)) 100 14 (nI (n + 1)) 14 = upd (σ 14) n (nI yy) := by simp [k_up]
              rw [e112, e13, e14, upd_n (show 2 * r ≠ 2 * n + 1 by omega), upd_n (show 2 * r ≠ 2 * n by omega), upd_n (show 2 * r + 1 ≠ 2 * n + 1 by omega), upd_n (show 2 * r + 1 ≠ 2 * n by omega), upd_n er, upd_n er]
              exact ⟨b1, b2⟩
