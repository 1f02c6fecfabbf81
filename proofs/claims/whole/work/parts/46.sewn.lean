theorem ltS {a b : Nat} (ha : a ≤ 5) (hb : b ≤ 5) : (nI a < nI b) ↔ a < b := nI_ltI (by omega) (by omega)
/-- the least number from 0 on that it holds of, below m; else -6 -/
def lst (T : Nat → Prop) (m : Nat) (r : Int32) : Prop := (∃ i, i < m ∧ r = nI i ∧ T i ∧ ∀ k, k < i → ¬ T k) ∨ (r = -6 ∧ ∀ i, i < m → ¬ T i)
theorem lst_one {T : Nat → Prop} {m : Nat} {r r' : Int32} (h : lst T m r) (h' : lst T m r') : r = r' := by
  rcases h with ⟨i, h1, rfl, h2, h3⟩ | ⟨rfl, h1⟩
  · rcases h' with ⟨j, k1, rfl, k2, k3⟩ | ⟨rfl, k1⟩
    · rcases Nat.lt_trichotomy i j with q | q | q
      · exact absurd h2 (k3 i q)
      · rw [q]
      · exact absurd k2 (h3 j q)
    · exact absurd h2 (k1 i h1)
  · rcases h' with ⟨j, k1, rfl, k2, k3⟩ | ⟨rfl, k1⟩
    · exact absurd k2 (h1 j k1)
    · rfl
theorem op_sewn (x y : Int32) : SimI (m_X6_sewn x y) (m_X7_sewn x y) := by
  intro σ hI
  obtain ⟨w1, w2, w3, w4⟩ := id hI
  obtain ⟨a1, a2, a3, a4, a5, a6⟩ := id w2
  unfold m_X6_sewn m_X7_sewn
  simp only [q_hasPerson, q_isThere, s_isSeat, q_in, p_cI, p_ifz]
  cases hx : hB (σ 1 0) x
  · exact ⟨_, _, σ, rfl, by simp [a1, hx], hI⟩
  · obtain ⟨p, hp, rfl⟩ := hB_ix hx
    have tp : tB (σ 1 0) (nI p) = true := by rw [← hB_nI hp]; exact hx
    simp only [if_true]
    cases hy : inB y 0 4
    · exact ⟨_, _, σ, rfl, by simp [a1, hx], hI⟩
    · obtain ⟨j, hj, rfl⟩ := inB_ix (n := 4) (by decide) hy
      simp only [if_true, p_gd (in5 hp), ix5 hp, p_lt, q_hasCoat, p_cI, p_ifz]
      rcases w1.2.2.2.1 p hp with e | ⟨c, hc, e, tc, -⟩
      · have e' : σ 2 p = -1 := e
        have hf : hB (σ 1 1) (-1) = false := by
          unfold hB
          have : inB (-1) 0 4 = false := by decide
          rw [this]; rfl
        obtain ⟨t, t1, t2⟩ := q_asNow (σ := σ)
        refine ⟨-6, σ, t, by simp [e', hf], ?_, hI.ps t2.ps⟩
        have o : t 106 p = 5 := by rw [t2.1 106 (by omega), (a5 p hp).1, e']; rfl
        simp only [a1, hx, if_true, t1, p_cV, o]
      · have e' : σ 2 p = nI c := e
        obtain ⟨n, hn, en⟩ := w1.2.2.2.2.2.1 c hc
        have en' : σ 8 c = nI n := en
        let T : Nat → Prop := fun i => seatW (σ 1 0) (σ 1 2) (upd (σ 8) c (nI (n + i))) (σ 12) (σ 2) p ≤ j
        obtain ⟨s, g0, g1⟩ := q_become (a := 15) (b := 1) (σ := σ) (by omega)
        have es8 : s 8 c = nI n := by rw [g1.cS 8 (by omega)]; exact en'
        have tcc : hB (σ 1 1) (nI c) = true := by rw [hB_nI hc]; exact tc
        have hC : ∃ r u, e_lp2 (d_X6_sewn_69 (nI p) (nI j) (fun σ13 => some (-6, σ13))) e_F (nI c) (nI n) s = some (r, u) ∧ lst T (100 - n) r ∧ cS σ u := by
          refine lp2_wp (fun o => ∃ r u, o = some (r, u) ∧ lst T (100 - n) r ∧ cS σ u) (fun i a u => n ≤ i ∧ a = nI c ∧ cS σ u ∧ (∀ r, r < 4 → u 15 r = σ 1 r) ∧ (∀ j r, 1 ≤ j → j ≤ 11 → r < 5 → ¬ (j = 7 ∧ r = c) → u (15 + j) r = σ (1 + j) r) ∧ ∀ k, n + k < i → ¬ T k) 100 ?_ ?_ e_F n (nI c) s (by omega) (e_F_lt (by omega)) ⟨Nat.le_refl n, rfl, g1.cS, g1.tr.1, fun j r h1 h2 h3 _ => g1.tr.2 j r h1 h2 h3, fun k hk => by omega⟩
          · rintro H a u ⟨-, rfl, h1, h2, h3, h4⟩
            have l99 : (99 : Int32) < nI 100 := by decide
            simp only [d_X6_sewn_69, l99, if_true]
            exact ⟨-6, u, rfl, Or.inr ⟨rfl, fun i hi => h4 i (by omega)⟩, h1⟩
          · rintro H i a u hi ⟨hni, rfl, h1, h2, h3, h4⟩ kk
            have l99 : ¬ (99 : Int32) < nI i := fun q => by
              have := (nI_ltI (a := 99) (b := i) (by decide) (by omega)).mp q
              omega
            simp only [d_X6_sewn_69, l99, if_false, p_wr (in5 hc), ix5 hc, p_gd (in5 hc), x_s]
            have z : ∀ y, y ≠ 22 → k_up u 22 c (nI i) y = u y := fun y h => by rw [up_rw, rw1_ne h]
            have z22 : k_up u 22 c (nI i) 22 = upd (u 22) c (nI i) := by rw [up_rw, rw1_eq]
            obtain ⟨v, v1, v2⟩ := q_seatIn (k := 15) (σ := k_up u 22 c (nI i)) tw_15 hp (by rw [z 15 (by decide), h2 0 (by decide)]; exact tp)
            simp only [Nat.reduceAdd] at v1
            have eqv : seatW (k_up u 22 c (nI i) 15 0) (k_up u 22 c (nI i) 15 2) (k_up u 22 c (nI i) 22) (k_up u 22 c (nI i) 26) (k_up u 22 c (nI i) 16) p = seatW (σ 1 0) (σ 1 2) (upd (σ 8) c (nI (n + (i - n)))) (σ 12) (σ 2) p := by
              rw [z 15 (by decide), z22, z 26 (by decide), z 16 (by decide), h2 0 (by decide), h2 2 (by decide), show n + (i - n) = i by omega]
              refine seatW_cong hp (fun r hr => ?_) (fun r hr => h3 11 r (by decide) (by decide) hr (by omega)) (fun r hr => congrArg mc (h3 1 r (by decide) (by decide) hr (by omega)))
              by_cases e : r = c
              · subst e; rw [upd_s, upd_s]
              · rw [upd_n e, upd_n e]; exact h3 7 r (by decide) (by decide) hr (by omega)
            have c1 : cS σ v := (h1.up (k := 22) (by omega)).tr v2.cS
            simp only [v1, eqv, p_cI, ltS (show j ≤ 5 by omega) (seatW_le _ _ _ _ _ _), c1 8 (by omega), en']
            by_cases hT : j < seatW (σ 1 0) (σ 1 2) (upd (σ 8) c (nI (n + (i - n)))) (σ 12) (σ 2) p
            · simp only [hT, if_true]
              refine kk _ _ ⟨by omega, rfl, c1, fun r hr => ?_, fun j' r q1 q2 q3 q4 => ?_, fun k hk => ?_⟩
              · rw [v2 15 (by decide) (by decide) (by decide), z 15 (by decide)]; exact h2 r hr
              · rw [v2 (15 + j') (by omega) (by omega) (by omega)]
                by_cases e7 : j' = 7
                · subst e7
                  have : r ≠ c := fun e => q4 ⟨rfl, e⟩
                  show k_up u 22 c (nI i) 22 r = _
                  rw [z22, upd_n this]; exact h3 7 r q1 q2 q3 q4
                · rw [z (15 + j') (by omega)]; exact h3 j' r q1 q2 q3 q4
              · by_cases e : n + k = i
                · have : k = i - n := by omega
                  subst this
                  exact fun q => absurd hT (Nat.not_lt.mpr q)
                · exact h4 k (by omega)
            · simp only [hT, if_false]
              refine ⟨nI (i - n), v, ?_, Or.inl ⟨i - n, by omega, rfl, Nat.le_of_not_lt hT, fun k hk => h4 k (by omega)⟩, c1⟩
              rw [pk_sub hni]
        obtain ⟨r, u, u1, u2, u3⟩ := hC
        have hIu := hI.ps u3.ps
        obtain ⟨t, t1, t2⟩ := q_asNow (σ := u)
        have hIt := hIu.ps t2.ps
        have mt : mS u t := t2.mS
        have o : t 106 p = nI c := by rw [t2.1 106 (by omega), u3 106 (by omega), (a5 p hp).1, e']; exact (mc_c hc).mpr rfl
        have hM : ∃ r v, e_lp2 (d_X7_sewn_44 (nI p) (nI j) (fun σ10 => some (-6, σ10))) e_F (nI c) 0 t = some (r, v) ∧ lst T (100 - n) r ∧ mS u v := by
          obtain ⟨q1, q2, q3, q4⟩ := t2.nw hIu
          refine lp2_z (fun o => ∃ r v, o = some (r, v) ∧ lst T (100 - n) r ∧ mS u v) (fun i a v => a = nI c ∧ mS u v ∧ (v 100 0 = σ 1 0 ∧ v 100 23 = σ 1 2) ∧ (∀ r, r < 5 → v 114 r = mc (σ 2 r) ∧ (r ≠ c → v 118 r = σ 8 r)) ∧ ∀ k, k < i → ¬ T k) (100 - n) ?_ ?_ (e_F_lt (by omega)) ⟨rfl, mt, ⟨?_, ?_⟩, fun r hr => ⟨?_, fun _ => ?_⟩, fun k hk => by omega⟩
          · rintro H a v ⟨rfl, h1, h2, h3, h4⟩
            have e101 : v 101 c = nI n := by rw [h1.1 101 (by omega), u3 101 (by omega), (a5 c hc).2.2.2.2.2.2.1]; exact en'
            have l100 : (100 : Int32) ≤ nI n + nI (100 - n) := by
              rw [nI_add, show n + (100 - n) = 100 by omega]; decide
            simp only [d_X7_sewn_44, p_gd (in5 hc), ix5 hc, e101, l100, if_true]
            exact ⟨-6, v, rfl, Or.inr ⟨rfl, fun i hi => h4 i hi⟩, h1⟩
          · rintro H i a v hi ⟨rfl, h1, h2, h3, h4⟩ kk
            have e101 : v 101 c = nI n := by rw [h1.1 101 (by omega), u3 101 (by omega), (a5 c hc).2.2.2.2.2.2.1]; exact en'
            have l100 : ¬ (100 : Int32) ≤ nI (n + i) := fun q => by
              have := (nI_leI (a := 100) (b := n + i) (by decide) (by omega)).mp q
              omega
            simp only [d_X7_sewn_44, p_gd (in5 hc), ix5 hc, e101, nI_add, l100, if_false, p_wr (in5 hc), x_s]
            have z : ∀ y, y ≠ 118 → k_up v 118 c (nI (n + i)) y = v y := fun y h => by rw [up_rw, rw1_ne h]
            have z118 : k_up v 118 c (nI (n + i)) 118 = upd (v 118) c (nI (n + i)) := by rw [up_rw, rw1_eq]
            have seat := q_seatS (p := p) (σ := k_up v 118 c (nI (n + i))) (fun r hr => by
              rw [z 114 (by decide), (h3 r hr).1]; exact code_ok (wear_ok w1 r hr)) hp
            have eqv : seatW (k_up v 118 c (nI (n + i)) 100 0) (k_up v 118 c (nI (n + i)) 100 23) (k_up v 118 c (nI (n + i)) 118) (k_up v 118 c (nI (n + i)) 105) (k_up v 118 c (nI (n + i)) 114) p = seatW (σ 1 0) (σ 1 2) (upd (σ 8) c (nI (n + i))) (σ 12) (σ 2) p := by
              rw [z 100 (by decide), z118, z 105 (by decide), z 114 (by decide), h2.1, h2.2]
              refine seatW_cong hp (fun r hr => ?_) (fun r hr => ?_) (fun r hr => ?_)
              · by_cases e : r = c
                · subst e; rw [upd_s, upd_s]
                · rw [upd_n e, upd_n e]; exact (h3 r hr).2 e
              · rw [h1.1 105 (by omega), u3 105 (by omega)]; exact (a5 r hr).2.2.2.2.2.2.2.2.2.2
              · rw [(h3 r hr).1]; exact mc_mc (wear_ok w1 r hr)
            rw [eqv] at seat
            have fin : mS u (k_up v 118 c (nI (n + i))) := h1.up (by omega)
            simp only [seat, p_cI, ltS (show j ≤ 5 by omega) (seatW_le _ _ _ _ _ _)]
            by_cases hT : j < seatW (σ 1 0) (σ 1 2) (upd (σ 8) c (nI (n + i))) (σ 12) (σ 2) p
            · simp only [hT, if_true]
              refine kk _ _ ⟨rfl, fin, by rw [z 100 (by decide)]; exact h2, fun r hr => ⟨by rw [z 114 (by decide)]; exact (h3 r hr).1, fun e => by rw [z118, upd_n e]; exact (h3 r hr).2 e⟩, fun k hk => ?_⟩
              by_cases e : k = i
              · subst e; exact fun q => absurd hT (Nat.not_lt.mpr q)
              · exact h4 k (by omega)
            · simp only [hT, if_false]
              exact ⟨nI i, _, rfl, Or.inl ⟨i, hi, rfl, Nat.le_of_not_lt hT, h4⟩, fin⟩
          · rw [q1, t2.1 1 (by omega), u3 1 (by omega)]
          · rw [q3, t2.1 1 (by omega), u3 1 (by omega)]
          · rw [(q4 r hr).1]
            have : t (1 + 1) = σ 2 := by rw [t2.1 (1 + 1) (by omega)]; exact u3 2 (by omega)
            rw [this]
          · rw [(q4 r hr).2.2.2.2.1]
            have : t (1 + 7) = σ 8 := by rw [t2.1 (1 + 7) (by omega)]; exact u3 8 (by omega)
            rw [this]
        obtain ⟨r', v, v1, v2, v3⟩ := hM
        have := lst_one u2 v2
        subst this
        refine ⟨r, u, v, ?_, ?_, hIu.ps v3.ps⟩
        · rw [e']
          simp only [tcc, if_true, g0, p_cV, p_gd (in5 hc), ix5 hc, es8]
          exact u1
        · have e0 : u 100 0 = σ 1 0 := by rw [u3 100 (by omega)]; exact a1
          have n5 : ¬ nI c = 5 := fun q => by have := (nI_eq (a := c) (b := 5) (by omega) (by decide)).mp q; omega
          simp only [e0, hx, if_true, t1, p_cV, o, n5, if_false]
          exact v1
