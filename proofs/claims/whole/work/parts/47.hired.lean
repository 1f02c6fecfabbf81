/-- the class's pair: the best coat, its price; the reference's: the least price, the coat -/
def hF (ok : Nat → Bool) (fee : Nat → Int32) : Nat → Int32 × Int32
  | 0 => (-6, 0)
  | i + 1 => if ok i = true ∧ ((hF ok fee i).1 = -6 ∨ fee i < (hF ok fee i).2) then (nI i, fee i) else hF ok fee i
def hG (ok : Nat → Bool) (fee : Nat → Int32) : Nat → Int32 × Int32
  | 0 => (1000, -6)
  | i + 1 => if ok i = true ∧ fee i < (hG ok fee i).1 then (fee i, nI i) else hG ok fee i
theorem hFG {ok : Nat → Bool} {fee : Nat → Int32} (hf : ∀ c, c < 5 → ∃ n, n < 100 ∧ fee c = nI n) : ∀ i, i ≤ 5 → (hF ok fee i).1 = (hG ok fee i).2 ∧ ((hF ok fee i = (-6, 0) ∧ hG ok fee i = (1000, -6)) ∨ ((∃ c, c < 5 ∧ (hF ok fee i).1 = nI c) ∧ (hF ok fee i).2 = (hG ok fee i).1))
  | 0, _ => ⟨rfl, Or.inl ⟨rfl, rfl⟩⟩
  | i + 1, hi => by
    obtain ⟨e, h⟩ := hFG hf i (by omega)
    obtain ⟨n, hn, en⟩ := hf i (by omega)
    simp only [hF, hG]
    cases ho : ok i
    · simp only [Bool.false_eq_true, false_and, if_false]; exact ⟨e, h⟩
    · rcases h with ⟨h1, h2⟩ | ⟨⟨c, hc, h1⟩, h2⟩
      · have l : fee i < 1000 := by rw [en]; exact nI_lt (a := n) (b := 1000) (by omega) (by decide)
        have q1 : true = true ∧ ((hF ok fee i).1 = -6 ∨ fee i < (hF ok fee i).2) := ⟨rfl, Or.inl (by rw [h1])⟩
        have q2 : true = true ∧ fee i < (hG ok fee i).1 := ⟨rfl, by rw [h2]; exact l⟩
        rw [if_pos q1, if_pos q2]
        exact ⟨rfl, Or.inr ⟨⟨i, by omega, rfl⟩, rfl⟩⟩
      · have hne : ¬ (hF ok fee i).1 = -6 := by rw [h1]; exact nI_no6 (by omega)
        by_cases l : fee i < (hG ok fee i).1
        · have q1 : true = true ∧ ((hF ok fee i).1 = -6 ∨ fee i < (hF ok fee i).2) := ⟨rfl, Or.inr (by rw [h2]; exact l)⟩
          have q2 : true = true ∧ fee i < (hG ok fee i).1 := ⟨rfl, l⟩
          rw [if_pos q1, if_pos q2]
          exact ⟨rfl, Or.inr ⟨⟨i, by omega, rfl⟩, rfl⟩⟩
        · have q1 : ¬ (true = true ∧ ((hF ok fee i).1 = -6 ∨ fee i < (hF ok fee i).2)) := fun h => h.2.elim hne (fun q => l (by rw [← h2]; exact q))
          have q2 : ¬ (true = true ∧ fee i < (hG ok fee i).1) := fun h => l h.2
          rw [if_neg q1, if_neg q2]
          exact ⟨e, Or.inr ⟨⟨c, hc, h1⟩, h2⟩⟩
theorem op_hired (x y z : Int32) : SimI (m_X6_hired x y z) (m_X7_hired x y z) := by
  intro σ hI
  obtain ⟨w1, w2, w3, w4⟩ := id hI
  obtain ⟨a1, a2, a3, a4, a5, a6⟩ := id w2
  unfold m_X6_hired m_X7_hired
  simp only [q_hasPerson, q_isThere, s_isSeat, q_within, q_in, p_cI, p_ifz]
  cases hx : hB (σ 1 0) x
  · exact ⟨_, _, σ, rfl, by simp [a1, hx], hI⟩
  · obtain ⟨p, hp, rfl⟩ := hB_ix hx
    have tp : tB (σ 1 0) (nI p) = true := by rw [← hB_nI hp]; exact hx
    simp only [if_true]
    cases hy : inB y 0 4
    · exact ⟨_, _, σ, rfl, by simp [a1, hx], hI⟩
    · obtain ⟨j, hj, rfl⟩ := inB_ix (n := 4) (by decide) hy
      simp only [if_true]
      cases hz : inB z 0 1
      · exact ⟨_, _, σ, rfl, by simp [a1, hx], hI⟩
      · simp only [if_true]
        let fr : Nat → Bool := fun c => decide (nI (mk5 (fun i => decide (σ 2 i = nI c))) &&& (jsl 1 (nI p) ^^^ (-1)) = 0)
        let ok : Nat → Bool := fun c => tB (σ 1 1) (nI c) && ((decide (σ 2 p = nI c) || fr c) && decide (seatW (σ 1 0) (σ 1 2) (σ 8) (σ 12) (upd (σ 2) p (nI c)) p ≤ j))
        let fee : Nat → Int32 := fun c => if σ 9 c = nI p then 0 else σ 10 c
        have hfee : ∀ c, c < 5 → ∃ n, n < 100 ∧ fee c = nI n := fun c hc => by
          by_cases e : σ 9 c = nI p
          · exact ⟨0, by omega, by simp [fee, e]; rfl⟩
          · obtain ⟨n, h1, h2⟩ := w1.2.2.2.2.2.2.1 c hc
            exact ⟨n, h1, by simp [fee, e]; exact h2⟩
        obtain ⟨s, g0, g1⟩ := q_become (a := 15) (b := 1) (σ := σ) (by omega)
        let fin1 : Int32 → Int32 → Sg → Option (Int32 × Sg) := fun x4q13 x5q13 σ13 => (if x4q13 = ((-6)) then b_X6_hired_165 (nI p) (nI j) z x4q13 σ13 else (if z = 1 then b_X6_hired_165 (nI p) (nI j) z x4q13 σ13 else some (x5q13, σ13)))
        have hC : ∃ u, e_lp3 (d_X6_hired_52 (nI p) (nI j) z fin1) e_F (-6) 0 0 s = fin1 (hF ok fee 5).1 (hF ok fee 5).2 u ∧ cS σ u := by
          refine lp3_z (fun o => ∃ u : Sg, o = fin1 (hF ok fee 5).1 (hF ok fee 5).2 u ∧ cS σ u) (fun i a b u => a = (hF ok fee i).1 ∧ b = (hF ok fee i).2 ∧ cS σ u ∧ (∀ r, r < 4 → u 15 r = σ 1 r) ∧ (∀ j r, 1 ≤ j → j ≤ 11 → r < 5 → ¬ (j = 1 ∧ r = p) → u (15 + j) r = σ (1 + j) r)) 5 ?_ ?_ (e_F_lt (by omega)) ⟨rfl, rfl, g1.cS, g1.tr.1, fun j r h1 h2 h3 _ => g1.tr.2 j r h1 h2 h3⟩
          · rintro H a b u ⟨rfl, rfl, h1, -⟩
            simp only [d_X6_hired_52, le5, if_true]
            exact ⟨u, rfl, h1⟩
          · rintro H i a b u hi ⟨rfl, rfl, h1, h2, h3⟩ kk
            have e1 : u 1 = σ 1 := h1 1 (by omega)
            have e2 : u 2 = σ 2 := h1 2 (by omega)
            have skip : ok i = false → hF ok fee (i + 1) = hF ok fee i := fun h => by simp [hF, h]
            have hcan : m_X4_canHire 1 (nI p) (nI i) u = some (zI (tB (σ 1 1) (nI i) && (decide (σ 2 p = nI i) || fr i)), u) := by
              unfold m_X4_canHire
              simp only [q_hasPerson, q_hasCoat, e1, hB_nI hp, hB_nI hi, tp, p_cI, p_ifz, if_true, p_gd (in5 hp), ix5 hp, Nat.reduceAdd, e2, b_X4_canHire_37, m_X4_wornByOther, q_wearers]
              cases ti : tB (σ 1 1) (nI i)
              · simp [p_rz0, zI]
              · by_cases ew : σ 2 p = nI i
                · simp [ew, p_rz1, zI]
                · by_cases hf : nI (mk5 (fun i_1 => decide (σ 2 i_1 = nI i))) &&& (jsl 1 (nI p) ^^^ (-1)) = 0
                  · have ff : fr i = true := decide_eq_true hf
                    simp only [ew, hf, ff, if_true, if_false, p_rz0, p_rz1, p_cI, Bool.or_true, Bool.true_and]
                    rfl
                  · have ff : fr i = false := decide_eq_false hf
                    simp only [ew, hf, ff, if_true, if_false, p_rz0, p_rz1, p_cI, Bool.or_false, Bool.true_and, decide_false]
                    rfl
            simp only [d_X6_hired_52, ge5 hi, if_false, hcan, p_cI, p_ifz, x_s]
            by_cases hm : (tB (σ 1 1) (nI i) && (decide (σ 2 p = nI i) || fr i)) = true
            · simp only [hm, if_true, p_wr (in5 hp), ix5 hp, p_gd (in5 hi), ix5 hi]
              have z16 : ∀ y, y ≠ 16 → k_up u 16 p (nI i) y = u y := fun y h => by rw [up_rw, rw1_ne h]
              have zz : k_up u 16 p (nI i) 16 = upd (u 16) p (nI i) := by rw [up_rw, rw1_eq]
              obtain ⟨v, v1, v2⟩ := q_seatIn (k := 15) (σ := k_up u 16 p (nI i)) tw_15 hp (by rw [z16 15 (by decide), h2 0 (by decide)]; exact tp)
              simp only [Nat.reduceAdd] at v1
              have eqv : seatW (k_up u 16 p (nI i) 15 0) (k_up u 16 p (nI i) 15 2) (k_up u 16 p (nI i) 22) (k_up u 16 p (nI i) 26) (k_up u 16 p (nI i) 16) p = seatW (σ 1 0) (σ 1 2) (σ 8) (σ 12) (upd (σ 2) p (nI i)) p := by
                rw [z16 15 (by decide), z16 22 (by decide), z16 26 (by decide), zz, h2 0 (by decide), h2 2 (by decide)]
                refine seatW_cong hp (fun r hr => h3 7 r (by decide) (by decide) hr (by omega)) (fun r hr => h3 11 r (by decide) (by decide) hr (by omega)) (fun r hr => ?_)
                by_cases e : r = p
                · subst e; rw [upd_s, upd_s]
                · rw [upd_n e, upd_n e]; exact congrArg mc (h3 1 r (by decide) (by decide) hr (by omega))
              rw [eqv] at v1
              have c1 : cS σ v := (h1.up (k := 16) (by omega)).tr v2.cS
              have hinv : ∀ r, r < 4 → v 15 r = σ 1 r := fun r hr => by rw [v2 15 (by decide) (by decide) (by decide), z16 15 (by decide)]; exact h2 r hr
              have hinv2 : ∀ j r, 1 ≤ j → j ≤ 11 → r < 5 → ¬ (j = 1 ∧ r = p) → v (15 + j) r = σ (1 + j) r := fun j' r q1 q2 q3 q4 => by
                rw [v2 (15 + j') (by omega) (by omega) (by omega)]
                by_cases e7 : j' = 1
                · subst e7
                  have : r ≠ p := fun e => q4 ⟨rfl, e⟩
                  show k_up u 16 p (nI i) 16 r = _
                  rw [zz, upd_n this]; exact h3 1 r q1 q2 q3 q4
                · rw [z16 (15 + j') (by omega)]; exact h3 j' r q1 q2 q3 q4
              have step : ∀ f0, f0 = fee i → ∃ w : Sg, b_X6_hired_110 (nI p) (nI j) z fin1 H (hF ok fee i).1 (hF ok fee i).2 (nI i) f0 (k_up u 16 p (nI i)) = fin1 (hF ok fee 5).1 (hF ok fee 5).2 w ∧ cS σ w := by
                rintro f0 rfl
                simp only [b_X6_hired_110, v1, p_cI, ltS (show j ≤ 5 by omega) (seatW_le _ _ _ _ _ _), b_X6_hired_139, x_s]
                by_cases hs : j < seatW (σ 1 0) (σ 1 2) (σ 8) (σ 12) (upd (σ 2) p (nI i)) p
                · have : ok i = false := by simp [ok, show ¬ seatW (σ 1 0) (σ 1 2) (σ 8) (σ 12) (upd (σ 2) p (nI i)) p ≤ j by omega]
                  simp only [hs, if_true]
                  exact kk _ _ _ ⟨by rw [skip this], by rw [skip this], c1, hinv, hinv2⟩
                · have hok : ok i = true := by
                    simp only [ok]
                    rw [← Bool.and_assoc, hm]
                    simp [show seatW (σ 1 0) (σ 1 2) (σ 8) (σ 12) (upd (σ 2) p (nI i)) p ≤ j by omega]
                  simp only [hs, if_false]
                  by_cases e6 : (hF ok fee i).1 = -6
                  · have : hF ok fee (i + 1) = (nI i, fee i) := by simp [hF, hok, e6]
                    simp only [e6, if_true]
                    exact kk _ _ _ ⟨by rw [this], by rw [this], c1, hinv, hinv2⟩
                  · simp only [e6, if_false]
                    by_cases el : (hF ok fee i).2 ≤ fee i
                    · have : hF ok fee (i + 1) = hF ok fee i := by simp [hF, e6, i_nlt.mpr el]
                      simp only [el, if_true]
                      exact kk _ _ _ ⟨by rw [this], by rw [this], c1, hinv, hinv2⟩
                    · have : hF ok fee (i + 1) = (nI i, fee i) := by simp [hF, hok, i_nle.mp el]
                      simp only [el, if_false]
                      exact kk _ _ _ ⟨by rw [this], by rw [this], c1, hinv, hinv2⟩
              have e9 : k_up u 16 p (nI i) 9 i = σ 9 i := by rw [z16 9 (by decide), h1 9 (by omega)]
              have e10 : k_up u 16 p (nI i) 10 i = σ 10 i := by rw [z16 10 (by decide), h1 10 (by omega)]
              rw [e9, e10]
              by_cases eo : σ 9 i = nI p
              · simp only [eo, if_true]
                exact step 0 (by simp [fee, eo])
              · simp only [eo, if_false]
                exact step _ (by simp [fee, eo])
            · have : ok i = false := by
                simp only [ok]
                rw [← Bool.and_assoc, show (tB (σ 1 1) (nI i) && (decide (σ 2 p = nI i) || fr i)) = false by simpa using hm]
                rfl
              simp only [hm]
              simp only [Bool.false_eq_true, if_false]
              exact kk _ _ _ ⟨by rw [skip this], by rw [skip this], h1, h2, h3⟩
        obtain ⟨u, u1, u2⟩ := hC
        have hIu := hI.ps u2.ps
        let fin2 : Int32 → Int32 → Sg → Option (Int32 × Sg) := fun x4q15 x5q15 σ15 => (if x5q15 < 0 then b_X7_hired_170 (nI p) (nI j) z x5q15 σ15 else (if z = 1 then b_X7_hired_170 (nI p) (nI j) z x5q15 σ15 else some (x4q15, σ15)))
        have hM : ∃ t, e_lp3 (d_X7_hired_43 (nI p) (nI j) z fin2) e_F 1000 (-6) 0 u = fin2 (hG ok fee 5).1 (hG ok fee 5).2 t ∧ mS u t := by
          refine lp3_z (fun o => ∃ t : Sg, o = fin2 (hG ok fee 5).1 (hG ok fee 5).2 t ∧ mS u t) (fun i a b t => a = (hG ok fee i).1 ∧ b = (hG ok fee i).2 ∧ mS u t) 5 ?_ ?_ (e_F_lt (by omega)) ⟨rfl, rfl, mS.rf u⟩
          · rintro H a b t ⟨rfl, rfl, h1⟩
            simp only [d_X7_hired_43, le5, if_true]
            exact ⟨t, rfl, h1⟩
          · rintro H i a b t hi ⟨rfl, rfl, h1⟩ kk
            have hIt : Inv t := hIu.ps h1.ps
            have r0 : t 100 0 = σ 1 0 := by rw [h1.2 0 (by decide), u2 100 (by omega)]; exact a1
            have r1 : t 100 1 = σ 1 1 := by rw [h1.2 1 (by decide), u2 100 (by omega)]; exact a2
            have rr : ∀ c, 1 ≤ c → c ≤ 14 → t c = σ c := fun c q1 q2 => by rw [h1.1 c (by omega)]; exact u2 c (by omega)
            have rm : ∀ c, 101 ≤ c → c ≤ 113 → t c = σ c := fun c q1 q2 => by rw [h1.1 c (by omega)]; exact u2 c (by omega)
            have skip : ok i = false → hG ok fee (i + 1) = hG ok fee i := fun h => by simp [hG, h]
            have h10 : ¬ (1 : Int32) = 0 := by decide
            have ew' : (t 106 p = nI i) ↔ σ 2 p = nI i := by rw [rm 106 (by decide) (by decide), (a5 p hp).1]; exact mc_c hi
            have yes : (tB (σ 1 1) (nI i) && (decide (σ 2 p = nI i) || fr i)) = true → ∃ w : Sg, b_X7_hired_82 (nI p) (nI j) z fin2 H (hG ok fee i).1 (hG ok fee i).2 (nI i) t = fin2 (hG ok fee 5).1 (hG ok fee 5).2 w ∧ mS u w := by
              intro hm
              obtain ⟨n, n1, n2⟩ := q_asNow (σ := t)
              have hIn : Inv n := hIt.ps n2.ps
              have nr : ∀ c, 1 ≤ c → c ≤ 14 → n c = σ c := fun c q1 q2 => by rw [n2.1 c (by omega)]; exact rr c q1 q2
              simp only [b_X7_hired_82, b_X7_hired_87, h10, if_false, n1, p_cV, p_wr (in5 hp), ix5 hp, p_gd (in5 hi), ix5 hi]
              obtain ⟨q1, q2, q3, q4⟩ := n2.nw hIt
              have z0 : ∀ c', c' ≠ 114 → k_up n 114 p (nI i) c' = n c' := fun c' h => by rw [up_rw, rw1_ne h]
              have seat2 := q_seatS (p := p) (σ := k_up n 114 p (nI i)) (fun r hr => by
                rw [up_rw, rw1_eq]
                by_cases e : r = p
                · subst e; rw [upd_s]; exact ⟨i, by omega, rfl⟩
                · rw [upd_n e, (q4 r hr).1]; exact code_ok (wear_ok hIn.1 r hr)) hp
              have eqv : seatW (k_up n 114 p (nI i) 100 0) (k_up n 114 p (nI i) 100 23) (k_up n 114 p (nI i) 118) (k_up n 114 p (nI i) 105) (k_up n 114 p (nI i) 114) p = seatW (σ 1 0) (σ 1 2) (σ 8) (σ 12) (upd (σ 2) p (nI i)) p := by
                rw [z0 100 (by decide), z0 118 (by decide), z0 105 (by decide), up_rw, rw1_eq, q1, q3, nr 1 (by decide) (by decide)]
                refine seatW_cong hp (fun r hr => ?_) (fun r hr => ?_) (fun r hr => ?_)
                · rw [(q4 r hr).2.2.2.2.1]; exact congrFun (nr 8 (by decide) (by decide)) r
                · rw [(q4 r hr).2.2.2.2.2.2]; exact congrFun (nr 12 (by decide) (by decide)) r
                · by_cases e : r = p
                  · subst e; rw [upd_s, upd_s]
                  · rw [upd_n e, upd_n e, (q4 r hr).1, mc_mc (wear_ok hIn.1 r hr)]; exact congrArg mc (congrFun (nr 2 (by decide) (by decide)) r)
              rw [eqv] at seat2
              have fin : mS u (k_up n 114 p (nI i)) := (h1.tr n2.mS).up (by omega)
              have step : ∀ f0, f0 = fee i → ∃ w : Sg, b_X7_hired_128 (nI p) (nI j) z fin2 H (hG ok fee i).1 (hG ok fee i).2 (nI i) f0 (k_up n 114 p (nI i)) = fin2 (hG ok fee 5).1 (hG ok fee 5).2 w ∧ mS u w := by
                rintro f0 rfl
                simp only [b_X7_hired_128, seat2, p_cI, ltS (show j ≤ 5 by omega) (seatW_le _ _ _ _ _ _), x_s]
                by_cases hs : j < seatW (σ 1 0) (σ 1 2) (σ 8) (σ 12) (upd (σ 2) p (nI i)) p
                · have : ok i = false := by simp [ok, show ¬ seatW (σ 1 0) (σ 1 2) (σ 8) (σ 12) (upd (σ 2) p (nI i)) p ≤ j by omega]
                  simp only [hs, if_true]
                  exact kk _ _ _ ⟨by rw [skip this], by rw [skip this], fin⟩
                · have hok : ok i = true := by
                    simp only [ok]
                    rw [← Bool.and_assoc, hm]
                    simp [show seatW (σ 1 0) (σ 1 2) (σ 8) (σ 12) (upd (σ 2) p (nI i)) p ≤ j by omega]
                  simp only [hs, if_false]
                  by_cases el : (hG ok fee i).1 ≤ fee i
                  · have : hG ok fee (i + 1) = hG ok fee i := by simp [hG, i_nlt.mpr el]
                    simp only [el, if_true]
                    exact kk _ _ _ ⟨by rw [this], by rw [this], fin⟩
                  · have : hG ok fee (i + 1) = (fee i, nI i) := by simp [hG, hok, i_nle.mp el]
                    simp only [el, if_false]
                    exact kk _ _ _ ⟨by rw [this], by rw [this], fin⟩
              have e9 : k_up n 114 p (nI i) 102 i = σ 9 i := by rw [z0 102 (by decide), (q4 i hi).2.2.2.2.2.1]; exact congrFun (nr 9 (by decide) (by decide)) i
              have e10 : k_up n 114 p (nI i) 103 i = σ 10 i := by rw [z0 103 (by decide), n2.1 103 (by omega), rm 103 (by decide) (by decide)]; exact (a5 i hi).2.2.2.2.2.2.2.2.1
              rw [e9, e10]
              by_cases eo : σ 9 i = nI p
              · simp only [eo, if_true]
                exact step 0 (by simp [fee, eo])
              · simp only [eo, if_false]
                exact step _ (by simp [fee, eo])
            have no : (tB (σ 1 1) (nI i) && (decide (σ 2 p = nI i) || fr i)) = false → ∃ w : Sg, b_X7_hired_86 (nI p) (nI j) z fin2 H (hG ok fee i).1 (hG ok fee i).2 (nI i) t = fin2 (hG ok fee 5).1 (hG ok fee 5).2 w ∧ mS u w := by
              intro hm
              have : ok i = false := by
                simp only [ok]
                rw [← Bool.and_assoc, hm]
                rfl
              simp only [b_X7_hired_86, b_X7_hired_87, if_true, x_s]
              exact kk _ _ _ ⟨by rw [skip this], by rw [skip this], h1⟩
            simp only [d_X7_hired_43, ge5 hi, if_false, q_has, r1, p_cI, p_ifz, m_X7_isFreeFor, q_wearersM, wear_eq hIt.1 hIt.2.1 hi, rr 2 (by decide) (by decide), p_gd (in5 hp), ix5 hp, ew']
            cases ti : tB (σ 1 1) (nI i)
            · simp only [Bool.false_eq_true, if_false]
              exact no (by simp [ti])
            · simp only [if_true]
              by_cases hf : nI (mk5 (fun i_1 => decide (σ 2 i_1 = nI i))) &&& (jsl 1 (nI p) ^^^ (-1)) = 0
              · have ff : fr i = true := decide_eq_true hf
                simp only [hf, if_true, p_rz1, p_cI, h10, if_false]
                exact yes (by simp [ti, ff])
              · have ff : fr i = false := decide_eq_false hf
                simp only [hf, if_false, p_rz0, p_cI, if_true, ew']
                by_cases ew : σ 2 p = nI i
                · simp only [ew, if_true]
                  exact yes (by simp [ti, ew])
                · simp only [ew, if_false]
                  exact no (by simp [ew, ff])
        obtain ⟨t, t1, t2⟩ := hM
        obtain ⟨eq1, eq2⟩ := hFG (ok := ok) hfee 5 (Nat.le_refl 5)
        have res : ∃ r, fin1 (hF ok fee 5).1 (hF ok fee 5).2 u = some (r, u) ∧ fin2 (hG ok fee 5).1 (hG ok fee 5).2 t = some (r, t) := by
          simp only [fin1, fin2, b_X6_hired_165, b_X7_hired_170, ← eq1]
          rcases eq2 with ⟨h1, h2⟩ | ⟨⟨c, hc, h1⟩, h2⟩
          · exact ⟨-6, by simp [h1], by
              rw [h1]
              have : (-6 : Int32) < 0 := by decide
              simp [this]⟩
          · have n6 : ¬ nI c = -6 := nI_no6 (by omega)
            have n0 : ¬ nI c < 0 := nI_pos (by omega)
            rw [h1, h2]
            simp only [n6, n0, if_false]
            by_cases ez : z = 1
            · exact ⟨nI c, by simp [ez], by simp [ez]⟩
            · exact ⟨(hG ok fee 5).1, by simp [ez], by simp [ez]⟩
        obtain ⟨r, r1, r2⟩ := res
        refine ⟨r, u, t, by rw [g0]; simp only [p_cV]; exact u1.trans r1, ?_, hIu.ps t2.ps⟩
        have e0 : u 100 0 = σ 1 0 := by rw [u2 100 (by omega)]; exact a1
        simp only [e0, hx, if_true]
        exact t1.trans r2
