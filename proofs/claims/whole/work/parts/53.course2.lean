def fMo (τ t : Sg) : Prop := ∀ c, c ≠ 115 → c ≠ 116 → c ≠ 117 → c ≠ 118 → t c = τ c
theorem q_course {σ τ : Sg} (w : Wf σ 15) (h : NX σ 15 τ) {x : Int32} {qt : Nat → Nat} (hx : (x = 0 ∧ qt = pt σ 15) ∨ (x = 1 ∧ qt = fun _ => 1)) :
    ∃ t, m_X7_course x τ = some t ∧ fMo τ t ∧ t 115 = dD (fun i => tB (σ 15 0) (nI i)) id (fun i => nI (qt i)) (τ 115) 5 ∧
    t 116 = dD (fun i => decide (x = 0) && cnd (σ 15 0) (σ 16) (σ 23) i) id (fun i => nI (qt i) / 2) (τ 116) 5 ∧ t 117 = dD (fun i => decide (x = 0) && cnd (σ 15 0) (σ 16) (σ 23) i) (own (σ 16) (σ 23)) (fun i => nI (qt i) / 2) (τ 117) 5 ∧
    ∀ c, c < 5 → t 118 c = st1 (fun c => decide (x = 0) && wnb (σ 15 1) (σ 16) c) (τ 118) c := by
  obtain ⟨m, hm, em⟩ := w.1
  have hq : ∀ i, qt i ≤ 5 := fun i => by
    rcases hx with ⟨-, rfl⟩ | ⟨-, rfl⟩
    · exact pt_le σ 15 i
    · show 1 ≤ 5
      omega
  obtain ⟨n1, n2, n3, n4⟩ := id h
  unfold m_X7_course
  simp only [q_bits, p_cI, n1]
  have hbt : btI (σ 15 0) = nI (cn5 (fun i => tB (σ 15 0) (nI i))) := by rw [em, ← bc_bt hm, ← em]; exact bc_P hm em
  rw [hbt]
  have hw5 := wear_ok w
  refine lp4_z (fun o => ∃ t, o = some t ∧ fMo τ t ∧ t 115 = dD (fun i => tB (σ 15 0) (nI i)) id (fun i => nI (qt i)) (τ 115) 5 ∧
    t 116 = dD (fun i => decide (x = 0) && cnd (σ 15 0) (σ 16) (σ 23) i) id (fun i => nI (qt i) / 2) (τ 116) 5 ∧ t 117 = dD (fun i => decide (x = 0) && cnd (σ 15 0) (σ 16) (σ 23) i) (own (σ 16) (σ 23)) (fun i => nI (qt i) / 2) (τ 117) 5 ∧
    ∀ c, c < 5 → t 118 c = st1 (fun c => decide (x = 0) && wnb (σ 15 1) (σ 16) c) (τ 118) c)
    (fun i a b c t => a = nI (cn5 (fun i => tB (σ 15 0) (nI i))) ∧ b = 0 ∧ c = nI (pck (fun i => tB (σ 15 0) (nI i)) qt i) ∧ t = τ) 5 ?_ ?_ (e_F_lt (by omega)) ⟨rfl, rfl, rfl, rfl⟩
  · rintro H a b c t ⟨rfl, rfl, rfl, rfl⟩
    simp only [d_X7_course_16, le5, if_true]
    refine lp3_z (fun o => ∃ t', o = some t' ∧ fMo t t' ∧ t' 115 = dD (fun i => tB (σ 15 0) (nI i)) id (fun i => nI (qt i)) (t 115) 5 ∧
      t' 116 = dD (fun i => decide (x = 0) && cnd (σ 15 0) (σ 16) (σ 23) i) id (fun i => nI (qt i) / 2) (t 116) 5 ∧ t' 117 = dD (fun i => decide (x = 0) && cnd (σ 15 0) (σ 16) (σ 23) i) (own (σ 16) (σ 23)) (fun i => nI (qt i) / 2) (t 117) 5 ∧
      ∀ c, c < 5 → t' 118 c = st1 (fun c => decide (x = 0) && wnb (σ 15 1) (σ 16) c) (t 118) c)
      (fun i a b u => a = nI (mk5 (wbf (σ 15 0) (σ 16) i)) ∧ b = nI (pck (fun i => tB (σ 15 0) (nI i)) qt 5) ∧ (∀ c, c ≠ 115 → c ≠ 116 → c ≠ 117 → u c = t c) ∧ u 115 = dD (fun i => tB (σ 15 0) (nI i)) id (fun i => nI (qt i)) (t 115) i ∧
      u 116 = dD (fun i => decide (x = 0) && cnd (σ 15 0) (σ 16) (σ 23) i) id (fun i => nI (qt i) / 2) (t 116) i ∧ u 117 = dD (fun i => decide (x = 0) && cnd (σ 15 0) (σ 16) (σ 23) i) (own (σ 16) (σ 23)) (fun i => nI (qt i) / 2) (t 117) i) 5 ?_ ?_ (e_F_lt (by omega)) ⟨rfl, rfl, fun _ _ _ _ => rfl, rfl, rfl, rfl⟩
    · rintro H2 a b u ⟨rfl, rfl, g1, g2, g3, g4⟩
      simp only [d_X7_course_77, le5, if_true]
      refine lp2_z (fun o => ∃ t', o = some t' ∧ fMo t t' ∧ t' 115 = dD (fun i => tB (σ 15 0) (nI i)) id (fun i => nI (qt i)) (t 115) 5 ∧
        t' 116 = dD (fun i => decide (x = 0) && cnd (σ 15 0) (σ 16) (σ 23) i) id (fun i => nI (qt i) / 2) (t 116) 5 ∧ t' 117 = dD (fun i => decide (x = 0) && cnd (σ 15 0) (σ 16) (σ 23) i) (own (σ 16) (σ 23)) (fun i => nI (qt i) / 2) (t 117) 5 ∧
        ∀ c, c < 5 → t' 118 c = st1 (fun c => decide (x = 0) && wnb (σ 15 1) (σ 16) c) (t 118) c)
        (fun i a v => a = nI (mk5 (wbf (σ 15 0) (σ 16) 5)) ∧ (∀ c, c ≠ 118 → v c = u c) ∧ (∀ c, c < i → v 118 c = st1 (fun c => decide (x = 0) && wnb (σ 15 1) (σ 16) c) (t 118) c) ∧ ∀ c, i ≤ c → v 118 c = t 118 c) 5 ?_ ?_ (e_F_lt (by omega)) ⟨rfl, fun _ _ => rfl, fun c hc => by omega, fun c _ => by rw [g1 118 (by decide) (by decide) (by decide)]⟩
      · rintro H3 a v ⟨rfl, f1, f2, f3⟩
        simp only [d_X7_course_209, le5, if_true]
        refine ⟨v, rfl, fun c a1 a2 a3 a4 => ?_, ?_, ?_, ?_, f2⟩
        · rw [f1 c a4, g1 c a1 a2 a3]
        · rw [f1 115 (by decide)]; exact g2
        · rw [f1 116 (by decide)]; exact g3
        · rw [f1 117 (by decide)]; exact g4
      · rintro H3 i a v hi ⟨rfl, f1, f2, f3⟩ kk
        have fin : ∀ y, y = st1 (fun c => decide (x = 0) && wnb (σ 15 1) (σ 16) c) (t 118) i → ∃ t', H3 (nI (mk5 (wbf (σ 15 0) (σ 16) 5))) (nI (i + 1)) (k_up v 118 i y) = some t' ∧ fMo t t' ∧ t' 115 = dD (fun i => tB (σ 15 0) (nI i)) id (fun i => nI (qt i)) (t 115) 5 ∧
            t' 116 = dD (fun i => decide (x = 0) && cnd (σ 15 0) (σ 16) (σ 23) i) id (fun i => nI (qt i) / 2) (t 116) 5 ∧ t' 117 = dD (fun i => decide (x = 0) && cnd (σ 15 0) (σ 16) (σ 23) i) (own (σ 16) (σ 23)) (fun i => nI (qt i) / 2) (t 117) 5 ∧
            ∀ c, c < 5 → t' 118 c = st1 (fun c => decide (x = 0) && wnb (σ 15 1) (σ 16) c) (t 118) c := fun y hy => kk _ _ ⟨rfl, fun c hc => by rw [up_rw, rw1_ne hc]; exact f1 c hc, fun c hc => by
              rw [up_rw, rw1_eq]
              by_cases e : c = i
              · subst e; rw [upd_s, hy]
              · rw [upd_n e]; exact f2 c (by omega), fun c hc => by rw [up_rw, rw1_eq, upd_n (by omega)]; exact f3 c (by omega)⟩
        have ka : k_ar 118 = true := by decide
        have kl : k_ln 118 = 5 := by decide
        simp only [d_X7_course_209, ge5 hi, if_false, p_gd (in5 hi), ix5 hi, q_has, tB_mk5 _ hi, wbf_5 w hi, p_cI, p_ifz, b_X7_course_250, b_X7_course_251, p_gd ka, kl, p_wr (in5 hi), x_s, f3 i (Nat.le_refl i)]
        have z0 : t 118 i - 0 = t 118 i := by simp
        rcases hx with ⟨rfl, -⟩ | ⟨rfl, -⟩
        · simp only [if_true]
          by_cases hwn : wnb (σ 15 1) (σ 16) i = true
          · rw [if_pos hwn]
            by_cases hz : t 118 i ≤ 0
            · rw [if_pos hz]
              exact fin _ (by rw [z0, st1, if_neg (fun q => absurd q.2 (i_nlt.mpr hz))])
            · rw [if_neg hz]
              exact fin _ (by rw [st1, if_pos ⟨by simp [hwn], i_nle.mp hz⟩])
          · rw [if_neg hwn]
            exact fin _ (by rw [z0, st1, if_neg (fun q => hwn (by simpa using q.1))])
        · have n10 : ¬ (1 : Int32) = 0 := by decide
          simp only [n10, if_false]
          exact fin _ (by rw [z0, st1, if_neg (fun q => by simp [n10] at q)])
    · rintro H2 i a b u hi ⟨rfl, rfl, g1, g2, g3, g4⟩ kk
      have u100 : u 100 0 = σ 15 0 := by rw [g1 100 (by decide) (by decide) (by decide)]; exact n1
      simp only [d_X7_course_77, ge5 hi, if_false, q_has, u100, p_cI, p_ifz, x_s]
      cases ht : tB (σ 15 0) (nI i)
      · simp only [Bool.false_eq_true, if_false]
        have hc : (decide (x = 0) && cnd (σ 15 0) (σ 16) (σ 23) i) = false := by simp [cnd, ht]
        exact kk _ _ _ ⟨by rw [wbf_n (Or.inl ht)], rfl, g1, by rw [dD_f (by exact ht)]; exact g2, by rw [dD_f (by exact hc)]; exact g3, by rw [dD_f (by exact hc)]; exact g4⟩
      · have u114 : u 114 i = mc (σ 16 i) := by rw [g1 114 (by decide) (by decide) (by decide)]; exact (n4 i hi).1
        have u102 : ∀ c, c < 5 → u 102 c = σ 23 c := fun c hc => by rw [g1 102 (by decide) (by decide) (by decide)]; exact (n4 c hc).2.2.2.2.2.1
        simp only [if_true, p_gd (in5 hi), p_wr (in5 hi), ix5 hi, p_lt, u114, pck_at (b := fun i => tB (σ 15 0) (nI i)) hq hi ht]
        have e115 : k_up u 115 i (u 115 i + nI (qt i)) 115 = dD (fun i => tB (σ 15 0) (nI i)) id (fun i => nI (qt i)) (t 115) (i + 1) := by rw [up_rw, rw1_eq, g2, dD_t (by exact ht)]; rfl
        have eo : ∀ c, c ≠ 115 → k_up u 115 i (u 115 i + nI (qt i)) c = u c := fun c hc => by rw [up_rw, rw1_ne hc]
        rcases hw5 i hi with e | ⟨c, hc, e⟩
        · simp only [Nat.reduceAdd] at e
          have l5 : (5 : Int32) ≤ 5 := by decide
          have hcn : (decide (x = 0) && cnd (σ 15 0) (σ 16) (σ 23) i) = false := by simp [cnd, e]
          have o0 : nI (mk5 (wbf (σ 15 0) (σ 16) i)) ||| 0 = nI (mk5 (wbf (σ 15 0) (σ 16) i)) := by simp
          simp only [e, mc_n, l5, if_true, b_X7_course_143, p_lt, o0, ite_self, x_s]
          exact kk _ _ _ ⟨by rw [wbf_n (Or.inr e)], rfl, fun c a1 a2 a3 => by rw [eo c a1]; exact g1 c a1 a2 a3, e115, by rw [dD_f (by exact hcn), eo 116 (by decide)]; exact g3, by rw [dD_f (by exact hcn), eo 117 (by decide)]; exact g4⟩
        · simp only [Nat.reduceAdd] at e
          obtain ⟨o, ho, eo2, to⟩ := w.2.2.2.2.1 c hc
          simp only [Nat.reduceAdd] at eo2
          have hne : ¬ nI c = -1 := fun q => m1_c hc q.symm
          simp only [e, (mc_c hc).mpr rfl, ge5 hc, if_false, b_X7_course_143, p_lt, wbf_or ht hc e, p_gd (in5 hc), ix5 hc, eo 102 (by decide), u102 c hc, eo2, p_gd (in5 hi), p_wr (in5 hi), ix5 hi, x_s]
          have skip : (decide (x = 0) && cnd (σ 15 0) (σ 16) (σ 23) i) = false → ∃ t', H2 (nI (mk5 (wbf (σ 15 0) (σ 16) (i + 1)))) (nI (pck (fun i => tB (σ 15 0) (nI i)) qt 5)) (nI (i + 1)) (k_up u 115 i (u 115 i + nI (qt i))) = some t' ∧ fMo t t' ∧ t' 115 = dD (fun i => tB (σ 15 0) (nI i)) id (fun i => nI (qt i)) (t 115) 5 ∧
            t' 116 = dD (fun i => decide (x = 0) && cnd (σ 15 0) (σ 16) (σ 23) i) id (fun i => nI (qt i) / 2) (t 116) 5 ∧ t' 117 = dD (fun i => decide (x = 0) && cnd (σ 15 0) (σ 16) (σ 23) i) (own (σ 16) (σ 23)) (fun i => nI (qt i) / 2) (t 117) 5 ∧
            ∀ c, c < 5 → t' 118 c = st1 (fun c => decide (x = 0) && wnb (σ 15 1) (σ 16) c) (t 118) c := fun hcn =>
              kk _ _ _ ⟨rfl, rfl, fun c a1 a2 a3 => by rw [eo c a1]; exact g1 c a1 a2 a3, e115, by rw [dD_f (by exact hcn), eo 116 (by decide)]; exact g3, by rw [dD_f (by exact hcn), eo 117 (by decide)]; exact g4⟩
          rcases hx with ⟨rfl, -⟩ | ⟨rfl, -⟩
          · simp only [if_true]
            by_cases q : nI o = nI i
            · rw [if_pos q]
              exact skip (by simp [cnd, e, ix5 hc, eo2, q])
            · have hcn : (decide ((0 : Int32) = 0) && cnd (σ 15 0) (σ 16) (σ 23) i) = true := by simp [cnd, ht, e, ix5 hc, eo2, q, hne]
              have eown : own (σ 16) (σ 23) i = o := by simp [own, e, ix5 hc, eo2, ix5 ho]
              rw [if_neg q]
              simp only [up_rw]
              simp (disch := decide) only [rw1_ne, rw1_eq]
              simp only [u102 c hc, eo2, p_gd (in5 ho), p_wr (in5 ho), ix5 ho, up_rw]
              simp (disch := decide) only [rw1_ne, rw1_eq]
              refine kk _ _ _ ⟨rfl, rfl, fun c a1 a2 a3 => ?_, ?_, ?_, ?_⟩
              · rw [rw1_ne a3, rw1_ne a2, rw1_ne a1]; exact g1 c a1 a2 a3
              · simp (disch := decide) only [rw1_ne, rw1_eq]
                rw [g2, dD_t (by exact ht)]; rfl
              · simp (disch := decide) only [rw1_ne, rw1_eq]
                rw [g3, dD_t (by exact hcn)]; rfl
              · simp (disch := decide) only [rw1_ne, rw1_eq]
                rw [g4, dD_t (by exact hcn), eown]
                rfl
          · have n10 : ¬ (1 : Int32) = 0 := by decide
            simp only [n10, if_false]
            exact skip (by simp [n10])
  · rintro H i a b c t hi ⟨rfl, rfl, rfl, rfl⟩ kk
    have fin : ∀ s0, (tB (σ 15 0) (nI i) = true → s0 = nI (qt i)) → ∃ t', b_X7_course_38 x (fun x3q8 x4q8 σ8 => e_lp3 (d_X7_course_77 x (fun x3q17 σ17 => e_lp2 (d_X7_course_209 x (fun σ22 => some σ22)) e_F x3q17 0 σ17)) e_F x3q8 x4q8 0 σ8) H (nI (cn5 (fun i => tB (σ 15 0) (nI i)))) 0 (nI (pck (fun i => tB (σ 15 0) (nI i)) qt i)) (nI i) s0 t = some t' ∧ fMo t t' ∧ t' 115 = dD (fun i => tB (σ 15 0) (nI i)) id (fun i => nI (qt i)) (t 115) 5 ∧
      t' 116 = dD (fun i => decide (x = 0) && cnd (σ 15 0) (σ 16) (σ 23) i) id (fun i => nI (qt i) / 2) (t 116) 5 ∧ t' 117 = dD (fun i => decide (x = 0) && cnd (σ 15 0) (σ 16) (σ 23) i) (own (σ 16) (σ 23)) (fun i => nI (qt i) / 2) (t 117) 5 ∧
      ∀ c, c < 5 → t' 118 c = st1 (fun c => decide (x = 0) && wnb (σ 15 1) (σ 16) c) (t 118) c := by
      intro s0 hs0
      simp only [b_X7_course_38, q_has, n1, p_cI, p_ifz, b_X7_course_65, p_lt, x_s]
      cases ht : tB (σ 15 0) (nI i)
      · simp only [Bool.false_eq_true, if_false]
        rw [pck_f (b := fun i => tB (σ 15 0) (nI i)) ht]
        exact kk _ _ _ _ ⟨rfl, rfl, rfl, rfl⟩
      · simp only [if_true]
        rw [hs0 ht, pck_or (b := fun i => tB (σ 15 0) (nI i)) hq hi ht]
        exact kk _ _ _ _ ⟨rfl, rfl, rfl, rfl⟩
    simp only [d_X7_course_16, ge5 hi, if_false, h.seat hw5 hi, p_cI]
    rcases hx with ⟨rfl, rfl⟩ | ⟨rfl, rfl⟩
    · rw [if_pos rfl]
      exact fin _ (fun ht => pt_sub hi ht)
    · have n10 : ¬ (1 : Int32) = 0 := by decide
      rw [if_neg n10]
      exact fin _ (fun _ => rfl)
