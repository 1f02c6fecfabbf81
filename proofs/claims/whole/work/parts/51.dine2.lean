def wnb (C : Int32) (w : Nat → Int32) (c : Nat) : Bool := tB C (nI c) && !decide (nI (mk5 (fun i => decide (w i = nI c))) = 0)
theorem q_wornCoats {σ : Sg} {k : Nat} : m_X4_wornCoats k σ = some (nI (mk5 (wnb (σ k 1) (σ (k + 1)))), σ) := by
  unfold m_X4_wornCoats
  rw [← fo_or5]
  refine lp2_accz (fun i a => if wnb (σ k 1) (σ (k + 1)) i = true then a ||| jsl 1 (nI i) else a) 5 (fun a => some (a, σ)) (fun H a => by simp only [d_X4_wornCoats_4, le5, if_true]) (fun H i a hi => ?_) (e_F_lt (by decide))
  simp only [d_X4_wornCoats_4, ge5 hi, if_false, q_hasCoat, hB_tB hi, p_cI, p_ifz, q_wearers, p_lt, x_s]
  by_cases ht : tB (σ k 1) (nI i) = true
  · rw [if_pos ht]
    by_cases h : nI (mk5 (fun i_1 => decide (σ (k + 1) i_1 = nI i))) = 0
    · have hw : ¬ wnb (σ k 1) (σ (k + 1)) i = true := by simp [wnb, h]
      rw [if_pos h, if_neg hw]
    · have hw : wnb (σ k 1) (σ (k + 1)) i = true := by simp [wnb, h, ht]
      rw [if_neg h, if_pos hw]
  · have hw : ¬ wnb (σ k 1) (σ (k + 1)) i = true := by simp [wnb, ht]
    rw [if_neg ht, if_neg hw]
def st1 (b : Nat → Bool) (st : Nat → Int32) (c : Nat) : Int32 := if b c = true ∧ 0 < st c then st c - 1 else st c
def fD (σ s : Sg) : Prop := ∀ c, c ≠ 17 → c ≠ 18 → c ≠ 19 → c ≠ 22 → c ≠ 61 → c ≠ 62 → c ≠ 63 → s c = σ c
theorem q_dine {σ : Sg} (w : Wf σ 15) : ∃ s, m_X4_dine 15 σ = some s ∧ fD σ s ∧ s 17 = dD (fun i => tB (σ 15 0) (nI i)) id (fun i => nI (pt σ 15 i)) (σ 17) 5 ∧
    s 18 = dD (cnd (σ 15 0) (σ 16) (σ 23)) id (fun i => nI (pt σ 15 i) / 2) (σ 18) 5 ∧ s 19 = dD (cnd (σ 15 0) (σ 16) (σ 23)) (own (σ 16) (σ 23)) (fun i => nI (pt σ 15 i) / 2) (σ 19) 5 ∧
    ∀ c, c < 5 → s 22 c = st1 (wnb (σ 15 1) (σ 16)) (σ 22) c := by
  obtain ⟨s1, h1, h2, h3⟩ := q_laid (k := 15) (σ := σ) tw_15
  unfold m_X4_dine
  rw [h1, p_cV, q_bitCount, p_cI]
  have e15 : s1 15 = σ 15 := h2 15 (by decide) (by decide) (by decide)
  obtain ⟨m, hm, em⟩ := w.1
  rw [e15, bc_P hm em]
  have w' : Wf s1 15 := w.ext (fun c a b => h2 c (by omega) (by omega) (by omega))
  have e16 : s1 16 = σ 16 := h2 16 (by decide) (by decide) (by decide)
  have e23 : s1 23 = σ 23 := h2 23 (by decide) (by decide) (by decide)
  have e17 : s1 17 = σ 17 := h2 17 (by decide) (by decide) (by decide)
  have e18 : s1 18 = σ 18 := h2 18 (by decide) (by decide) (by decide)
  have e19 : s1 19 = σ 19 := h2 19 (by decide) (by decide) (by decide)
  have e22 : s1 22 = σ 22 := h2 22 (by decide) (by decide) (by decide)
  refine lp2_z (fun o => ∃ s, o = some s ∧ fD σ s ∧ s 17 = dD (fun i => tB (σ 15 0) (nI i)) id (fun i => nI (pt σ 15 i)) (σ 17) 5 ∧
    s 18 = dD (cnd (σ 15 0) (σ 16) (σ 23)) id (fun i => nI (pt σ 15 i) / 2) (σ 18) 5 ∧ s 19 = dD (cnd (σ 15 0) (σ 16) (σ 23)) (own (σ 16) (σ 23)) (fun i => nI (pt σ 15 i) / 2) (σ 19) 5 ∧
    ∀ c, c < 5 → s 22 c = st1 (wnb (σ 15 1) (σ 16)) (σ 22) c)
    (fun i a s => a = nI (cn5 (fun i => tB (σ 15 0) (nI i))) ∧ (∀ c, c ≠ 17 → c ≠ 18 → c ≠ 19 → s c = s1 c) ∧ s 17 = dD (fun i => tB (σ 15 0) (nI i)) id (fun i => nI (pt σ 15 i)) (σ 17) i ∧
    s 18 = dD (cnd (σ 15 0) (σ 16) (σ 23)) id (fun i => nI (pt σ 15 i) / 2) (σ 18) i ∧ s 19 = dD (cnd (σ 15 0) (σ 16) (σ 23)) (own (σ 16) (σ 23)) (fun i => nI (pt σ 15 i) / 2) (σ 19) i) 5 ?_ ?_ (e_F_lt (by omega)) ⟨rfl, fun _ _ _ _ => rfl, e17, e18, e19⟩
  · rintro H a s ⟨rfl, g1, g2, g3, g4⟩
    simp only [d_X4_dine_15, le5, if_true, q_wornCoats, p_cI]
    rw [g1 15 (by decide) (by decide) (by decide), g1 (15 + 1) (by decide) (by decide) (by decide), e15]
    simp only [Nat.reduceAdd]
    rw [e16]
    refine lp2_z (fun o => ∃ s, o = some s ∧ fD σ s ∧ s 17 = dD (fun i => tB (σ 15 0) (nI i)) id (fun i => nI (pt σ 15 i)) (σ 17) 5 ∧
      s 18 = dD (cnd (σ 15 0) (σ 16) (σ 23)) id (fun i => nI (pt σ 15 i) / 2) (σ 18) 5 ∧ s 19 = dD (cnd (σ 15 0) (σ 16) (σ 23)) (own (σ 16) (σ 23)) (fun i => nI (pt σ 15 i) / 2) (σ 19) 5 ∧
      ∀ c, c < 5 → s 22 c = st1 (wnb (σ 15 1) (σ 16)) (σ 22) c)
      (fun i a t => a = nI (mk5 (wnb (σ 15 1) (σ 16))) ∧ (∀ c, c ≠ 22 → t c = s c) ∧ (∀ c, c < i → t 22 c = st1 (wnb (σ 15 1) (σ 16)) (σ 22) c) ∧ ∀ c, i ≤ c → t 22 c = σ 22 c) 5 ?_ ?_ (e_F_lt (by omega)) ⟨rfl, fun _ _ => rfl, fun c hc => by omega, fun c _ => by rw [g1 22 (by decide) (by decide) (by decide), e22]⟩
    · rintro H a t ⟨rfl, f1, f2, f3⟩
      simp only [d_X4_dine_54, le5, if_true]
      refine ⟨t, rfl, fun c a1 a2 a3 a4 a5 a6 a7 => ?_, ?_, ?_, ?_, f2⟩
      · rw [f1 c a4, g1 c a1 a2 a3, h2 c a5 a6 a7]
      · rw [f1 17 (by decide)]; exact g2
      · rw [f1 18 (by decide)]; exact g3
      · rw [f1 19 (by decide)]; exact g4
    · rintro H i a t hi ⟨rfl, f1, f2, f3⟩ kk
      have tb : ((jsr (nI (mk5 (wnb (σ 15 1) (σ 16)))) (nI i) &&& 1) = 1) ↔ wnb (σ 15 1) (σ 16) i = true := by
        have := tB_mk5 (wnb (σ 15 1) (σ 16)) hi
        unfold tB at this
        rw [← this]
        exact decide_eq_true_iff.symm
      simp only [d_X4_dine_54, ge5 hi, if_false, tb, p_gd (in5 hi), p_wr (in5 hi), ix5 hi, x_s, Nat.reduceAdd, f3 i (Nat.le_refl i)]
      have keep : st1 (wnb (σ 15 1) (σ 16)) (σ 22) i = σ 22 i → ∃ s, H (nI (mk5 (wnb (σ 15 1) (σ 16)))) (nI (i + 1)) t = some s ∧ fD σ s ∧ s 17 = dD (fun i => tB (σ 15 0) (nI i)) id (fun i => nI (pt σ 15 i)) (σ 17) 5 ∧
          s 18 = dD (cnd (σ 15 0) (σ 16) (σ 23)) id (fun i => nI (pt σ 15 i) / 2) (σ 18) 5 ∧ s 19 = dD (cnd (σ 15 0) (σ 16) (σ 23)) (own (σ 16) (σ 23)) (fun i => nI (pt σ 15 i) / 2) (σ 19) 5 ∧
          ∀ c, c < 5 → s 22 c = st1 (wnb (σ 15 1) (σ 16)) (σ 22) c := fun hk => kk _ _ ⟨rfl, f1, fun c hc => by
            by_cases e : c = i
            · subst e; rw [hk]; exact f3 c (Nat.le_refl c)
            · exact f2 c (by omega), fun c hc => f3 c (by omega)⟩
      by_cases hw : wnb (σ 15 1) (σ 16) i = true
      · rw [if_pos hw]
        by_cases hz : σ 22 i ≤ 0
        · rw [if_pos hz]
          exact keep (if_neg (fun q => absurd q.2 (i_nlt.mpr hz)))
        · rw [if_neg hz]
          refine kk _ _ ⟨rfl, fun c hc => by rw [up_rw, rw1_ne hc]; exact f1 c hc, fun c hc => ?_, fun c hc => ?_⟩
          · rw [up_rw, rw1_eq]
            by_cases e : c = i
            · subst e; rw [upd_s, st1, if_pos ⟨hw, i_nle.mp hz⟩]
            · rw [upd_n e]; exact f2 c (by omega)
          · rw [up_rw, rw1_eq, upd_n (by omega)]; exact f3 c (by omega)
      · rw [if_neg hw]
        exact keep (if_neg (fun q => hw q.1))
  · rintro H i a s hi ⟨rfl, g1, g2, g3, g4⟩ kk
    have hs15 : s 15 = σ 15 := by rw [g1 15 (by decide) (by decide) (by decide), e15]
    have hs16 : s 16 = σ 16 := by rw [g1 16 (by decide) (by decide) (by decide), e16]
    have hs23 : s 23 = σ 23 := by rw [g1 23 (by decide) (by decide) (by decide), e23]
    simp only [d_X4_dine_15, ge5 hi, if_false, q_hasPerson, hB_tB hi, p_cI, p_ifz, q_seatOf5 hi, hs15, x_s]
    cases ht : tB (σ 15 0) (nI i)
    · simp only [Bool.false_eq_true, if_false]
      have hc : cnd (σ 15 0) (σ 16) (σ 23) i = false := by simp [cnd, ht]
      exact kk _ _ ⟨rfl, g1, by rw [dD_f (by exact ht)]; exact g2, by rw [dD_f hc]; exact g3, by rw [dD_f hc]; exact g4⟩
    · simp only [if_true]
      have hwf : Wf s 15 := by
        unfold Wf at w ⊢
        rw [hs15, show s (15 + 1) = σ (15 + 1) from hs16, show s (15 + 8) = σ (15 + 8) from hs23, show s (15 + 7) = σ (15 + 7) from (g1 22 (by decide) (by decide) (by decide)).trans e22, show s (15 + 9) = σ (15 + 9) from (g1 24 (by decide) (by decide) (by decide)).trans (h2 24 (by decide) (by decide) (by decide)), show s (15 + 10) = σ (15 + 10) from (g1 25 (by decide) (by decide) (by decide)).trans (h2 25 (by decide) (by decide) (by decide)), show s (15 + 11) = σ (15 + 11) from (g1 26 (by decide) (by decide) (by decide)).trans (h2 26 (by decide) (by decide) (by decide)), show s (15 + 13) = σ (15 + 13) from (g1 28 (by decide) (by decide) (by decide)).trans (h2 28 (by decide) (by decide) (by decide))]
        exact w
      rw [g1 63 (by decide) (by decide) (by decide), h3 i hi ht, pt_sub hi ht]
      obtain ⟨u, u1, u2, u3, u4, u5⟩ := q_eat (x := nI (pt σ 15 i)) hwf hi (by rw [hs15]; exact ht)
      rw [u1, p_cV]
      rw [hs15, hs16, hs23] at u4 u5
      refine kk _ _ ⟨rfl, fun c a1 a2 a3 => by rw [u2 c a1 a2 a3]; exact g1 c a1 a2 a3, ?_, ?_, ?_⟩
      · rw [u3, g2, dD_t (by exact ht)]; rfl
      · rw [u4, g3]; rfl
      · rw [u5, g4]; rfl
theorem q_fast {σ : Sg} : ∃ s, m_X4_fast 15 σ = some s ∧ (∀ c, c ≠ 17 → s c = σ c) ∧ s 17 = dD (fun i => tB (σ 15 0) (nI i)) id (fun _ => nI 1) (σ 17) 5 := by
  unfold m_X4_fast
  refine lp1_z (fun o => ∃ s : Sg, o = some s ∧ (∀ c, c ≠ 17 → s c = σ c) ∧ s 17 = dD (fun i => tB (σ 15 0) (nI i)) id (fun _ => nI 1) (σ 17) 5) (fun i s => (∀ c, c ≠ 17 → s c = σ c) ∧ s 17 = dD (fun i => tB (σ 15 0) (nI i)) id (fun _ => nI 1) (σ 17) i) 5 ?_ ?_ (e_F_lt (by omega)) ⟨fun _ _ => rfl, rfl⟩
  · rintro H s ⟨g1, g2⟩
    simp only [d_X4_fast_2, le5, if_true]
    exact ⟨s, rfl, g1, g2⟩
  · rintro H i s hi ⟨g1, g2⟩ kk
    simp only [d_X4_fast_2, ge5 hi, if_false, q_hasPerson, hB_tB hi, g1 15 (by decide), p_cI, p_ifz, p_gd (in5 hi), p_wr (in5 hi), ix5 hi, x_s, Nat.reduceAdd]
    cases ht : tB (σ 15 0) (nI i)
    · simp only [Bool.false_eq_true, if_false]
      exact kk _ ⟨g1, by rw [dD_f (by exact ht)]; exact g2⟩
    · simp only [if_true]
      exact kk _ ⟨fun c hc => by rw [up_rw, rw1_ne hc]; exact g1 c hc, by rw [up_rw, rw1_eq, g2, dD_t (by exact ht)]; rfl⟩
