theorem sub_all : ∀ i, i < 32 → ∀ m, m < 32 → ((nI i &&& (nI m ^^^ (-1)) = 0) ↔ ∀ c, c < 5 → tB (nI i) (nI c) = true → tB (nI m) (nI c) = true) := by decide +kernel
theorem sub_W {i : Nat} (hi : i < 32) {W : Nat → Bool} : (nI i &&& (nI (mk5 W) ^^^ (-1)) = 0) ↔ ∀ c, c < 5 → tB (nI i) (nI c) = true → W c = true := by
  rw [sub_all i hi _ (mk5_lt W)]
  constructor
  · intro h c hc t
    have := h c hc t
    rw [tB_mk5 _ hc] at this
    exact this
  · intro h c hc t
    rw [tB_mk5 _ hc]
    exact h c hc t
theorem q_mOwn {x1 x2 x3 : Int32} {a : Int64} {j : Nat} {u : Sg} {w : Nat → Int32} {mt : Nat → Nat} {K : Int64 → Int32 → Int64 → Sg → Option (Int64 × Sg)} (hw : ∀ c, c < 5 → m_X7_wearers (nI c) u = some (nI (mk5 (fun i => decide (w i = nI c))), u))
    (hm : ∀ c, c < 5 → u 104 c = nI (mt c)) (hl : ∀ c, mt c ≤ 10) : e_lp4 (d_X7_moths_57 x1 x2 x3 K) e_F a (nI j) 1 0 u = K a (nI j) (lN (owN (wnb (u 100 1) w) (fun c => tB (nI j) (nI c)) mt 5)) u := by
  refine lp4_z (fun o => o = K a (nI j) (lN (owN (wnb (u 100 1) w) (fun c => tB (nI j) (nI c)) mt 5)) u) (fun i a' b' c' v => v = u ∧ a' = a ∧ b' = nI j ∧ c' = lN (owN (wnb (u 100 1) w) (fun c => tB (nI j) (nI c)) mt i)) 5 ?_ ?_ (e_F_lt (by omega)) ⟨rfl, rfl, rfl, rfl⟩
  · rintro H a' b' c' v ⟨rfl, rfl, rfl, rfl⟩
    simp only [d_X7_moths_57, le5, if_true]
  · rintro H i a' b' c' v hi ⟨rfl, rfl, rfl, rfl⟩ kk
    have key : ∀ t, t ≤ 10 → t = (if wnb (v 100 1) w i = true then mt i else 0) → b_X7_moths_95 x1 x2 x3 K H a' (nI j) (lN (owN (wnb (v 100 1) w) (fun c => tB (nI j) (nI c)) mt i)) (nI i) (nI t) v = K a' (nI j) (lN (owN (wnb (v 100 1) w) (fun c => tB (nI j) (nI c)) mt 5)) v := by
      intro t ht et
      simp only [b_X7_moths_95, q_has, p_cI, p_ifz, b_X7_moths_121, p_lt, l10_sub ht, nI_l (show t < 2 ^ 31 by omega), lN_mul, x_s]
      by_cases g : tB (nI j) (nI i) = true
      · rw [if_pos g]
        exact kk _ _ _ _ ⟨rfl, rfl, rfl, by simp only [owN, g, if_true, et]⟩
      · rw [if_neg g]
        exact kk _ _ _ _ ⟨rfl, rfl, rfl, by simp only [owN, g, if_false, Bool.false_eq_true, et]⟩
    have e0 : (0 : Int32) = nI 0 := rfl
    simp only [d_X7_moths_57, ge5 hi, if_false, q_has, p_cI, p_ifz, hw i hi, p_gd (in5 hi), ix5 hi, hm i hi, b_X7_moths_94]
    by_cases h1 : tB (v 100 1) (nI i) = true
    · rw [if_pos h1]
      by_cases h2 : nI (mk5 (fun k => decide (w k = nI i))) = 0
      · rw [if_pos h2, e0]
        exact key 0 (by omega) (by simp only [wnb, h2, decide_true, Bool.not_true, Bool.and_false, Bool.false_eq_true, if_false])
      · rw [if_neg h2]
        exact key (mt i) (hl i) (by simp only [wnb, h1, h2, decide_false, Bool.not_false, Bool.and_self, if_true])
    · rw [if_neg h1, e0]
      exact key 0 (by omega) (by simp only [wnb, h1, Bool.false_and, Bool.false_eq_true, if_false])
theorem q_mOn {x1 x2 x3 : Int32} {a b : Int64} {j : Nat} {u : Sg} {w : Nat → Int32} {K : Int64 → Int32 → Int64 → Sg → Option (Int64 × Sg)} (hw : ∀ p, p < 5 → w p = -1 ∨ ∃ c, c < 5 ∧ w p = nI c) (ho : ∀ q, q < 5 → u 114 q = mc (w q)) :
    ∃ u', e_lp4 (d_X7_moths_133 x1 x2 x3 K) e_F a (nI j) b 0 u = K a (nI j) b u' ∧ (∀ c, c ≠ 114 → u' c = u c) ∧ ∀ q, q < 5 → u' 114 q = mc (eW w j q) := by
  refine lp4_z (fun o => ∃ u', o = K a (nI j) b u' ∧ (∀ c, c ≠ 114 → u' c = u c) ∧ ∀ q, q < 5 → u' 114 q = mc (eW w j q)) (fun i a' b' c' v => a' = a ∧ b' = nI j ∧ c' = b ∧ (∀ c, c ≠ 114 → v c = u c) ∧ (∀ q, q < i → v 114 q = mc (eW w j q)) ∧ ∀ q, i ≤ q → v 114 q = u 114 q) 5 ?_ ?_ (e_F_lt (by omega)) ⟨rfl, rfl, rfl, fun _ _ => rfl, fun q hq => by omega, fun _ _ => rfl⟩
  · rintro H a' b' c' v ⟨rfl, rfl, rfl, g1, g2, g3⟩
    simp only [d_X7_moths_133, le5, if_true]
    exact ⟨v, rfl, g1, g2⟩
  · rintro H i a' b' c' v hi ⟨rfl, rfl, rfl, g1, g2, g3⟩ kk
    have p114 : k_ar 114 = true := by decide
    have l114 : k_ln 114 = 5 := by decide
    have fin : ∀ y, y = mc (eW w j i) → ∃ u', H a' (nI j) c' (nI (i + 1)) (k_up v 114 i y) = K a' (nI j) c' u' ∧ (∀ c, c ≠ 114 → u' c = u c) ∧ ∀ q, q < 5 → u' 114 q = mc (eW w j q) := fun y hy =>
      kk _ _ _ _ ⟨rfl, rfl, rfl, fun c hc => by rw [up_rw, rw1_ne hc]; exact g1 c hc, fun q hq => by
        rw [up_rw, rw1_eq]
        by_cases e : q = i
        · subst e; rw [upd_s, hy]
        · rw [upd_n e]; exact g2 q (by omega), fun q hq => by rw [up_rw, rw1_eq, upd_n (by omega)]; exact g3 q (by omega)⟩
    simp only [d_X7_moths_133, ge5 hi, if_false, p_gd (in5 hi), ix5 hi, g3 i (Nat.le_refl i), ho i hi, (mc_5 (hw i hi)).2, q_has, p_cI, p_ifz, b_X7_moths_175, b_X7_moths_182, p_gd p114, l114, p_wr (in5 hi), x_s]
    rcases hw i hi with e | ⟨c, hc, e⟩
    · simp only [e, if_true]
      exact fin _ (by simp only [eW, ls, e, decide_true, Bool.not_true, Bool.false_and, Bool.false_eq_true, if_false])
    · have hne : ¬ nI c = -1 := fun q => m1_c hc q.symm
      have hmc : mc (nI c) = nI c := (mc_c hc).mpr rfl
      simp only [e, hne, if_false, hmc]
      by_cases t : tB (nI j) (nI c) = true
      · rw [if_pos t]
        exact fin _ (by simp only [eW, ls, e, hne, decide_false, Bool.not_false, Bool.true_and, ix5 hc, hc, decide_true, t, if_true, mc_n])
      · rw [if_neg t]
        exact fin _ (by simp only [eW, ls, e, hne, decide_false, Bool.not_false, Bool.true_and, ix5 hc, hc, decide_true, t, Bool.false_eq_true, if_false, hmc])
def mSE (σ : Sg) (p i : Nat) : Nat := seatW (σ 1 0) (σ 1 2) (σ 8) (σ 12) (eW (σ 2) i) p
def mB (σ : Sg) (p s i : Nat) : Bool := decide (nI i &&& (nI (mk5 (wnb (σ 1 1) (σ 2))) ^^^ (-1)) = 0) && decide (mSE σ p i = s)
def mV (σ : Sg) (i : Nat) : Nat := chN (wnb (σ 1 1) (σ 2)) (fun c => tB (nI i) (nI c)) (mtN (σ 11)) 5
def mB' (σ : Sg) (p s i : Nat) : Bool := decide (mSE σ p i = s)
def mV' (σ : Sg) (i : Nat) : Nat := owN (wnb (σ 1 1) (σ 2)) (fun c => tB (nI i) (nI c)) (mtN (σ 11)) 5
theorem eW_ok {w : Nat → Int32} {j p : Nat} (h : w p = -1 ∨ ∃ c, c < 5 ∧ w p = nI c) : eW w j p = -1 ∨ ∃ c, c < 5 ∧ eW w j p = nI c := by
  unfold eW
  split
  · exact Or.inl rfl
  · exact h
theorem eW_cong {w w' : Nat → Int32} {j p : Nat} (h : w p = w' p) : eW w j p = eW w' j p := by
  unfold eW ls
  rw [h]
theorem op_moths (x y z : Int32) : SimJ (m_X6_moths x y z) (m_X7_moths x y z) := by
  intro σ hI
  obtain ⟨w1, w2, w3, w4⟩ := id hI
  obtain ⟨a1, a2, a3, a4, a5, a6⟩ := id w2
  have hw := wear_ok w1
  have hmo : ∀ c, c < 5 → ∃ n, n ≤ 10 ∧ σ 11 c = nI n := w1.2.2.2.2.2.2.2.1
  unfold m_X6_moths m_X7_moths
  simp only [q_hasPerson, q_isThere, s_isSeat, q_within, q_in, p_cI, p_ifz]
  cases hx : hB (σ 1 0) x
  · exact ⟨_, _, σ, rfl, by simp only [a1, hx, Bool.false_eq_true, if_false], hI⟩
  · obtain ⟨p, hp, rfl⟩ := hB_ix hx
    have tp : tB (σ 1 0) (nI p) = true := by rw [← hB_nI hp]; exact hx
    simp only [if_true]
    cases hy : inB y 0 4
    · exact ⟨_, _, σ, rfl, by simp only [a1, hx, if_true, Bool.false_eq_true, if_false], hI⟩
    · obtain ⟨s, hs, rfl⟩ := inB_ix (n := 4) (by decide) hy
      simp only [if_true]
      cases hz : inB z 0 1
      · exact ⟨_, _, σ, rfl, by simp only [a1, hx, if_true, Bool.false_eq_true, if_false], hI⟩
      · simp only [if_true, q_wornCoats, p_cI, Nat.reduceAdd, q_tens]
        have hS : suN (mB σ p s) (mV σ) 32 ≤ 32 * 100000 := su_le (fun i => ch_le (mtN_le _) 5) 32
        have hU : suN (mB' σ p s) (mV' σ) 32 = suN (mB σ p s) (mV σ) 32 * 10 ^ zc (wnb (σ 1 1) (σ 2)) 5 := by
          refine su_mul 32 (fun i hi => ?_)
          by_cases q : nI i &&& (nI (mk5 (wnb (σ 1 1) (σ 2))) ^^^ (-1)) = 0
          · have := (sub_W hi).mp q
            have e : mV' σ i = mV σ i * 10 ^ zc (wnb (σ 1 1) (σ 2)) 5 := ow_ch 5 (fun c hc t => this c hc t)
            simp only [mB, mB', q, decide_true, Bool.true_and, e]
            split <;> simp
          · have : ∃ c, c < 5 ∧ tB (nI i) (nI c) = true ∧ wnb (σ 1 1) (σ 2) c = false := by
              apply Classical.byContradiction
              intro h
              refine q ((sub_W hi).mpr (fun c hc t => ?_))
              cases e : wnb (σ 1 1) (σ 2) c
              · exact absurd ⟨c, hc, t, e⟩ h
              · rfl
            have e : mV' σ i = 0 := ow_0 5 this
            simp only [mB, q, decide_false, Bool.false_and, Bool.false_eq_true, if_false, Nat.zero_mul, e, ite_self]
        have hZ := zc_5 (wnb (σ 1 1) (σ 2))
        have hA : 10 ^ cn5 (wnb (σ 1 1) (σ 2)) * 10 ^ zc (wnb (σ 1 1) (σ 2)) 5 = 100000 := by rw [← Nat.pow_add, hZ]
        have hA1 : 10 ^ cn5 (wnb (σ 1 1) (σ 2)) ≤ 100000 := Nat.pow_le_pow_right (n := 10) (by decide) (cn5_le _)
        have hT0 : 0 < 10 ^ zc (wnb (σ 1 1) (σ 2)) 5 := Nat.pow_pos (by decide)
        have hA0 : 0 < 10 ^ cn5 (wnb (σ 1 1) (σ 2)) := Nat.pow_pos (by decide)
        have hT1 : 10 ^ zc (wnb (σ 1 1) (σ 2)) 5 ≤ 100000 := Nat.pow_le_pow_right (n := 10) (j := 5) (by decide) (by omega)
        generalize hSS : suN (mB σ p s) (mV σ) 32 = SS at *
        generalize hAA : 10 ^ cn5 (wnb (σ 1 1) (σ 2)) = AA at *
        generalize hTT : 10 ^ zc (wnb (σ 1 1) (σ 2)) 5 = TT at *
        have hUb : SS * TT < 2 ^ 63 := Nat.lt_of_le_of_lt (Nat.mul_le_mul hS hT1) (by decide)
        obtain ⟨d, d1, d2⟩ := eu_ok 17 (lN SS) (lN AA) (by rw [pk_lT (show AA < 2 ^ 63 by omega)]; omega)
        have dg := eu_N _ _ _ _ (show SS < 2 ^ 63 by omega) (show AA < 2 ^ 63 by omega) d1
        obtain ⟨d', d1', d2'⟩ := eu_ok 17 (lN (SS * TT)) (lN 100000) (by rw [pk_lT (by decide)]; decide)
        have dg' := eu_N _ _ _ _ hUb (show 100000 < 2 ^ 63 by decide) d1'
        have nA : lN AA ≠ 0 := fun e => by have := (pk_lEQ (b := 0) (show AA < 2 ^ 63 by omega) (by decide)).mp e; omega
        have dn := d2 (Or.inr nA)
        have dn' := d2' (Or.inr (by decide))
        have g0 : 0 < Nat.gcd SS AA := Nat.gcd_pos_of_pos_right _ hA0
        have gl : Nat.gcd SS AA ≤ AA := Nat.gcd_le_right _ hA0
        have eg : Nat.gcd (SS * TT) 100000 = Nat.gcd SS AA * TT := by rw [← hA, Nat.gcd_mul_right]
        have gb : Nat.gcd SS AA * TT ≤ 100000 := by rw [← hA]; exact Nat.mul_le_mul_right _ gl
        refine ⟨(if z = 0 then lN SS else lN AA) / d, ?_⟩
        have hC : ∃ u, e_lp4 (d_X6_moths_79 (nI p) (nI s) z (fun x5q20 x7q20 σ20 => e_cJ (m_X6_partOf x5q20 x7q20 z σ20) (fun r22 σ21 => some (r22, σ21)))) e_F (nI (mk5 (wnb (σ 1 1) (σ 2)))) 0 (lN AA) 0 σ = some ((if z = 0 then lN SS else lN AA) / d, u) ∧ cS σ u := by
          refine lp4_z (fun o => ∃ u : Sg, o = some ((if z = 0 then lN SS else lN AA) / d, u) ∧ cS σ u) (fun i a b c u => a = nI (mk5 (wnb (σ 1 1) (σ 2))) ∧ b = lN (suN (mB σ p s) (mV σ) i) ∧ c = lN AA ∧ cS σ u) 32 ?_ ?_ (e_F_lt (by omega)) ⟨rfl, rfl, rfl, cS.rf σ⟩
          · rintro H a b c u ⟨rfl, rfl, rfl, h1⟩
            rw [hSS]
            simp only [d_X6_moths_79, le32, if_true, q_partOf (show 2 * 17 < 100 by decide) d1 dn, p_cJ]
            exact ⟨u, rfl, h1⟩
          · rintro H i a b c u hi ⟨rfl, rfl, rfl, h1⟩ kk
            simp only [d_X6_moths_79, ge32 hi, if_false, x_s]
            by_cases q : nI i &&& (nI (mk5 (wnb (σ 1 1) (σ 2))) ^^^ (-1)) = 0
            · rw [if_pos q]
              obtain ⟨s1, g0, g1⟩ := q_become (a := 15) (b := 1) (σ := u) (by omega)
              have e1 : ∀ c, c < 15 → u c = σ c := fun c hc => h1 c (by omega)
              have b16 : ∀ r, r < 5 → s1 16 r = σ 2 r := fun r hr => by rw [show s1 16 r = s1 (15 + 1) r from rfl, bec_j g1 (by decide) (by decide) hr, e1 (1 + 1) (by omega)]
              obtain ⟨s2, v1, v2, v3⟩ := q_lose (k := 15) (j := i) (σ := s1) (fun r hr => by rw [show s1 (15 + 1) r = s1 16 r from rfl, b16 r hr]; exact hw r hr)
              have c2 : cS σ s2 := (h1.tr g1.cS).tr (fun c hc => v2 c (by omega))
              have t15 : ∀ r, r < 4 → s2 15 r = σ 1 r := fun r hr => by rw [v2 15 (by decide), bec_0 g1 hr, e1 1 (by omega)]
              obtain ⟨s3, y1, y2⟩ := q_seatIn (k := 15) (p := p) (σ := s2) tw_15 hp (by rw [t15 0 (by decide)]; exact tp)
              have es : seatW (s2 15 0) (s2 15 2) (s2 (15 + 7)) (s2 (15 + 11)) (s2 (15 + 1)) p = mSE σ p i := by
                rw [t15 0 (by decide), t15 2 (by decide)]
                refine seatW_cong hp (fun r hr => ?_) (fun r hr => ?_) (fun r hr => ?_)
                · rw [v2 (15 + 7) (by decide), bec_j g1 (by decide) (by decide) hr, e1 (1 + 7) (by omega)]
                · rw [v2 (15 + 11) (by decide), bec_j g1 (by decide) (by decide) hr, e1 (1 + 11) (by omega)]
                · rw [v3 r hr]; exact congrArg mc (eW_cong (b16 r hr))
              have c3 : cS σ s3 := c2.tr y2.cS
              have e11 : s3 (1 + 10) = σ 11 := c3 11 (by omega)
              have hse : mSE σ p i ≤ 5 := seatW_le _ _ _ _ _ _
              simp only [g0, p_cV, v1, y1, es, p_cI, nI_s hse (show s ≤ 5 by omega), q_chance (k := 1) (j := i) (σ := s3) (by rw [e11]; exact hmo), p_cJ, p_lt, e11, lN_add]
              by_cases q2 : mSE σ p i = s
              · rw [if_pos q2]
                exact kk _ _ _ _ ⟨rfl, by simp only [suN, mB, q, q2, decide_true, Bool.and_self, if_true, mV], rfl, c3⟩
              · rw [if_neg q2]
                exact kk _ _ _ _ ⟨rfl, by simp only [suN, mB, q2, decide_false, Bool.and_false, Bool.false_eq_true, if_false, Nat.add_zero], rfl, c3⟩
            · rw [if_neg q]
              exact kk _ _ _ _ ⟨rfl, by simp only [suN, mB, q, decide_false, Bool.false_and, Bool.false_eq_true, if_false, Nat.add_zero], rfl, h1⟩
        obtain ⟨u, u1, u2⟩ := hC
        have hIu : Inv u := hI.ps u2.ps
        have hM : ∃ t, e_lp2 (d_X7_moths_40 (nI p) (nI s) z (fun x4q24 σ24 => e_lp3 (d_X7_moths_224 (nI p) (nI s) z (fun x4q26 x6q26 σ26 => (if z = 0 then if x6q26 = 0 then none else some (x4q26 / x6q26, σ26) else if x6q26 = 0 then none else some (100000 / x6q26, σ26)))) e_F x4q24 x4q24 100000 σ24)) e_F 0 0 u = some ((if z = 0 then lN SS else lN AA) / d, t) ∧ mS u t := by
          refine lp2_z (fun o => ∃ t : Sg, o = some ((if z = 0 then lN SS else lN AA) / d, t) ∧ mS u t) (fun i a t => a = lN (suN (mB' σ p s) (mV' σ) i) ∧ mS u t) 32 ?_ ?_ (e_F_lt (by omega)) ⟨rfl, mS.rf u⟩
          · rintro H a t ⟨rfl, h1⟩
            rw [hU]
            simp only [d_X7_moths_40, le32, if_true]
            have := q_cdMo (p := nI p) (q := nI s) (r := z) (b := lN (SS * TT)) (σ := t) (K := fun x4q26 x6q26 σ26 => (if z = 0 then if x6q26 = 0 then none else some (x4q26 / x6q26, σ26) else if x6q26 = 0 then none else some (100000 / x6q26, σ26))) 34 e_F (lN (SS * TT)) (lN 100000) d' (e_F_lt (by omega)) d1'
            refine ⟨t, ?_, h1⟩
            refine Eq.trans this ?_
            simp only [dn', if_false]
            rw [dg, dg', eg]
            have r1 : lN (SS * TT) / lN (Nat.gcd SS AA * TT) = lN SS / lN (Nat.gcd SS AA) := by
              rw [pk_lDiv hUb (Nat.mul_pos g0 hT0) (by omega), pk_lDiv (by omega) g0 (by omega), Nat.mul_div_mul_right _ _ hT0]
            have r2 : (100000 : Int64) / lN (Nat.gcd SS AA * TT) = lN AA / lN (Nat.gcd SS AA) := by
              have : (100000 : Int64) = lN (AA * TT) := by rw [hA]; rfl
              rw [this, pk_lDiv (by omega) (Nat.mul_pos g0 hT0) (by omega), pk_lDiv (by omega) g0 (by omega), Nat.mul_div_mul_right _ _ hT0]
            rw [r1, r2]
            by_cases q : z = 0 <;> simp only [q, if_true, if_false]
          · rintro H i a t hi ⟨rfl, h1⟩ kk
            obtain ⟨t0, t1, t2⟩ := q_asNow (σ := t)
            have h2 : mS u t0 := h1.tr t2.mS
            have hIt : Inv t0 := hIu.ps h2.ps
            have e1 : ∀ c, c < 15 → t0 c = σ c := fun c hc => by rw [h2.1 c (by omega)]; exact u2 c (by omega)
            have em : ∀ j, j < 23 → t0 100 j = σ 100 j := fun j hj => by rw [h2.2 j hj, u2 100 (by omega)]
            have ec : ∀ c, 101 ≤ c → c ≤ 113 → t0 c = σ c := fun c c1 c2 => by rw [h2.1 c (by omega)]; exact u2 c (by omega)
            have hwe : ∀ c, c < 5 → m_X7_wearers (nI c) t0 = some (nI (mk5 (fun i => decide (σ 2 i = nI c))), t0) := fun c hc => by
              rw [q_wearersM, wear_eq hIt.1 hIt.2.1 hc, e1 2 (by omega)]
            have hon : ∀ q, q < 5 → t0 114 q = mc (σ 2 q) := fun q hq => by
              have := (t2.2.2.2 q hq).1
              rw [this]
              have := h1.1 106 (by omega)
              rw [this, u2 106 (by omega)]
              exact (a5 q hq).1
            have hmt : ∀ c, c < 5 → t0 104 c = nI (mtN (σ 11) c) := fun c hc => by
              rw [ec 104 (by omega) (by omega), (a5 c hc).2.2.2.2.2.2.2.2.2.1]
              exact mtN_eq (hmo c hc)
            simp only [d_X7_moths_40, ge32 hi, if_false, t1, p_cV]
            rw [q_mOwn (w := σ 2) (mt := mtN (σ 11)) hwe hmt (mtN_le _)]
            obtain ⟨u', v1, v2, v3⟩ := q_mOn (x1 := nI p) (x2 := nI s) (x3 := z) (a := lN (suN (mB' σ p s) (mV' σ) i)) (b := lN (owN (wnb (t0 100 1) (σ 2)) (fun c => tB (nI i) (nI c)) (mtN (σ 11)) 5)) (j := i) (u := t0) (w := σ 2)
              (K := fun x4q20 x6q20 x7q20 σ20 => e_cI (m_X7_seatOf (nI p) σ20) (fun r22 σ21 => (if r22 = nI s then b_X7_moths_206 (nI p) (nI s) z (fun x4q24 σ24 => e_lp3 (d_X7_moths_224 (nI p) (nI s) z (fun x4q26 x6q26 σ26 => (if z = 0 then if x6q26 = 0 then none else some (x4q26 / x6q26, σ26) else if x6q26 = 0 then none else some (100000 / x6q26, σ26)))) e_F x4q24 x4q24 100000 σ24) H x6q20 x7q20 x4q20 σ21 else b_X7_moths_206 (nI p) (nI s) z (fun x4q24 σ24 => e_lp3 (d_X7_moths_224 (nI p) (nI s) z (fun x4q26 x6q26 σ26 => (if z = 0 then if x6q26 = 0 then none else some (x4q26 / x6q26, σ26) else if x6q26 = 0 then none else some (100000 / x6q26, σ26)))) e_F x4q24 x4q24 100000 σ24) H x6q20 0 x4q20 σ21))) hw hon
            rw [v1]
            have hse : mSE σ p i ≤ 5 := seatW_le _ _ _ _ _ _
            have hseat : m_X7_seatOf (nI p) u' = some (nI (mSE σ p i), u') := by
              rw [q_seatS (fun q hq => by rw [v3 q hq]; exact code_ok (eW_ok (hw q hq))) hp]
              have e : seatW (u' 100 0) (u' 100 23) (u' 118) (u' 105) (u' 114) p = mSE σ p i := by
                rw [v2 100 (by decide), v2 118 (by decide), v2 105 (by decide), em 0 (by decide), t2.2.2.1, h1.2 7 (by decide), u2 100 (by omega), a1, a3]
                refine seatW_cong hp (fun r hr => ?_) (fun r hr => ?_) (fun r hr => ?_)
                · rw [(t2.2.2.2 r hr).2.2.2.2, h1.1 101 (by omega), u2 101 (by omega)]; exact (a5 r hr).2.2.2.2.2.2.1
                · rw [ec 105 (by omega) (by omega)]; exact (a5 r hr).2.2.2.2.2.2.2.2.2.2
                · rw [v3 r hr]; exact mc_mc (eW_ok (hw r hr))
              rw [e]
            have z0 : (0 : Int64) = lN 0 := rfl
            simp only [hseat, p_cI, nI_s hse (show s ≤ 5 by omega), b_X7_moths_206, p_lt, x_s, em 1 (by decide), a2]
            have h3 : mS u u' := h2.tr ⟨fun c hc => v2 c (by omega), fun j _ => by rw [v2 100 (by decide)]⟩
            by_cases q2 : mSE σ p i = s
            · rw [if_pos q2, lN_add]
              exact kk _ _ ⟨by simp only [suN, mB', q2, decide_true, if_true, mV'], h3⟩
            · rw [if_neg q2, z0, lN_add]
              exact kk _ _ ⟨by simp only [suN, mB', q2, decide_false, Bool.false_eq_true, if_false], h3⟩
        obtain ⟨t, t1, t2⟩ := hM
        refine ⟨u, t, u1, ?_, hIu.ps t2.ps⟩
        have e0 : u 100 0 = σ 1 0 := by rw [u2 100 (by omega)]; exact a1
        simp only [e0, hx, if_true]
        exact t1
