/-! ===== years ===== -/
theorem jrm_nI {a d : Nat} (ha : a < 2 ^ 31) (h0 : 0 < d) (hd : d < 2 ^ 31) : jrm (nI a) (nI d) = nI (a % d) := by
  unfold jrm
  rw [pk_div ha h0 hd, pk_mul, nI_sub (Nat.div_mul_le_self a d)]
  congr 1
  have := Nat.div_add_mod a d
  rw [Nat.mul_comm] at this
  omega
theorem yr_x {a : Nat} (ha : a < 65537) : jrm (75 * nI a + 74) 65537 = nI ((75 * a + 74) % 65537) := by
  have e1 : (75 : Int32) * nI a = nI (75 * a) := pk_mul 75 a
  have e2 : nI (75 * a) + 74 = nI (75 * a + 74) := nI_ad _ 74
  rw [e1, e2]
  exact jrm_nI (d := 65537) (by omega) (by decide) (by decide)
theorem yr_p {a : Nat} (ha : a < 65537) : jrm (nI a) 5 = nI (a % 5) := jrm_nI (d := 5) (by omega) (by decide) (by decide)
theorem yr_c {a : Nat} (ha : a < 65537) : jrm (nI a / 5) 5 = nI (a / 5 % 5) := by
  have : nI a / 5 = nI (a / 5) := pk_div (d := 5) (by omega) (by decide) (by decide)
  rw [this]
  exact jrm_nI (d := 5) (by omega) (by decide) (by decide)
theorem fG.r0 {t : Sg} {f : Nat → Int32} : fG t (rw1 t 114 f) := (fG.rf t).r114
theorem yr_ch {s t : Sg} {p c : Nat} (w : Wf s 15) (x : NX s 15 t) (hp : p < 5) (hc : c < 5) : ∃ s1 t1, m_X4_change 15 (nI p) (nI c) s = some s1 ∧
    (∀ x1 x2 x3 K H x4 x5 x6, e_cI (m_X7_isThere (nI p) t) (fun r13 σ12 => (if r13 = 0 then b_X7_year_115 x1 x2 x3 K H x4 x5 x6 (nI p) (nI c) σ12 else e_gd (k_in (nI p) 5) ((if 5 ≤ (σ12 114 (Int32.toNatClampNeg (nI p))) then b_X7_year_115 x1 x2 x3 K H x4 x5 x6 (nI p) (nI c) σ12 else e_wr σ12 114 (nI p) 5 5 (fun σ18 => b_X7_year_135 x1 x2 x3 K H x4 x5 x6 σ18))))) = b_X7_year_135 x1 x2 x3 K H x4 x5 x6 t1) ∧
    Wf s1 15 ∧ NX s1 15 t1 ∧ fF s s1 ∧ fG t t1 := by
  have hh : s 26 c = 0 ∨ s 26 c = 1 := w.2.2.2.2.2.2.2.2.1 c hc
  have q1 : (5 ≤ t 114 p) ↔ s 16 p = -1 := by rw [(x.2.2.2 p hp).1]; exact (mc_5 (wear_ok w p hp)).2
  have x1' := x.1
  by_cases hA : tB (s 15 0) (nI p) = true ∧ ¬ s 16 p = -1
  · have y0 : wyT (s 15 0) (s 16) p = 0 := by simp only [wyT, hA.1, hA.2, if_true, if_false]
    obtain ⟨v1, v2⟩ := ev_T w x hp y0
    refine ⟨rw1 s 16 (upd (s 16) p (-1)), rw1 t 114 (upd (t 114) p 5), ?_, fun _ _ _ _ _ _ _ _ => ?_, v1, v2, fF.r16, fG.r0⟩
    · unfold m_X4_change
      simp only [q_takeOff hp, p_cI, y0, if_true]
    · simp only [q_isThere, x1', hB_tB hp, hA.1, p_cI, p_ifz, if_true, p_gd (in5 hp), ix5 hp, q1, hA.2, if_false, p_wr (in5 hp), up_rw]
  · have y0 : ¬ wyT (s 15 0) (s 16) p = 0 := by
      unfold wyT
      by_cases h1 : tB (s 15 0) (nI p) = true
      · have h2 : s 16 p = -1 := Classical.byContradiction (fun q => hA ⟨h1, q⟩)
        simp only [h1, h2, if_true]
        decide
      · simp only [h1, if_false, Bool.false_eq_true]
        decide
    have hT : ∀ x1 x2 x3 K H x4 x5 x6, e_cI (m_X7_isThere (nI p) t) (fun r13 σ12 => (if r13 = 0 then b_X7_year_115 x1 x2 x3 K H x4 x5 x6 (nI p) (nI c) σ12 else e_gd (k_in (nI p) 5) ((if 5 ≤ (σ12 114 (Int32.toNatClampNeg (nI p))) then b_X7_year_115 x1 x2 x3 K H x4 x5 x6 (nI p) (nI c) σ12 else e_wr σ12 114 (nI p) 5 5 (fun σ18 => b_X7_year_135 x1 x2 x3 K H x4 x5 x6 σ18))))) = b_X7_year_115 x1 x2 x3 K H x4 x5 x6 (nI p) (nI c) t := fun _ _ _ _ _ _ _ _ => by
      simp only [q_isThere, x1', hB_tB hp, p_cI, p_ifz, p_gd (in5 hp), ix5 hp, q1]
      by_cases h1 : tB (s 15 0) (nI p) = true
      · have h2 : s 16 p = -1 := Classical.byContradiction (fun q => hA ⟨h1, q⟩)
        simp only [h1, h2, if_true]
      · simp only [h1, Bool.false_eq_true, if_false]
    rcases wyP_c (s 15 0) (s 15 1) (s 16) (s 23) (s 26) p c with y1 | y1
    · obtain ⟨v1, v2⟩ := ev_P w x hp hc y1
      refine ⟨rw1 s 16 (upd (s 16) p (nI c)), rw1 t 114 (upd (t 114) p (nI c)), ?_, fun _ _ _ _ _ _ _ _ => ?_, v1, v2, fF.r16, fG.r0⟩
      · unfold m_X4_change
        simp only [q_takeOff hp, p_cI, y0, if_false, q_putOn hp hc hh, y1, if_true]
      · rw [hT]
        simp only [b_X7_year_115, q_whyP w x hp hc, p_cI, y1, if_true, p_wr (in5 hp), ix5 hp, up_rw]
    · refine ⟨s, t, ?_, fun _ _ _ _ _ _ _ _ => ?_, w, x, fF.rf s, fG.rf t⟩
      · unfold m_X4_change
        simp only [q_takeOff hp, p_cI, y0, if_false, q_putOn hp hc hh, lt_n0 y1]
      · rw [hT]
        simp only [b_X7_year_115, q_whyP w x hp hc, p_cI, lt_n0 y1, if_false]
theorem lp3_s {α A B C : Type} {f : (A → B → C → Sg → Option α) → A → B → C → Sg → Option α} {n : Nat} {a : A} {b : B} {c : C} {s : Sg} : e_lp3 f (n + 1) a b c s = f (e_lp3 f n) a b c s := rfl
theorem yr_lp {x1 x3 : Int32} {M : Nat} (hM : M < 1000) : ∀ (f m m' i a : Nat) (s t : Sg), i + f = M → f < m → f < m' → a < 65537 → Wf s 15 → NX s 15 t →
    ∃ s' t', (∀ KC, e_lp2 (d_X6_year_49 x1 (nI M) x3 KC) m (nI a) (nI i) s = KC s') ∧ (∀ KM v, e_lp3 (d_X7_year_51 x1 (nI M) x3 KM) m' (nI a) v (nI i) t = KM v t') ∧ Wf s' 15 ∧ NX s' 15 t' ∧ fF s s' ∧ fG t t'
  | 0, m, m', i, a, s, t, e1, e2, e3, ha, w, x => by
    obtain ⟨m, rfl⟩ : ∃ m1, m = m1 + 1 := ⟨m - 1, by omega⟩
    obtain ⟨m', rfl⟩ : ∃ m1, m' = m1 + 1 := ⟨m' - 1, by omega⟩
    have z : nI M ≤ nI i := x_le (by omega) (by omega)
    refine ⟨s, t, fun KC => ?_, fun KM v => ?_, w, x, fF.rf s, fG.rf t⟩
    · simp only [lp2_s, d_X6_year_49, z, if_true]
    · simp only [lp3_s, d_X7_year_51, z, if_true]
  | f + 1, m, m', i, a, s, t, e1, e2, e3, ha, w, x => by
    obtain ⟨m, rfl⟩ : ∃ m1, m = m1 + 1 := ⟨m - 1, by omega⟩
    obtain ⟨m', rfl⟩ : ∃ m1, m' = m1 + 1 := ⟨m' - 1, by omega⟩
    have z : ¬ nI M ≤ nI i := x_ge (by omega) (by omega)
    have hb : (75 * a + 74) % 65537 < 65537 := Nat.mod_lt _ (by decide)
    obtain ⟨s1, t1, c1, c2, c3, c4, c5, c6⟩ := yr_ch w x (Nat.mod_lt ((75 * a + 74) % 65537) (show 0 < 5 by decide)) (Nat.mod_lt ((75 * a + 74) % 65537 / 5) (show 0 < 5 by decide))
    by_cases q : jrm (nI ((75 * a + 74) % 65537) / 25) 7 = 0
    · obtain ⟨s2, t2, d1, d2, d3, d4, d5, d6⟩ := ev_fast c3 c4
      obtain ⟨s', t', r1, r2, r3, r4, r5, r6⟩ := yr_lp hM f m m' (i + 1) ((75 * a + 74) % 65537) s2 t2 (by omega) (by omega) (by omega) hb d4 d3
      refine ⟨s', t', fun KC => ?_, fun KM v => ?_, r3, r4, (c5.tr d5.fF).tr r5, (c6.tr d6.fG).tr r6⟩
      · rw [lp2_s]
        simp only [d_X6_year_49, z, if_false, p_lt, yr_x ha, yr_p hb, yr_c hb, c1, p_cV, x_s, q, if_true, d1]
        exact r1 KC
      · rw [lp3_s]
        simp only [d_X7_year_51, z, if_false, p_lt, yr_x ha, yr_p hb, yr_c hb]
        rw [c2]
        simp only [b_X7_year_135, b_X7_year_152, x_s, q, if_true, d2, p_cV]
        exact r2 KM v
    · obtain ⟨s2, t2, d1, d2, d3, d4, d5, d6⟩ := ev_dine c3 c4
      obtain ⟨s', t', r1, r2, r3, r4, r5, r6⟩ := yr_lp hM f m m' (i + 1) ((75 * a + 74) % 65537) s2 t2 (by omega) (by omega) (by omega) hb d4 d3
      refine ⟨s', t', fun KC => ?_, fun KM v => ?_, r3, r4, (c5.tr d5.fF).tr r5, (c6.tr d6.fG).tr r6⟩
      · rw [lp2_s]
        simp only [d_X6_year_49, z, if_false, p_lt, yr_x ha, yr_p hb, yr_c hb, c1, p_cV, x_s, q, d1]
        exact r1 KC
      · rw [lp3_s]
        simp only [d_X7_year_51, z, if_false, p_lt, yr_x ha, yr_p hb, yr_c hb]
        rw [c2]
        simp only [b_X7_year_135, b_X7_year_152, x_s, q, if_false, d2, p_cV]
        exact r2 KM v
def smI (b : Nat → Bool) (v : Nat → Int32) : Nat → Int32 := fo (fun i a => if b i = true then a + v i else a) 0
theorem smI_s (b : Nat → Bool) (v : Nat → Int32) (i : Nat) : smI b v (i + 1) = if b i = true then smI b v i + v i else smI b v i := rfl
theorem smI_cong {b b' : Nat → Bool} {v v' : Nat → Int32} : ∀ n, (∀ i, i < n → b i = b' i) → (∀ i, i < n → v i = v' i) → smI b v n = smI b' v' n
  | 0, _, _ => rfl
  | n + 1, h, g => by rw [smI_s, smI_s, smI_cong n (fun i hi => h i (by omega)) (fun i hi => g i (by omega)), h n (by omega), g n (by omega)]
theorem q_allOwed {k : Nat} {σ : Sg} : m_X4_allOwed k σ = some (smI (fun i => tB (σ k 0) (nI i)) (σ (k + 3)) 5, σ) := by
  unfold m_X4_allOwed smI
  refine lp2_accz (fun i a => if tB (σ k 0) (nI i) = true then a + σ (k + 3) i else a) 5 (fun a => some (a, σ)) (fun H a => by simp only [d_X4_allOwed_4, le5, if_true]) (fun H i a hi => ?_) (e_F_lt (by decide))
  simp only [d_X4_allOwed_4, ge5 hi, if_false, q_hasPerson, hB_tB hi, p_cI, p_ifz, p_gd (in5 hi), ix5 hi, p_lt, x_s]
  by_cases h : tB (σ k 0) (nI i) = true <;> simp only [h, if_true, if_false, Bool.false_eq_true]
theorem q_allStitches {k : Nat} {σ : Sg} : m_X4_allStitches k σ = some (smI (fun i => tB (σ k 1) (nI i)) (σ (k + 7)) 5, σ) := by
  unfold m_X4_allStitches smI
  refine lp2_accz (fun i a => if tB (σ k 1) (nI i) = true then a + σ (k + 7) i else a) 5 (fun a => some (a, σ)) (fun H a => by simp only [d_X4_allStitches_4, le5, if_true]) (fun H i a hi => ?_) (e_F_lt (by decide))
  simp only [d_X4_allStitches_4, ge5 hi, if_false, q_hasCoat, hB_tB hi, p_cI, p_ifz, p_gd (in5 hi), ix5 hi, p_lt, x_s]
  by_cases h : tB (σ k 1) (nI i) = true <;> simp only [h, if_true, if_false, Bool.false_eq_true]
theorem q_yrS {x1 x2 x3 v : Int32} {t : Sg} {K : Int32 → Int32 → Int32 → Sg → Option (Int32 × Sg)} : e_lp4 (d_X7_year_170 x1 x2 x3 K) e_F v 0 0 0 t = K v (smI (fun i => tB (t 100 0) (nI i)) (t 116) 5) (smI (fun i => tB (t 100 1) (nI i)) (t 118) 5) t := by
  refine lp4_z (fun o => o = K v (smI (fun i => tB (t 100 0) (nI i)) (t 116) 5) (smI (fun i => tB (t 100 1) (nI i)) (t 118) 5) t) (fun i a b c u => a = v ∧ b = smI (fun i => tB (t 100 0) (nI i)) (t 116) i ∧ c = smI (fun i => tB (t 100 1) (nI i)) (t 118) i ∧ u = t) 5 ?_ ?_ (e_F_lt (by omega)) ⟨rfl, rfl, rfl, rfl⟩
  · rintro H a b c u ⟨rfl, rfl, rfl, rfl⟩
    simp only [d_X7_year_170, le5, if_true]
  · rintro H i a b c u hi ⟨rfl, rfl, rfl, rfl⟩ kk
    have a0 : ∀ y : Int32, y + 0 = y := fun y => by simp
    simp only [d_X7_year_170, ge5 hi, if_false, q_has, p_cI, p_ifz, p_gd (in5 hi), ix5 hi, b_X7_year_201, b_X7_year_229, p_lt, x_s, a0]
    by_cases h1 : tB (u 100 0) (nI i) = true <;> by_cases h2 : tB (u 100 1) (nI i) = true <;> simp only [h1, h2, if_true, if_false, Bool.false_eq_true] <;>
      exact kk _ _ _ _ ⟨rfl, by rw [smI_s]; simp only [h1, if_true, if_false, Bool.false_eq_true], by rw [smI_s]; simp only [h2, if_true, if_false, Bool.false_eq_true], rfl⟩
theorem inB_199 {y : Int32} (h : inB y 1 99 = true) : ∃ M, 1 ≤ M ∧ M ≤ 99 ∧ y = nI M := by
  have h' := of_decide_eq_true h
  have a := Int32.le_iff_toInt_le.mp h'.1
  have e0 : (0 : Int32).toInt = 0 := by decide
  have e1 : (1 : Int32).toInt = 1 := by decide
  obtain ⟨j, hj, rfl⟩ := nI_of2 (M := 99) (n := 99) (by decide) (by rw [Int32.lt_iff_toInt_lt, e0]; omega) h'.2
  exact ⟨j, by rw [nI_toInt (by omega)] at a; omega, hj, rfl⟩
def yrC (σ' : Sg) (x3 : Int32) (s : Sg) : Int32 := if x3 = 0 then (if hB (σ' 1 0) 0 = true then s 17 0 - σ' 3 0 else 0) else if x3 = 1 then smI (fun i => tB (s 15 0) (nI i)) (s 18) 5 else smI (fun i => tB (s 15 1) (nI i)) (s 22) 5
theorem op_year (x y z : Int32) : SimI (m_X6_year x y z) (m_X7_year x y z) := by
  intro σ hI
  obtain ⟨w1, w2, w3, w4⟩ := id hI
  obtain ⟨a1, a2, a3, a4, a5, a6⟩ := id w2
  unfold m_X6_year m_X7_year
  simp only [q_within, q_in, p_cI, p_ifz]
  cases hx : inB x 0 9999
  · exact ⟨_, _, σ, rfl, by simp, hI⟩
  · obtain ⟨a, ha, rfl⟩ := inB_ix (n := 9999) (by decide) hx
    simp only [if_true]
    cases hy : inB y 1 99
    · have hd : inB y 1 99 = decide (1 ≤ y ∧ y ≤ 99) := rfl
      rw [hd] at hy
      have hy' := of_decide_eq_false hy
      by_cases q1 : y < 1
      · exact ⟨_, _, σ, by simp only [q1, if_true]; rfl, by simp, hI⟩
      · have q2 : 99 < y := i_nle.mp (fun q => hy' ⟨i_nlt.mp q1, q⟩)
        exact ⟨_, _, σ, by simp only [q1, q2, if_true, if_false]; rfl, by simp, hI⟩
    · obtain ⟨M, m1, m2, rfl⟩ := inB_199 hy
      have q1 : ¬ nI M < 1 := nI_nlt (b := 1) m1 (by omega)
      have q2 : ¬ 99 < nI M := nI_nlt (a := 99) (b := M) m2 (by decide)
      simp only [q1, q2, if_false, if_true]
      cases hz : inB z 0 2
      · exact ⟨_, _, σ, rfl, by simp, hI⟩
      · simp only [if_true]
        obtain ⟨s0, g0, g1⟩ := q_become (a := 15) (b := 1) (σ := σ) (by omega)
        have w0 : Wf s0 15 := Wf.bec g1 w1
        have i0 : k_in 0 5 = true := by decide
        have j0 : Int32.toNatClampNeg 0 = 0 := by decide
        have key : ∀ τ, (∀ c, 100 ≤ c → τ c = σ c) → ∃ s' t' t0, (∀ KC, e_lp2 (d_X6_year_49 (nI a) (nI M) z KC) e_F (nI a) 0 s0 = KC s') ∧ m_X7_asNow τ = some t0 ∧ asn τ t0 ∧ (∀ KM v, e_lp3 (d_X7_year_51 (nI a) (nI M) z KM) e_F (nI a) v 0 t0 = KM v t') ∧ Wf s' 15 ∧ NX s' 15 t' ∧ fF s0 s' ∧ mS τ t' := by
          intro τ hτ
          obtain ⟨t0, t1, t2⟩ := q_asNow (σ := τ)
          have x0 := feast_NX hI hτ g1 t2
          obtain ⟨s', t', r1, r2, r3, r4, r5, r6⟩ := yr_lp (x1 := nI a) (x3 := z) (M := M) (by omega) M e_F e_F 0 a s0 t0 (by omega) (e_F_lt (by omega)) (e_F_lt (by omega)) (by omega) w0 x0
          exact ⟨s', t', t0, r1, t1, t2, r2, r3, r4, r5, t2.mS.tr r6.mS⟩
        obtain ⟨s', -, -, k1, -, -, -, k5, -, k7, -⟩ := key σ (fun _ _ => rfl)
        have c0 : cS σ s' := g1.cS.tr k7.cS
        obtain ⟨s'', t', t0, q1, q2, q3, q4, q5, q6, q7, q8⟩ := key s' (fun c hc => c0 c (by omega))
        have es : s'' = s' := by
          have h1 := k1 (fun u => some (0, u))
          rw [q1 (fun u => some (0, u))] at h1
          have h2 : (some ((0 : Int32), s'') : Option (Int32 × Sg)) = some (0, s') := h1
          exact congrArg Prod.snd (Option.some.inj h2)
        subst es
        have hIt : Inv t' := (hI.ps c0.ps).ps q8.ps
        obtain ⟨n1, n2, n3, n4⟩ := q6
        refine ⟨yrC σ z s'', s'', t', ?_, ?_, hIt⟩
        · rw [g0, p_cV, k1]
          simp only [q_hasPerson, p_cI, p_ifz, p_gd i0, j0, q_allOwed, q_allStitches, c0 1 (by omega), c0 3 (by omega), yrC, Nat.reduceAdd]
          by_cases z0 : z = 0
          · simp only [z0, if_true]
            by_cases hb : hB (σ 1 0) 0 = true <;> simp only [hb, if_true, if_false, Bool.false_eq_true]
          · rw [if_neg z0, if_neg z0]
            by_cases z1 : z = 1
            · rw [if_pos z1, if_pos z1]
            · rw [if_neg z1, if_neg z1]
        · have e107 : t0 107 0 = σ 3 0 := by rw [q3.1 107 (by omega), c0 107 (by omega)]; exact (a5 0 (by decide)).2.1
          have e100 : t' 100 0 = σ 1 0 := by rw [q8.2 0 (by decide), c0 100 (by omega)]; exact a1
          rw [q2, p_cV, p_gd i0, p_lt, j0, e107, q4, q_yrS]
          simp only [q_isThere, p_cI, p_ifz, p_gd i0, j0, yrC, e100, (n4 0 (by decide)).2.1, Nat.reduceAdd]
          have s1 : smI (fun i => tB (σ 1 0) (nI i)) (t' 116) 5 = smI (fun i => tB (s'' 15 0) (nI i)) (s'' 18) 5 := smI_cong 5 (fun i hi => by rw [← n1, e100]) (fun i hi => (n4 i hi).2.2.1)
          have s2 : smI (fun i => tB (t' 100 1) (nI i)) (t' 118) 5 = smI (fun i => tB (s'' 15 1) (nI i)) (s'' 22) 5 := smI_cong 5 (fun i hi => by rw [n2]) (fun i hi => (n4 i hi).2.2.2.2.1)
          rw [s1, s2]
          by_cases z0 : z = 0
          · simp only [z0, if_true]
            by_cases hb : hB (σ 1 0) 0 = true <;> simp only [hb, if_true, if_false, Bool.false_eq_true]
          · rw [if_neg z0, if_neg z0]
            by_cases z1 : z = 1
            · rw [if_pos z1, if_pos z1]
            · rw [if_neg z1, if_neg z1]
