theorem nI_n6 {j : Nat} (h : j < 1000) : ¬ nI j = -6 := fun e => by
  have := nI_pos' (n := j) (by omega)
  rw [e] at this
  exact absurd this (by decide)
theorem evI_p {E : Nat} (h : 1 ≤ E ∧ E ≤ 3) (i : Nat) : 0 < evI E ∧ nI i + evI E = nI (i + E) := by
  have : E = 1 ∨ E = 2 ∨ E = 3 := by omega
  rcases this with rfl | rfl | rfl
  · exact ⟨by decide, nI_ad i 1⟩
  · exact ⟨by decide, nI_ad i 2⟩
  · exact ⟨by decide, nI_ad i 3⟩
theorem feast_lp {n : Nat} (hn : n ≤ 60) : ∀ (f m m' i k : Nat) (s t : Sg), k + f = 60 → k ≤ i → i ≤ n → f < m → n - i < m' → s 58 1 = nI n → t 100 16 = nI n → (∀ i, i < 60 → t 113 i = s 59 i) → Wf s 15 → NX s 15 t → s 64 2 = 0 → s 64 1 = nI k → t 100 25 = nI k → cf (sg (s 59) n) n f i = -6 →
    ∃ s' t' r kk, e_lp2 (d_X0_hold_15 15 (fun σ16 => some σ16)) m (nI i) (nI k) s = some s' ∧ e_lp1 (d_X7_goFeast_11 (fun σ25 => some ((-6), σ25))) m' (nI i) t = some (r, t') ∧ fF s s' ∧ fG t t' ∧ kk ≤ 60 ∧ s' 64 1 = nI kk ∧ t' 100 25 = nI kk ∧
      ((s' 64 2 = 0 ∧ r = -6 ∧ Wf s' 15 ∧ NX s' 15 t') ∨ (0 < s' 64 2 ∧ r = nI kk ∧ t' 100 24 = s' 64 2))
  | 0, m, m', i, k, s, t, e1, e2, e3, e4, e5, h1, h2, h3, w, x, q1, q2, q3, hc => by
    obtain ⟨m, rfl⟩ : ∃ m1, m = m1 + 1 := ⟨m - 1, by omega⟩
    obtain ⟨m', rfl⟩ : ∃ m1, m' = m1 + 1 := ⟨m' - 1, by omega⟩
    have hk : k = 60 := by omega
    have hi : i = n := by omega
    subst hk
    subst hi
    have z : (60 : Int32) ≤ nI 60 := by decide
    have z2 : nI i ≤ nI i := Int32.le_refl _
    refine ⟨s, t, -6, 60, ?_, ?_, fF.rf s, fG.rf t, by omega, q2, q3, Or.inl ⟨q1, rfl, w, x⟩⟩
    · simp only [lp2_s, d_X0_hold_15, z, if_true]
    · simp only [lp1_s, d_X7_goFeast_11, h2, z2, if_true]
  | f + 1, m, m', i, k, s, t, e1, e2, e3, e4, e5, h1, h2, h3, w, x, q1, q2, q3, hc => by
    obtain ⟨m, rfl⟩ : ∃ m1, m = m1 + 1 := ⟨m - 1, by omega⟩
    obtain ⟨m', rfl⟩ : ∃ m1, m' = m1 + 1 := ⟨m' - 1, by omega⟩
    have h60 : ¬ (60 : Int32) ≤ nI k := x_ge (n := 60) (by omega) (by decide)
    by_cases hi : n ≤ i
    · have z2 : nI n ≤ nI i := x_le hi (by omega)
      refine ⟨s, t, -6, k, ?_, ?_, fF.rf s, fG.rf t, by omega, q2, q3, Or.inl ⟨q1, rfl, w, x⟩⟩
      · simp only [lp2_s, d_X0_hold_15, h60, if_false, h1, z2, if_true]
      · simp only [lp1_s, d_X7_goFeast_11, h2, z2, if_true]
    · simp only [cf, hi, if_false] at hc
      by_cases he : 1 ≤ ev (sg (s 59) n) i ∧ ev (sg (s 59) n) i ≤ 3
      · rw [if_pos he] at hc
        obtain ⟨y, s1, t1, c1, c2, c3, c4, c5, c6, c7, c8, c9, c10⟩ := ev_one hn h1 h2 h3 w x (show i < n by omega) (show k < 60 by omega) q1 he
        obtain ⟨p1, p2⟩ := evI_p he i
        rw [lp2_s, c1, lp1_s, c2]
        rcases c10 with ⟨rfl, w1, x1⟩ | hy
        · have z0 : (0 : Int32) ≤ 0 := by decide
          have f58 : s1 58 = s 58 := c7 58 (by decide) (by decide) (by decide) (by decide) (by decide) (by decide) (by decide) (by decide) (by decide)
          have f59 : s1 59 = s 59 := c7 59 (by decide) (by decide) (by decide) (by decide) (by decide) (by decide) (by decide) (by decide) (by decide)
          have f113 : t1 113 = t 113 := c8.1 113 (by omega)
          simp only [b_X0_hold_87, b_X7_goFeast_258, c3, c4, z0, if_true, p1, p_lt, p2, c5, c6, q2, q3, x_s]
          have k58 : k_up s1 64 1 (nI (k + 1)) 58 = s 58 := by rw [up_rw, rw1_ne (by decide)]; exact f58
          have k59 : k_up s1 64 1 (nI (k + 1)) 59 = s 59 := by rw [up_rw, rw1_ne (by decide)]; exact f59
          obtain ⟨s', t', r, kk, r1, r2, r3, r4, r5⟩ := feast_lp hn f m m' (i + ev (sg (s 59) n) i) (k + 1) (k_up s1 64 1 (nI (k + 1))) (k_up t1 100 25 (nI (k + 1))) (by omega) (by omega) c9 (by omega) (by omega)
            (by rw [k58]; exact h1) (by rw [up_rw, rw1_eq, upd_n (by decide), c8.2 16 (by decide) (by decide)]; exact h2) (fun j hj => by rw [k59, up_rw, rw1_ne (by decide), f113]; exact h3 j hj)
            w1.up64 (x1.up64.u24 (Or.inr rfl)) (by rw [up_rw, rw1_eq, upd_n (by decide)]; exact c3) (by rw [up_rw, rw1_eq, upd_s]) (by rw [up_rw, rw1_eq, upd_s]) (by rw [k59]; exact hc)
          exact ⟨s', t', r, kk, r1, r2, (c7.up).tr r3, (c8.up (Or.inr rfl)).tr r4, r5⟩
        · have hy0 : ¬ s1 64 2 = 0 := by rw [c3]; exact lt_n0 hy
          have hy1 : ¬ t1 100 24 ≤ 0 := by rw [c4]; exact i_nle.mpr hy
          refine ⟨s1, t1, nI k, k, ?_, ?_, c7, c8, by omega, by rw [c5]; exact q2, by rw [c6]; exact q3, Or.inr ⟨by rw [c3]; exact hy, rfl, by rw [c3, c4]⟩⟩
          · simp only [b_X0_hold_87, hy0, if_false]
          · simp only [b_X7_goFeast_258, hy1, if_false, c6, q3]
      · rw [if_neg he] at hc
        have := ev_le (sg (s 59) n) i
        exact absurd hc (nI_n6 (by omega))
theorem cf_ge {s : Nat → Int32} {n : Nat} : ∀ f i, i + 3 * f < 900 → cf s n f i = -6 ∨ ∃ j, j < 1000 ∧ cf s n f i = nI j
  | 0, i, _ => Or.inl rfl
  | f + 1, i, hi => by
    simp only [cf]
    by_cases h : n ≤ i
    · rw [if_pos h]; exact Or.inl rfl
    · rw [if_neg h]
      by_cases he : 1 ≤ ev s i ∧ ev s i ≤ 3
      · rw [if_pos he]
        exact cf_ge f _ (by omega)
      · rw [if_neg he]
        have := ev_le s i
        exact Or.inr ⟨_, by omega, rfl⟩
theorem feast_NX {σ τ s t : Sg} (hI : Inv σ) (hτ : ∀ c, 100 ≤ c → τ c = σ c) (h : bec σ 15 1 s) (g : asn τ t) : NX s 15 t := by
  obtain ⟨w1, ⟨a1, a2, a3, a4, a5, a6⟩, w3, w4⟩ := hI
  obtain ⟨h1, h2, h3, h4⟩ := g
  have h100 : τ 100 = σ 100 := hτ 100 (by omega)
  refine ⟨by rw [h2 0 (by decide), bec_0 h (by decide), h100]; exact a1, by rw [h2 1 (by decide), bec_0 h (by decide), h100]; exact a2, by rw [h3, bec_0 h (by decide), h100]; exact a3, fun i hi => ?_⟩
  obtain ⟨b1, b2, b3, b4, b5, b6, b7, b8, b9, b10, b11⟩ := a5 i hi
  obtain ⟨c1, c2, c3, c4, c5⟩ := h4 i hi
  rw [c1, c2, c3, c4, c5, h1 102 (by omega), h1 105 (by omega), hτ 106 (by omega), hτ 107 (by omega), hτ 108 (by omega), hτ 109 (by omega), hτ 101 (by omega), hτ 102 (by omega), hτ 105 (by omega),
    bec_j h (show 1 ≤ 1 by decide) (by decide) hi, bec_j h (show 1 ≤ 2 by decide) (by decide) hi, bec_j h (show 1 ≤ 3 by decide) (by decide) hi, bec_j h (show 1 ≤ 4 by decide) (by decide) hi, bec_j h (show 1 ≤ 7 by decide) (by decide) hi, bec_j h (show 1 ≤ 8 by decide) (by decide) hi, bec_j h (show 1 ≤ 11 by decide) (by decide) hi]
  exact ⟨b1, b2, b3, b4, b7, b8, b11⟩
theorem mS.u25 {σ : Sg} {v : Int32} : mS σ (k_up σ 100 25 v) := ⟨fun c hc => by rw [up_rw, rw1_ne (by omega)], fun j hj => by rw [up_rw, rw1_eq, upd_n (by omega)]⟩
/-- what of the trial is the town's behind a feast -/
def Kt (σ s : Sg) : Prop := (∀ r, r < 4 → s 15 r = σ 1 r) ∧ ∀ j r, j < 14 → j ≠ 1 → j ≠ 2 → j ≠ 3 → j ≠ 4 → j ≠ 7 → rng j r = true → s (15 + j) r = σ (1 + j) r
theorem feast_go {σ : Sg} {n : Nat} (hI : Inv σ) (hn : n ≤ 60) (e1 : σ 58 1 = nI n) (e2 : σ 100 16 = nI n) (e3 : ∀ i, i < 60 → σ 113 i = σ 59 i) (hc : cf (sg (σ 59) n) n 60 0 = -6) :
    ∃ s, m_X6_tryFeast σ = some (zI (decide (s 64 2 = 0)), s) ∧ cS σ s ∧ Kt σ s ∧ ∀ τ, (∀ c, 100 ≤ c → τ c = σ c) → ∃ t r kk, m_X7_goFeast τ = some (r, t) ∧ mS τ t ∧ kk ≤ 60 ∧ s 64 1 = nI kk ∧ t 100 25 = nI kk ∧
      ((s 64 2 = 0 ∧ r = -6 ∧ Wf s 15 ∧ NX s 15 t) ∨ (0 < s 64 2 ∧ r = nI kk ∧ t 100 24 = s 64 2)) := by
  obtain ⟨s0, g0, g1⟩ := q_become (a := 15) (b := 1) (σ := σ) (by omega)
  have w0 : Wf s0 15 := Wf.bec g1 hI.1
  have key : ∀ τ, (∀ c, 100 ≤ c → τ c = σ c) → ∃ s' t' r kk, m_X0_hold 15 s0 = some s' ∧ m_X7_goFeast τ = some (r, t') ∧ fF s0 s' ∧ mS τ t' ∧ kk ≤ 60 ∧ s' 64 1 = nI kk ∧ t' 100 25 = nI kk ∧
      ((s' 64 2 = 0 ∧ r = -6 ∧ Wf s' 15 ∧ NX s' 15 t') ∨ (0 < s' 64 2 ∧ r = nI kk ∧ t' 100 24 = s' 64 2)) := by
    intro τ hτ
    obtain ⟨t0, t1, t2⟩ := q_asNow (σ := τ)
    have x0 := feast_NX hI hτ g1 t2
    have c58 : s0 58 = σ 58 := g1.1 58 (by omega)
    have c59 : s0 59 = σ 59 := g1.1 59 (by omega)
    have c113 : t0 113 = σ 113 := by rw [t2.1 113 (by omega)]; exact hτ 113 (by omega)
    have d58 : k_up (k_up s0 64 1 0) 64 2 0 58 = σ 58 := by rw [up_rw, rw1_ne (by decide), up_rw, rw1_ne (by decide)]; exact c58
    have d59 : k_up (k_up s0 64 1 0) 64 2 0 59 = σ 59 := by rw [up_rw, rw1_ne (by decide), up_rw, rw1_ne (by decide)]; exact c59
    obtain ⟨s', t', r, kk, r1, r2, r3, r4, r5⟩ := feast_lp hn 60 e_F e_F 0 0 (k_up (k_up s0 64 1 0) 64 2 0) (k_up t0 100 25 0) (by omega) (by omega) (by omega) (e_F_lt (by omega)) (e_F_lt (by omega)) (by rw [d58]; exact e1)
      (by rw [up_rw, rw1_eq, upd_n (by decide), t2.2.1 16 (by decide), hτ 100 (by omega)]; exact e2) (fun j hj => by rw [d59, up_rw, rw1_ne (by decide), c113]; exact e3 j hj) w0.up64.up64 (x0.up64.up64.u24 (Or.inr rfl))
      (by rw [up_rw, rw1_eq, upd_s]) (by rw [up_rw, rw1_eq, upd_n (by decide), up_rw, rw1_eq, upd_s]; rfl) (by rw [up_rw, rw1_eq, upd_s]; rfl) (by rw [d59]; exact hc)
    refine ⟨s', t', r, kk, ?_, ?_, ((fF.rf s0).up.up).tr r3, (t2.mS.tr mS.u25).tr r4.mS, r5⟩
    · unfold m_X0_hold
      simp only [p_lt]
      exact r1
    · unfold m_X7_goFeast
      simp only [t1, p_cV, p_lt]
      exact r2
  obtain ⟨s', t', r, kk, r1, r2, r3, r4, r5⟩ := key σ (fun _ _ => rfl)
  refine ⟨s', ?_, g1.cS.tr r3.cS, ⟨fun r hr => ?_, fun j r hj j1 j2 j3 j4 j7 hr => ?_⟩, fun τ hτ => ?_⟩
  · unfold m_X6_tryFeast
    simp only [q_firstFault hn e1, p_cI, hc, if_true, g0, p_cV, r1]
    by_cases h : s' 64 2 = 0
    · simp only [h, if_true, decide_true, zI_t, p_rz1]
    · simp only [h, if_false, decide_false, zI_f, p_rz0]
  · rw [r3 15 (by decide) (by decide) (by decide) (by decide) (by decide) (by decide) (by decide) (by decide) (by decide)]; exact bec_0 g1 hr
  · rw [r3 (15 + j) (by omega) (by omega) (by omega) (by omega) (by omega) (by omega) (by omega) (by omega) (by omega)]; exact g1.2 j r hj hr
  · obtain ⟨s'', t'', r', kk', q1, q2, q3, q4, q5⟩ := key τ hτ
    rw [r1] at q1
    injection q1 with q1
    subst q1
    exact ⟨t'', r', kk', q2, q4, q5⟩
theorem op_judge (x : Int32) : SimI (m_X6_judge x) (m_X7_judge x) := by
  intro σ hI
  obtain ⟨w1, w2, ⟨⟨n, hn, e1, e2⟩, e3⟩, w4⟩ := id hI
  unfold m_X6_judge m_X7_judge
  simp only [q_within, q_in, p_cI, p_ifz]
  by_cases hx : inB x 0 1 = true
  · simp only [hx, if_true, q_firstFault hn e1, p_cI]
    rcases cf_ge (s := sg (σ 59) n) (n := n) 60 0 (by omega) with hc | ⟨j, hj, hc⟩
    · obtain ⟨s, t1, t2, t3, t4⟩ := feast_go hI hn e1 e2 e3 hc
      obtain ⟨t, r, kk, u1, u2, u3, u4, u5, u6⟩ := t4 s (fun c hc => t2 c (by omega))
      have f2 : s 100 16 = nI n := by rw [t2 100 (by omega)]; exact e2
      have f3 : sg (s 113) n = sg (σ 59) n := by rw [t2 113 (by omega)]; exact sg_60 hn e3
      have hIt : Inv t := (hI.ps t2.ps).ps u2.ps
      have z6 : (-6 : Int32) < 0 := by decide
      simp only [hc, if_true, t1, p_cI, p_ifz]
      rcases u6 with ⟨v1, rfl, v3, v4⟩ | ⟨v1, rfl, v3⟩
      · refine ⟨-6, s, t, by simp only [v1, decide_true, if_true], ?_, hIt⟩
        simp only [q_faultOf hn f2, f3, hc, p_cI, z6, if_true, u1, b_X7_judge_35]
      · have hne : ¬ s 64 2 = 0 := lt_n0 v1
        have hp : ¬ nI kk < 0 := nI_pos (by omega)
        by_cases h0 : x = 0
        · refine ⟨nI kk, s, t, by simp only [hne, decide_false, Bool.false_eq_true, if_false, h0, if_true, u4], ?_, hIt⟩
          simp only [q_faultOf hn f2, f3, hc, p_cI, z6, if_true, u1, hp, if_false, h0, b_X7_judge_35]
        · refine ⟨s 64 2, s, t, by simp only [hne, decide_false, Bool.false_eq_true, if_false, h0], ?_, hIt⟩
          simp only [q_faultOf hn f2, f3, hc, p_cI, z6, if_true, u1, hp, if_false, h0, v3]
    · have hp : ¬ nI j < 0 := nI_pos (by omega)
      refine ⟨-5, σ, σ, by simp only [hc, nI_n6 hj, if_false], ?_, hI⟩
      simp only [q_faultOf hn e2, sg_60 hn e3, hc, p_cI, hp, if_false]
  · refine ⟨-2, σ, σ, by simp only [hx, Bool.false_eq_true, if_false], by simp only [hx, Bool.false_eq_true, if_false], hI⟩
theorem q_bar {σ τ : Sg} {n : Nat} (hn : n ≤ 60) (e2 : σ 100 16 = nI n) (e3 : ∀ i, i < 60 → σ 113 i = σ 59 i) (hτ : ∀ c, 100 ≤ c → τ c = σ c) (hc : cf (sg (σ 59) n) n 60 0 = -6) {r : Int32} {t : Sg} (h : m_X7_goFeast τ = some (r, t)) : m_X7_barOfFeast τ = some (if r < 0 then 0 else -5, t) := by
  have f2 : τ 100 16 = nI n := by rw [hτ 100 (by omega)]; exact e2
  have f3 : sg (τ 113) n = sg (σ 59) n := by rw [hτ 113 (by omega)]; exact sg_60 hn e3
  have z6 : ¬ (0 : Int32) ≤ -6 := by decide
  unfold m_X7_barOfFeast
  simp only [q_faultOf hn f2, f3, hc, p_cI, z6, if_false, h, b_X7_barOfFeast_14]
  by_cases q : r < 0 <;> simp only [q, if_true, if_false]
theorem q_barF {τ : Sg} {n j : Nat} (hn : n ≤ 60) (e2 : τ 100 16 = nI n) (hj : j < 1000) (hc : cf (sg (τ 113) n) n 60 0 = nI j) : m_X7_barOfFeast τ = some (-5, τ) := by
  have z : 0 ≤ nI j := nI_pos' (by omega)
  unfold m_X7_barOfFeast
  simp only [q_faultOf hn e2, hc, p_cI, z, if_true, b_X7_barOfFeast_14]
theorem q_tryF {σ : Sg} {n j : Nat} (hn : n ≤ 60) (e1 : σ 58 1 = nI n) (hj : j < 1000) (hc : cf (sg (σ 59) n) n 60 0 = nI j) : m_X6_tryFeast σ = some (0, σ) := by
  unfold m_X6_tryFeast
  simp only [q_firstFault hn e1, hc, p_cI, nI_n6 hj, if_false, p_rz0]
theorem NX.state {σ τ : Sg} {k p j : Nat} (h : NX σ k τ) (hw : ∀ p, p < 5 → σ (k + 1) p = -1 ∨ ∃ c, c < 5 ∧ σ (k + 1) p = nI c) (hp : p < 5) (hj : j ≤ 4) : m_X7_stateNow (nI p) (nI j) τ = some (stV σ k p j, τ) := by
  unfold m_X7_stateNow
  obtain ⟨b1, b2, b3, b4, -⟩ := h.2.2.2 p hp
  have : j = 0 ∨ j = 1 ∨ j = 2 ∨ j = 3 ∨ j = 4 := by omega
  rcases this with rfl | rfl | rfl | rfl | rfl
  · rw [sw_in (by decide) (by decide)]
    simp only [p_gd (in5 hp), ix5 hp, stV, b1]
    rcases hw p hp with e | ⟨c, hc, e⟩
    · rw [e, mc_n]; simp
    · rw [e, (mc_c hc).mpr rfl]
      have n5 : ¬ nI c = 5 := fun q => by have := (nI_eq (a := c) (b := 5) (by omega) (by decide)).mp q; omega
      have n1 : ¬ nI c = -1 := fun q => m1_c hc q.symm
      simp [n5, n1]
  · rw [sw_in (by decide) (by decide)]; simp only [p_gd (in5 hp), ix5 hp, stV, b2]
  · rw [sw_in (by decide) (by decide)]; simp only [p_gd (in5 hp), ix5 hp, stV, b3]
  · rw [sw_in (by decide) (by decide)]; simp only [p_gd (in5 hp), ix5 hp, stV, b4]
  · rw [sw_out (by decide) (by decide), h.seat hw hp]
    simp only [p_cI, stV]
theorem op_behind (x y : Int32) : SimI (m_X6_behind x y) (m_X7_behind x y) := by
  intro σ hI
  obtain ⟨w1, w2, ⟨⟨n, hn, e1, e2⟩, e3⟩, w4⟩ := id hI
  have a1 := w2.1
  have z0 : (0 : Int32) ≤ 0 := by decide
  have z5 : ¬ (0 : Int32) ≤ -5 := by decide
  unfold m_X6_behind m_X7_behind
  simp only [q_hasPerson, q_isThere, q_within, q_in, p_cI, p_ifz]
  cases hx : hB (σ 1 0) x
  · exact ⟨_, _, σ, rfl, by simp [a1, hx], hI⟩
  · obtain ⟨p, hp, rfl⟩ := hB_ix hx
    have tp : tB (σ 1 0) (nI p) = true := by rw [← hB_nI hp]; exact hx
    simp only [if_true]
    cases hy : inB y 0 4
    · exact ⟨_, _, σ, rfl, by simp [a1, hx], hI⟩
    · obtain ⟨j, hj, rfl⟩ := inB_ix (n := 4) (by decide) hy
      simp only [if_true]
      rcases cf_ge (s := sg (σ 59) n) (n := n) 60 0 (by omega) with hc | ⟨i, hi, hc⟩
      · obtain ⟨s, t1, t2, t3, t4⟩ := feast_go hI hn e1 e2 e3 hc
        simp only [t1, p_cI, p_ifz]
        by_cases hz : s 64 2 = 0
        · have tps : tB (s 15 0) (nI p) = true := by rw [t3.1 0 (by decide)]; exact tp
          obtain ⟨s2, g1, g2⟩ := q_stateIn (k := 15) (σ := s) tw_15 hp hj tps
          have hτ : ∀ c, 100 ≤ c → s2 c = σ c := fun c hc => by rw [g2 c (by omega) (by omega) (by omega)]; exact t2 c (by omega)
          obtain ⟨t, r, kk, u1, u2, u3, u4, u5, u6⟩ := t4 s2 hτ
          rcases u6 with ⟨v1, rfl, v3, v4⟩ | ⟨v1, rfl, v3⟩
          · refine ⟨stV s 15 p j, s2, t, by simp only [hz, decide_true, if_true, g1, p_cI], ?_, ((hI.ps t2.ps).ps g2.ps).ps u2.ps⟩
            have e0 : s2 100 0 = σ 1 0 := by rw [hτ 100 (by omega)]; exact a1
            have z6 : (-6 : Int32) < 0 := by decide
            simp only [e0, hx, if_true, q_bar hn e2 e3 hτ hc u1, p_cI, z6, z0, v4.state (wear_ok v3) hp hj]
          · exact absurd hz (lt_n0 v1)
        · obtain ⟨t, r, kk, u1, u2, u3, u4, u5, u6⟩ := t4 s (fun c hc => t2 c (by omega))
          rcases u6 with ⟨v1, rfl, v3, v4⟩ | ⟨v1, rfl, v3⟩
          · exact absurd v1 hz
          · refine ⟨-5, s, t, by simp only [hz, decide_false, Bool.false_eq_true, if_false], ?_, (hI.ps t2.ps).ps u2.ps⟩
            have e0 : s 100 0 = σ 1 0 := by rw [t2 100 (by omega)]; exact a1
            have hp' : ¬ nI kk < 0 := nI_pos (by omega)
            simp only [e0, hx, if_true, q_bar hn e2 e3 (fun c hc => t2 c (by omega)) hc u1, p_cI, hp', if_false, z5]
      · refine ⟨-5, σ, σ, by simp only [q_tryF hn e1 hi hc, p_cI, if_true], ?_, hI⟩
        have f3 : cf (sg (σ 113) n) n 60 0 = nI i := by rw [sg_60 hn e3]; exact hc
        simp only [a1, hx, if_true, q_barF hn e2 hi f3, p_cI, z5, if_false]
