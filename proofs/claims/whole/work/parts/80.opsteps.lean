def yM : Option Nat → Int32
  | none => -6
  | some q => nI q
theorem q_isSo {σ u : Sg} {D : Nat → Nat} {p : Nat} {q : Option Nat} {z : Nat} (hI : Inv σ) (hD : dok D) (hr : rF σ u) (ho : oD D u) (hp : p < 5) (hq : ∀ x, q = some x → x < 5) (hz : z ≤ 4) : m_X7_isSo (nI p) (yM q) (nI z) u = some (zI (fitF σ p q z D), u) := by
  unfold m_X7_isSo
  have hl := sK_le σ D p
  cases q with
  | none =>
    have e1 : ¬ 0 ≤ yM none := by decide
    have lt : (nI z < nI (sK σ D p)) ↔ z < sK σ D p := nI_ltI (by omega) (by omega)
    simp only [e1, if_false, b_X7_isSo_19, q_refSeat hI hD hr ho hp, p_cI, lt, fitF]
    by_cases h : z < sK σ D p
    · rw [if_pos h, p_rz0, decide_eq_false (by omega), zI_f]
    · rw [if_neg h, p_rz1, decide_eq_true (by omega), zI_t]
  | some x =>
    have hx := hq x rfl
    have e2 : yM (some x) = nI x := rfl
    have e1 : 0 ≤ nI x := nI_pos' (by omega)
    have hl2 := sK_le σ D x
    have o := off_1 _ (show sK σ D p < 6 by omega) _ (show sK σ D x < 6 by omega)
    simp only [e2, e1, if_true, b_X7_isSo_19, b_X7_isSo_54, q_refSeat hI hD hr ho hp, q_refSeat hI hD hr ho hx, p_cI, fitF]
    by_cases h1 : nI (sK σ D p) - nI (sK σ D x) = 1
    · rw [if_pos h1, p_rz1, decide_eq_true (o.mp (Or.inl h1)), zI_t]
    · rw [if_neg h1]
      by_cases h2 : nI (sK σ D p) - nI (sK σ D x) = -1
      · rw [if_pos h2, p_rz1, decide_eq_true (o.mp (Or.inr h2)), zI_t]
      · rw [if_neg h2, p_rz0, decide_eq_false (fun h => (o.mpr h).elim h1 h2), zI_f]
/-- the marks ahead of a level -/
def LR (Kn N : Nat → Bool) (n : Nat) (r0 : Nat → Int32) : Prop := ∀ e, e < 7776 → (r0 e = nI n ↔ N (lam e) = true) ∧ (0 ≤ r0 e ↔ Kn (lam e) = true) ∧ r0 e ≤ nI n
theorem LR_next {Kn N T : Nat → Bool} {n : Nat} {r0 : Nat → Int32} {u : Sg} (hn : n < 100) (h : LR Kn N n r0) (g : RR Kn T r0 n u) : LR (fun a => Kn a || T a) (fun a => T a && !Kn a) (n + 1) (u 119) := by
  intro e he
  obtain ⟨h1, h2, h3⟩ := h e he
  have hpn : 0 ≤ nI (n + 1) := nI_pos' (by omega)
  have hne : ¬ nI (n + 1) ≤ nI n := x_ge (by omega) (by omega)
  rw [g e he]
  cases q : (T (lam e) && !Kn (lam e))
  · simp only [Bool.false_eq_true, if_false]
    refine ⟨⟨fun z => ?_, fun z => by rw [show (T (lam e) && !Kn (lam e)) = true from z] at q; cases q⟩, ⟨fun z => ?_, fun z => ?_⟩, Int32.le_trans h3 (nI_le (by omega) (by omega))⟩
    · rw [z] at h3; exact absurd h3 hne
    · rw [h2.mp z, Bool.true_or]
    · rw [Bool.or_eq_true] at z
      rcases z with z | z
      · exact h2.mpr z
      · rw [z, Bool.true_and] at q
        exact h2.mpr (by simpa using q)
  · simp only [if_true]
    have q' := q
    rw [Bool.and_eq_true] at q'
    exact ⟨⟨fun _ => q, fun _ => trivial⟩, ⟨fun _ => by show (Kn (lam e) || T (lam e)) = true; rw [q'.1, Bool.or_true], fun _ => hpn⟩, Int32.le_refl _⟩
theorem q_level {σ τ s : Sg} {Kn N : Nat → Bool} {n p : Nat} {q : Option Nat} {z : Nat} {K : Int32 → Sg → Option (Int32 × Sg)} (hI : Inv σ) (hn : n < 100) (hp : p < 5) (hq : ∀ x, q = some x → x < 5) (hz : z ≤ 4) (hN : pG σ N) (hm : mS τ s) (hr : rF σ s) (h : LR Kn N n (s 119)) (Post : Option (Int32 × Sg) → Prop)
    (hK : anR N (fitF σ p q z) 7776 = false → ∀ t, mS τ t → rF σ t → RR Kn (lTR σ N 7776) (s 119) n t → Post (K (nI n) t))
    (hF : anR N (fitF σ p q z) 7776 = true → ∀ t, mS τ t → Post (some (nI n, t))) : Post (e_lp2 (d_X7_stepsTo_52 (nI p) (yM q) (nI z) K) e_F (nI n) 0 s) := by
  have h0 : ∀ e, e < 7776 → (0 ≤ s 119 e ↔ Kn (lam e) = true) := fun e he => (h e he).2.1
  refine lp2_z Post (fun e a u => a = nI n ∧ mS τ u ∧ rF σ u ∧ RR Kn (lTR σ N e) (s 119) n u ∧ anR N (fitF σ p q z) e = false) 7776 ?_ ?_ (e_F_lt (by omega)) ⟨rfl, hm, hr, fun e he => by show _ = if (false && _) = true then _ else _; simp, rfl⟩
  · rintro H a u ⟨rfl, u1, u2, u3, u4⟩
    simp only [d_X7_stepsTo_52, le7776, if_true]
    exact hK u4 u u1 u2 u3
  · rintro H e a u he ⟨rfl, u1, u2, u3, u4⟩ kk
    have test : (u 119 e = nI n) ↔ N (lam e) = true := by
      rw [u3 e he]
      obtain ⟨h1, h2, h3⟩ := h e he
      cases qq : (lTR σ N e (lam e) && !Kn (lam e))
      · simp only [Bool.false_eq_true, if_false]; exact h1
      · simp only [if_true]
        rw [Bool.and_eq_true] at qq
        have kf : Kn (lam e) = false := by simpa using qq.2
        constructor
        · intro z'
          have := (nI_eq (a := n + 1) (b := n) (by omega) (by omega)).mp z'
          omega
        · intro z'
          have := h1.mpr z'
          have h0' : 0 ≤ s 119 e := by rw [this]; exact nI_pos' (by omega)
          rw [h2.mp h0'] at kf; cases kf
    simp only [d_X7_stepsTo_52, ge7776 he, if_false, p_gd (k7776 he), j7776 he, test, x_s]
    by_cases hNe : N (lam e) = true
    · rw [if_pos hNe]
      obtain ⟨v, v1, v2, v3⟩ := q_dress (u := u) he
      have hv : rF σ v := u2.mv (fun c c1 _ _ => v2 c c1)
      have hmv : mS τ v := u1.tr ⟨fun c hc => v2 c (by omega), fun j _ => by rw [v2 100 (by decide)]⟩
      have hg : gD σ (dR e) := fun x hx => by
        have := (hN _ hNe).2 x hx
        unfold lam at this
        rw [dc_cc (dR_ok e) x hx] at this
        exact this
      rw [v1, p_cV, q_isSo hI (dR_ok e) hv v3 hp hq hz, p_cI]
      simp only [p_ifz]
      by_cases hFe : fitF σ p q z (dR e) = true
      · rw [if_pos hFe]
        have := anR_mono hNe hFe (7776 - (e + 1))
        rw [show e + 1 + (7776 - (e + 1)) = 7776 by omega] at this
        exact hF this v hmv
      · rw [if_neg hFe]
        have eA : anR N (fitF σ p q z) (e + 1) = false := by
          have : anR N (fitF σ p q z) (e + 1) = (anR N (fitF σ p q z) e || fitF σ p q z (dR e)) := fd_t (op := bOr) (V := fun e => N (lam e)) hNe
          rw [this, u4]; simpa using hFe
        have uv : RR Kn (lTR σ N e) (s 119) n v := fun x hx => by rw [v2 119 (by decide)]; exact u3 x hx
        refine lp3_z Post (fun x a b w => a = nI n ∧ b = nI e ∧ mS τ w ∧ rF σ w ∧ oD (dR e) w ∧ RR Kn (fo (spr σ (dR e)) (lTR σ N e) x) (s 119) n w) 5 ?_ ?_ (e_F_lt (by omega)) ⟨rfl, rfl, hmv, hv, v3, uv⟩
        · rintro H2 a b w ⟨rfl, rfl, w1, w2, w3, w4⟩
          simp only [d_X7_stepsTo_94, le5, if_true, x_s]
          exact kk _ _ ⟨rfl, w1, w2, by rw [lTR_t hNe]; exact w4, eA⟩
        · rintro H2 x a b w hx ⟨rfl, rfl, w1, w2, w3, w4⟩ kk2
          obtain ⟨t, t1, t2, t3, t4⟩ := q_spreadM hI (dR_ok e) hg hx hn h0 w2 w3 w4
          simp only [d_X7_stepsTo_94, ge5 hx, if_false, x_s, t1, p_cV]
          refine kk2 _ _ _ ⟨rfl, rfl, w1.tr ⟨fun c hc => t4 c (by omega) (by omega), fun j _ => by rw [t4 100 (by decide) (by decide)]⟩, w2.mv (fun c c1 c2 _ => t4 c c1 c2), fun y hy => by rw [t3]; exact w3 y hy, ?_⟩
          rw [fo_s]; exact t2
    · rw [if_neg hNe]
      have nf : N (lam e) = false := by simpa using hNe
      have eA : anR N (fitF σ p q z) (e + 1) = false := by
        have : anR N (fitF σ p q z) (e + 1) = anR N (fitF σ p q z) e := fd_f (V := fun e => N (lam e)) nf
        rw [this]; exact u4
      exact kk _ _ ⟨rfl, u1, u2, by rw [lTR_f nf]; exact u3, eA⟩
theorem ge7' {i : Nat} (h : i < 7) : ¬ (7 : Int32) ≤ nI i := x_ge (n := 7) h (by decide)
theorem le7' : (7 : Int32) ≤ nI 7 := by decide
theorem q_stepsTo {σ τ : Sg} {p : Nat} {q : Option Nat} {z : Nat} (hI : Inv σ) (hτ : ∀ c, 100 ≤ c → τ c = σ c) (hp : p < 5) (hq : ∀ x, q = some x → x < 5) (hz : z ≤ 4) : ∃ u, m_X7_stepsTo (nI p) (yM q) (nI z) τ = some (frA (AC σ p q z) 7 0, u) ∧ mS τ u := by
  obtain ⟨d1, d2, d3⟩ := D0_ok hI
  have hAC : ∀ n, AC σ p q z n = anR (lv2 σ (cc (D0 σ)) n).2 (fitF σ p q z) 7776 := fun n => an_swap (fun D E h => fitF_cong hp hq h)
  unfold m_X7_stepsTo
  refine lp1_z (fun o => ∃ u : Sg, o = some (frA (AC σ p q z) 7 0, u) ∧ mS τ u) (fun i s => (∀ c, c ≠ 119 → s c = τ c) ∧ ∀ e, e < i → s 119 e = -1) 7776 ?_ ?_ (e_F_lt (by omega)) ⟨fun _ _ => rfl, fun e he => by omega⟩
  · rintro H s ⟨f1, f2⟩
    obtain ⟨t0, t1, t2⟩ := q_asNow (σ := s)
    have ms : mS τ s := ⟨fun c hc => f1 c (by omega), fun j _ => by rw [f1 100 (by decide)]⟩
    have mt : mS τ t0 := ms.tr t2.mS
    have rt : rF σ t0 := by
      have := t2
      obtain ⟨h1, h2, h3, h4⟩ := this
      obtain ⟨w1, ⟨a1, a2, a3, a4, a5, a6⟩, w3, w4⟩ := id hI
      refine ⟨fun j hj => by rw [h2 j (by omega), f1 100 (by decide), hτ 100 (by omega)], fun c c1 c2 => by rw [h1 c (by omega), f1 c (by omega)]; exact hτ c (by omega), by rw [h3, f1 100 (by decide), hτ 100 (by omega)]; exact a3, fun i hi => ?_⟩
      rw [(h4 i hi).2.2.2.2, f1 101 (by decide), hτ 101 (by omega)]
      exact (a5 i hi).2.2.2.2.2.2.1
    have ot : oD (D0 σ) t0 := fun r hr => by
      rw [(t2.2.2.2 r hr).1, f1 106 (by decide), hτ 106 (by omega), d2 r hr]
      exact (hI.2.1.2.2.2.2.1 r hr).1
    have hE := rc_lt (D0 σ)
    have t119 : t0 119 = s 119 := t2.1 119 (by omega)
    simp only [d_X7_stepsTo_3, le7776, if_true, t1, p_cV, q_codeOf d1 ot, p_cI, p_wr (k7776 hE), j7776 hE]
    have hlr0 : LR (lv2 σ (cc (D0 σ)) 0).1 (lv2 σ (cc (D0 σ)) 0).2 0 (k_up t0 119 (rc (D0 σ)) 0 119) := by
      intro e he
      rw [up_rw, rw1_eq, t119]
      have lv0 : ∀ a, (lv2 σ (cc (D0 σ)) 0).1 a = decide (cc (D0 σ) = a) ∧ (lv2 σ (cc (D0 σ)) 0).2 a = decide (cc (D0 σ) = a) := fun a => ⟨by show (em a || decide (cc (D0 σ) = a)) = decide (cc (D0 σ) = a); rw [show em a = false from rfl, Bool.false_or], by show (em a || decide (cc (D0 σ) = a)) = decide (cc (D0 σ) = a); rw [show em a = false from rfl, Bool.false_or]⟩
      by_cases x : e = rc (D0 σ)
      · subst x
        rw [upd_s, (lv0 _).1, (lv0 _).2, lam_rc d1, decide_eq_true rfl]
        exact ⟨⟨fun _ => rfl, fun _ => rfl⟩, ⟨fun _ => rfl, fun _ => by decide⟩, by decide⟩
      · rw [upd_n x, f2 e he, (lv0 _).1, (lv0 _).2, decide_eq_false (fun hh => x (lam_inj he hE (by rw [lam_rc d1]; exact hh.symm)))]
        exact ⟨⟨fun hh => absurd hh (by decide), fun hh => by cases hh⟩, ⟨fun hh => absurd hh (by decide), fun hh => by cases hh⟩, by decide⟩
    refine lp1_z (fun o => ∃ u : Sg, o = some (frA (AC σ p q z) 7 0, u) ∧ mS τ u) (fun n u => mS τ u ∧ rF σ u ∧ frA (AC σ p q z) 7 0 = frA (AC σ p q z) (7 - n) n ∧ LR (lv2 σ (cc (D0 σ)) n).1 (lv2 σ (cc (D0 σ)) n).2 n (u 119)) 7 ?_ ?_ (e_F_lt (by omega)) ⟨mt.up (by omega), rt.mv (fun c _ c2 _ => by rw [up_rw, rw1_ne c2]), rfl, hlr0⟩
    · rintro H2 u ⟨u1, u2, u3, u4⟩
      simp only [d_X7_stepsTo_42, le7', if_true]
      exact ⟨u, by rw [u3]; rfl, u1⟩
    · rintro H2 n u hn ⟨u1, u2, u3, u4⟩ kk
      simp only [d_X7_stepsTo_42, ge7' hn, if_false]
      have e7 : 7 - n = (7 - (n + 1)) + 1 := by omega
      rw [e7] at u3
      have ef : frA (AC σ p q z) ((7 - (n + 1)) + 1) n = if AC σ p q z n = true then nI n else frA (AC σ p q z) (7 - (n + 1)) (n + 1) := rfl
      rw [ef] at u3
      refine q_level (q := q) (z := z) hI (by omega) hp hq hz (lv2_G (gN_cc d1 d3) n).2 u1 u2 u4 (fun o => ∃ u : Sg, o = some (frA (AC σ p q z) 7 0, u) ∧ mS τ u) (fun hA t h1 h2 h3 => ?_) (fun hA t h1 => ?_)
      · rw [if_neg (by rw [hAC n, hA]; decide)] at u3
        rw [x_s]
        refine kk t ⟨h1, h2, u3, ?_⟩
        have := LR_next (by omega) u4 h3
        rw [← lT_swap] at this
        exact this
      · rw [if_pos (by rw [hAC n, hA])] at u3
        exact ⟨t, by rw [u3], h1⟩
  · rintro H i s hi ⟨f1, f2⟩ kk
    simp only [d_X7_stepsTo_3, ge7776 hi, if_false, p_wr (k7776 hi), j7776 hi, x_s]
    refine kk _ ⟨fun c hc => by rw [up_rw, rw1_ne hc]; exact f1 c hc, fun e he => ?_⟩
    rw [up_rw, rw1_eq]
    by_cases x : e = i
    · subst x; rw [upd_s]
    · rw [upd_n x]; exact f2 e (by omega)
theorem op_beside (x y : Int32) : SimI (m_X6_beside x y) (m_X7_beside x y) := by
  intro σ hI
  obtain ⟨w1, w2, w3, w4⟩ := id hI
  have a1 := w2.1
  unfold m_X6_beside m_X7_beside
  simp only [q_hasPerson, q_isThere, p_cI, p_ifz]
  cases hx : hB (σ 1 0) x
  · exact ⟨_, _, σ, rfl, by simp only [a1, hx, Bool.false_eq_true, if_false], hI⟩
  · obtain ⟨p, hp, rfl⟩ := hB_ix hx
    have tp : tB (σ 1 0) (nI p) = true := by rw [← hB_nI hp]; exact hx
    simp only [if_true]
    cases hy : hB (σ 1 0) y
    · exact ⟨_, _, σ, rfl, by simp only [a1, hx, hy, if_true, Bool.false_eq_true, if_false], hI⟩
    · obtain ⟨q, hq, rfl⟩ := hB_ix hy
      have tq : tB (σ 1 0) (nI q) = true := by rw [← hB_nI hq]; exact hy
      simp only [if_true]
      by_cases e : nI p = nI q
      · exact ⟨-1, σ, σ, by simp only [e, if_true], by simp only [a1, hx, hy, e, if_true], hI⟩
      · simp only [e, if_false]
        obtain ⟨u, u1, u2⟩ := q_fewest (p := p) (q := some q) (z := 0) hI hp tp (fun x hx => by injection hx with hx; subst hx; exact ⟨hq, tq⟩) (by omega)
        obtain ⟨v, v1, v2⟩ := q_stepsTo (τ := u) (p := p) (q := some q) (z := 0) hI (fun c hc => u2 c (by omega)) hp (fun x hx => by injection hx with hx; subst hx; exact hq) (by omega)
        have e0 : u 100 0 = σ 1 0 := by rw [u2 100 (by omega)]; exact a1
        have u1' : m_X2_fewest 1 (nI p) (nI q) 0 σ = some (frA (AC σ p (some q) 0) 7 0, u) := u1
        have v1' : m_X7_stepsTo (nI p) (nI q) 0 u = some (frA (AC σ p (some q) 0) 7 0, v) := v1
        exact ⟨_, u, v, by rw [u1', p_cI], by simp only [e0, hx, hy, if_true]; rw [v1', p_cI], (hI.ps u2.ps).ps v2.ps⟩
theorem op_head (x y : Int32) : SimI (m_X6_head x y) (m_X7_head x y) := by
  intro σ hI
  obtain ⟨w1, w2, w3, w4⟩ := id hI
  have a1 := w2.1
  unfold m_X6_head m_X7_head
  simp only [q_hasPerson, q_isThere, s_isSeat, q_in, p_cI, p_ifz]
  cases hx : hB (σ 1 0) x
  · exact ⟨_, _, σ, rfl, by simp only [a1, hx, Bool.false_eq_true, if_false], hI⟩
  · obtain ⟨p, hp, rfl⟩ := hB_ix hx
    have tp : tB (σ 1 0) (nI p) = true := by rw [← hB_nI hp]; exact hx
    simp only [if_true]
    cases hy : inB y 0 4
    · exact ⟨_, _, σ, rfl, by simp only [a1, hx, if_true, Bool.false_eq_true, if_false], hI⟩
    · obtain ⟨z, hz, rfl⟩ := inB_ix (n := 4) (by decide) hy
      simp only [if_true]
      obtain ⟨u, u1, u2⟩ := q_fewest (p := p) (q := none) (z := z) hI hp tp (fun x hx => by cases hx) hz
      obtain ⟨v, v1, v2⟩ := q_stepsTo (τ := u) (p := p) (q := none) (z := z) hI (fun c hc => u2 c (by omega)) hp (fun x hx => by cases hx) hz
      have e0 : u 100 0 = σ 1 0 := by rw [u2 100 (by omega)]; exact a1
      have u1' : m_X2_fewest 1 (nI p) (-1) (nI z) σ = some (frA (AC σ p none z) 7 0, u) := u1
      have v1' : m_X7_stepsTo (nI p) (-6) (nI z) u = some (frA (AC σ p none z) 7 0, v) := v1
      exact ⟨_, u, v, by rw [u1', p_cI], by simp only [e0, hx, if_true]; rw [v1', p_cI], (hI.ps u2.ps).ps v2.ps⟩
