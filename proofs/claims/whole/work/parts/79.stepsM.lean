/-! ===== steps, the reference ===== -/
def rc (D : Nat → Nat) : Nat := cc (fun p => (D p + 5) % 6)
theorem rc_lt (D : Nat → Nat) : rc D < 7776 := cc_lt (fun _ _ => Nat.mod_lt _ (by decide))
theorem dR_rc {D : Nat → Nat} (h : dok D) : ∀ p, p < 5 → dR (rc D) p = D p := fun p hp => by
  have e : dR (rc D) p = (dc (rc D) p + 1) % 6 := rfl
  rw [e]
  unfold rc
  rw [dc_cc (fun _ _ => Nat.mod_lt _ (by decide)) p hp]
  have := h p hp
  omega
theorem lam_rc {D : Nat → Nat} (h : dok D) : lam (rc D) = cc D := cc_cong (dR_rc h)
theorem rc_dR {e : Nat} (h : e < 7776) : rc (dR e) = e := by
  have : rc (dR e) = cc (dc e) := cc_cong (fun p hp => by
    show ((dc e p + 1) % 6 + 5) % 6 = dc e p
    have := dc_lt e p
    omega)
  rw [this, cc_dc h]
theorem lam_inj {a b : Nat} (ha : a < 7776) (hb : b < 7776) (h : lam a = lam b) : a = b := by
  have e : ∀ p, p < 5 → dR a p = dR b p := fun p hp => by
    rw [← dc_cc (dR_ok a) p hp, ← dc_cc (dR_ok b) p hp]
    show dc (lam a) p = dc (lam b) p
    rw [h]
  rw [← rc_dR ha, ← rc_dR hb]
  exact cc_cong (fun p hp => by rw [e p hp])
theorem lam_lt (e : Nat) : lam e < 7776 := cc_lt (dR_ok e)
theorem mc_d : ∀ d, d < 6 → mc (dI d) = nI ((d + 5) % 6) := by decide
theorem q_codeL {u : Sg} {r : Nat → Nat} (hr : ∀ p, p < 5 → u 114 p = nI (r p)) : ∀ (n m a : Nat), n ≤ 5 → n < m → e_lp2 (d_X7_codeOf_4 (fun x1q2 σ2 => some (x1q2, σ2))) m (nI a) (xI n) u = some (nI (a * 6 ^ n + fo (fun i b => b + r i * 6 ^ i) 0 n), u)
  | 0, m, a, h1, h2 => by
    obtain ⟨m, rfl⟩ : ∃ m1, m = m1 + 1 := ⟨m - 1, by omega⟩
    have z : xI 0 < 0 := by decide
    rw [lp2_s]
    simp only [d_X7_codeOf_4, z, if_true, Nat.pow_zero, Nat.mul_one]
    rfl
  | n + 1, m, a, h1, h2 => by
    obtain ⟨m, rfl⟩ : ∃ m1, m = m1 + 1 := ⟨m - 1, by omega⟩
    have hn : n < 5 := by omega
    have z : ¬ nI n < 0 := nI_pos (by omega)
    have e6 : (6 : Int32) * nI a + nI (r n) = nI (6 * a + r n) := by
      have : (6 : Int32) * nI a = nI (6 * a) := pk_mul 6 a
      rw [this, nI_ad]
    have xs : xI (n + 1) = nI n := rfl
    rw [lp2_s, xs]
    simp only [d_X7_codeOf_4, z, if_false, p_gd (in5 hn), ix5 hn, hr n hn, p_lt, xI_p, e6]
    rw [q_codeL hr n m (6 * a + r n) (by omega) (by omega)]
    have : (6 * a + r n) * 6 ^ n + fo (fun i b => b + r i * 6 ^ i) 0 n = a * 6 ^ (n + 1) + fo (fun i b => b + r i * 6 ^ i) 0 (n + 1) := by
      rw [fo_s, Nat.add_mul, Nat.pow_succ]
      have : 6 * a * 6 ^ n = a * (6 ^ n * 6) := by rw [Nat.mul_comm 6 a, Nat.mul_assoc, Nat.mul_comm 6]
      omega
    rw [this]
theorem q_codeOf {u : Sg} {D : Nat → Nat} (hD : dok D) (ho : oD D u) : m_X7_codeOf u = some (nI (rc D), u) := by
  unfold m_X7_codeOf
  have := q_codeL (u := u) (r := fun p => (D p + 5) % 6) (fun p hp => by rw [ho p hp, mc_d _ (hD p hp)]) 5 e_F 0 (by omega) (e_F_lt (by omega))
  refine Eq.trans this ?_
  have e : 0 * 6 ^ 5 + fo (fun i b => b + (D i + 5) % 6 * 6 ^ i) 0 5 = rc D := by
    show 0 * 6 ^ 5 + (((((0 + (D 0 + 5) % 6 * 6 ^ 0) + (D 1 + 5) % 6 * 6 ^ 1) + (D 2 + 5) % 6 * 6 ^ 2) + (D 3 + 5) % 6 * 6 ^ 3) + (D 4 + 5) % 6 * 6 ^ 4) = rc D
    unfold rc cc
    simp only [Nat.reducePow, Nat.pow_zero]
    omega
  rw [e]
theorem k7776 {i : Nat} (h : i < 7776) : k_in (nI i) 7776 = true := x_in h (by decide)
theorem j7776 {i : Nat} (h : i < 7776) : Int32.toNatClampNeg (nI i) = i := x_ix (by omega)
/-- one reach of the reference's -/
theorem q_reachM {u : Sg} {D : Nat → Nat} {p q a b : Nat} {st : Int32} (hD : dok D) (ho : oD D u) (hp : p < 5) (hq : q < 5) (ha : a < 6) (hb : b < 6) (hab : p = q → a = b) :
    ∃ t, m_X7_reach (nI p) (mc (dI a)) (nI q) (mc (dI b)) st u = some t ∧ t 114 = u 114 ∧ (∀ c, c ≠ 114 → c ≠ 119 → t c = u c) ∧ t 119 = upd (u 119) (rc (uN' (uN' D p a) q b)) (if 0 ≤ u 119 (rc (uN' (uN' D p a) q b)) then u 119 (rc (uN' (uN' D p a) q b)) else st) := by
  have k114 : k_ar 114 = true := by decide
  have l114 : k_ln 114 = 5 := by decide
  have k119 : k_ar 119 = true := by decide
  have l119 : k_ln 119 = 7776 := by decide
  have hD' : dok (uN' (uN' D p a) q b) := dok_up (dok_up hD ha) hb
  have hE := rc_lt (uN' (uN' D p a) q b)
  have key : ∀ v : Sg, v = k_up (k_up u 114 p (mc (dI a))) 114 q (mc (dI b)) → oD (uN' (uN' D p a) q b) v := fun v hv r hr => by
    rw [hv, up_rw, rw1_eq, up_rw, rw1_eq]
    show upd (upd (u 114) p (mc (dI a))) q (mc (dI b)) r = mc (dI (if r = q then b else if r = p then a else D r))
    by_cases e1 : r = q
    · subst e1; rw [upd_s, if_pos rfl]
    · rw [upd_n e1, if_neg e1]
      by_cases e2 : r = p
      · subst e2; rw [upd_s, if_pos rfl]
      · rw [upd_n e2, if_neg e2]; exact ho r hr
  have rest : ∃ t, b_X7_reach_39 (nI p) (mc (dI a)) (nI q) (mc (dI b)) st (u 114 p) (u 114 q) (mc (dI b)) (nI q) 114 (k_up u 114 p (mc (dI a))) = some t ∧ t 114 = u 114 ∧ (∀ c, c ≠ 114 → c ≠ 119 → t c = u c) ∧ t 119 = upd (u 119) (rc (uN' (uN' D p a) q b)) (if 0 ≤ u 119 (rc (uN' (uN' D p a) q b)) then u 119 (rc (uN' (uN' D p a) q b)) else st) := by
    have hc := q_codeOf hD' (key _ rfl)
    have e119 : k_up (k_up u 114 p (mc (dI a))) 114 q (mc (dI b)) 119 = u 119 := by rw [up_rw, rw1_ne (by decide), up_rw, rw1_ne (by decide)]
    simp only [b_X7_reach_39, p_gd k114, l114, p_wr (in5 hq), ix5 hq, hc, p_cI, p_gd (k7776 hE), j7776 hE, e119, b_X7_reach_74, p_gd k119, l119, p_wr (k7776 hE), p_wr (in5 hp), ix5 hp]
    have fin : ∀ y, ∃ t, some (k_up (k_up (k_up (k_up (k_up u 114 p (mc (dI a))) 114 q (mc (dI b))) 119 (rc (uN' (uN' D p a) q b)) y) 114 p (u 114 p)) 114 q (u 114 q)) = some t ∧ t 114 = u 114 ∧ (∀ c, c ≠ 114 → c ≠ 119 → t c = u c) ∧ t 119 = upd (u 119) (rc (uN' (uN' D p a) q b)) y := fun y => by
      refine ⟨_, rfl, ?_, fun c c1 c2 => ?_, ?_⟩
      · simp only [up_rw]
        simp (disch := decide) only [rw1_eq, rw1_ne]
        funext r
        by_cases e1 : r = q
        · subst e1; rw [upd_s]
        · rw [upd_n e1]
          by_cases e2 : r = p
          · subst e2; rw [upd_s]
          · rw [upd_n e2, upd_n e1, upd_n e2]
      · simp only [up_rw]
        rw [rw1_ne c1, rw1_ne c1, rw1_ne c2, rw1_ne c1, rw1_ne c1]
      · simp only [up_rw]
        simp (disch := decide) only [rw1_eq, rw1_ne]
    by_cases h0 : 0 ≤ u 119 (rc (uN' (uN' D p a) q b))
    · rw [if_pos h0, if_pos h0]; exact fin _
    · rw [if_neg h0, if_neg h0]; exact fin _
  unfold m_X7_reach
  simp only [p_gd (in5 hp), p_gd (in5 hq), ix5 hp, ix5 hq, p_lt, p_wr (in5 hp), nI_inj5 hq hp]
  by_cases e : q = p
  · rw [if_pos e]
    have : b = a := (hab e.symm).symm
    subst this
    exact rest
  · rw [if_neg e]; exact rest
/-- the reference's marks -/
def RR (Kn T : Nat → Bool) (r0 : Nat → Int32) (n : Nat) (u : Sg) : Prop := ∀ e, e < 7776 → u 119 e = if (T (lam e) && !Kn (lam e)) = true then nI (n + 1) else r0 e
theorem RR_reach {Kn T : Nat → Bool} {r0 : Nat → Int32} {n : Nat} {u t : Sg} {D : Nat → Nat} (hn : n < 100) (hD : dok D) (h0 : ∀ e, e < 7776 → (0 ≤ r0 e ↔ Kn (lam e) = true)) (h : RR Kn T r0 n u) (ht : t 119 = upd (u 119) (rc D) (if 0 ≤ u 119 (rc D) then u 119 (rc D) else nI (n + 1))) : RR Kn (ad T (cc D)) r0 n t := by
  intro e he
  rw [ht]
  have hl : lam (rc D) = cc D := lam_rc hD
  have hc := rc_lt D
  have hpn : 0 ≤ nI (n + 1) := nI_pos' (by omega)
  by_cases q : e = rc D
  · subst q
    rw [upd_s, h _ hc]
    have k0 := h0 _ hc
    rw [hl] at k0 ⊢
    unfold ad
    rw [decide_eq_true rfl, Bool.or_true, Bool.true_and]
    cases kk : Kn (cc D)
    · rw [Bool.not_false, Bool.and_true, if_pos rfl]
      cases tt : T (cc D)
      · have : ¬ 0 ≤ r0 (rc D) := fun z => by rw [k0.mp z] at kk; cases kk
        simp only [Bool.false_eq_true, if_false, this]
      · simp only [if_true, hpn]
    · have : 0 ≤ r0 (rc D) := k0.mpr kk
      rw [Bool.not_true, Bool.and_false]
      simp only [Bool.false_eq_true, if_false, this, if_true]
  · rw [upd_n q, h e he]
    have : ¬ cc D = lam e := fun z => q (lam_inj he hc (by rw [hl, z]))
    unfold ad
    rw [decide_eq_false this, Bool.or_false]
theorem q_wPM {σ u : Sg} {D : Nat → Nat} {x c : Nat} (hI : Inv σ) (hD : dok D) (hg : gD σ D) (hx : x < 5) (hc : c < 5) (hr : rF σ u) (ho : oD D u) : ∃ y, m_X7_whyNotPut (nI x) (nI c) u = some (y, u) ∧ (y = 0 ↔ cP σ D x c = true) := by
  obtain ⟨w1, ⟨a1, a2, a3, a4, b5, b6⟩, w3, w4⟩ := id hI
  have u0 : u 100 0 = σ 1 0 := by rw [hr.1 0 (by decide)]; exact a1
  have u1 : u 100 1 = σ 1 1 := by rw [hr.1 1 (by decide)]; exact a2
  have e5 : (5 ≤ u 114 x) ↔ D x = 0 := by
    rw [ho x hx]
    have : ∀ d, d < 6 → (5 ≤ mc (dI d) ↔ d = 0) := by decide
    exact this _ (hD x hx)
  have e102 : u 102 c = σ 9 c := by rw [hr.2.1 102 (by omega) (by omega)]; exact (b5 c hc).2.2.2.2.2.2.2.1
  have e105 : u 105 c = nI (hN σ c) := by
    rw [hr.2.1 105 (by omega) (by omega), (b5 c hc).2.2.2.2.2.2.2.2.2.2]
    unfold hN
    rcases w1.2.2.2.2.2.2.2.2.1 c hc with q | q
    · simp only [Nat.reduceAdd] at q
      rw [q]; rfl
    · simp only [Nat.reduceAdd] at q
      rw [q]; rfl
  have h1 : hN σ c ≤ 1 := by unfold hN; split <;> omega
  have em : cn5 (fun i => tB (u 100 0) (nI i) && decide (u 114 i = nI c)) = cD D c := cn5_cong (fun i hi => by
    have e1 : decide (u 114 i = nI c) = decide (D i = c + 1) := decide_eq_decide.mpr ((oD_5 hD ho hi).2 c hc)
    rw [e1, u0]
    rcases hg i hi with q | q
    · rw [q, decide_eq_false (by omega), Bool.and_false]
    · rw [show tB (σ 1 0) (nI i) = true from q, Bool.true_and])
  have hl := cn5_le (fun i => decide (D i = c + 1))
  have hl' : cD D c ≤ 5 := hl
  have lt : (nI (cD D c) ≤ nI (hN σ c)) ↔ cD D c ≤ hN σ c := nI_leI (by omega) (by omega)
  unfold m_X7_whyNotPut cP
  simp only [q_isThere, q_isCoat, u1, hB_tB hc, p_cI, p_ifz, p_gd (in5 hx), p_gd (in5 hc), ix5 hx, ix5 hc, e5, e102, q_many, em, e105, lt]
  simp only [u0, hB_tB hx]
  have n50 : ¬ (5 : Int32) = 0 := by decide
  have n10 : ¬ (1 : Int32) = 0 := by decide
  have n30 : ¬ (3 : Int32) = 0 := by decide
  have n40 : ¬ (4 : Int32) = 0 := by decide
  by_cases g1 : tB (σ 1 0) (nI x) = true
  · by_cases g2 : D x = 0
    · by_cases g3 : tB (σ 1 1) (nI c) = true
      · by_cases g4 : σ 9 c = nI x
        · by_cases g5 : cD D c ≤ hN σ c
          · exact ⟨0, by simp only [g1, g2, g3, g4, g5, if_true], by simp [peS, g1, g2, g3, g4, g5]⟩
          · exact ⟨5, by simp only [g1, g2, g3, g4, g5, if_true, if_false], by simp [g5, n50]⟩
        · exact ⟨4, by simp only [g1, g2, g3, g4, if_true, if_false], by simp [g4, n40]⟩
      · exact ⟨4, by simp only [g1, g2, g3, if_true, if_false, Bool.false_eq_true], by simp [g3, n40]⟩
    · exact ⟨3, by simp only [g1, g2, if_true, if_false], by simp [g2, n30]⟩
  · exact ⟨1, by simp only [g1, if_false, Bool.false_eq_true], by simp [peS, g1, n10]⟩
theorem q_wLM {σ u : Sg} {D : Nat → Nat} {x y : Nat} (hI : Inv σ) (hD : dok D) (hx : x < 5) (hy : y < 5) (h0 : ¬ D x = 0) (hr : rF σ u) (ho : oD D u) : ∃ r, m_X7_whyNotLend (nI x) (nI y) (u 114 x) u = some (r, u) ∧ (r = 0 ↔ cL σ D x y = true) := by
  have u0 : u 100 0 = σ 1 0 := by rw [hr.1 0 (by decide)]; exact hI.2.1.1
  have e5 : (5 ≤ u 114 y) ↔ D y = 0 := by
    rw [ho y hy]
    have : ∀ d, d < 6 → (5 ≤ mc (dI d) ↔ d = 0) := by decide
    exact this _ (hD y hy)
  unfold m_X7_whyNotLend cL
  simp only [q_isThere, u0, hB_tB hx, hB_tB hy, p_cI, p_ifz, p_gd (in5 hx), p_gd (in5 hy), ix5 hx, ix5 hy, nI_inj5 hx hy, e5, if_true]
  have n10 : ¬ (1 : Int32) = 0 := by decide
  have n30 : ¬ (3 : Int32) = 0 := by decide
  by_cases g1 : tB (σ 1 0) (nI x) = true
  · by_cases g2 : tB (σ 1 0) (nI y) = true
    · by_cases g3 : x = y
      · exact ⟨1, by simp only [g1, g2, g3, if_true], by simp [g3, n10]⟩
      · by_cases g4 : D y = 0
        · exact ⟨0, by simp only [g1, g2, g3, g4, if_true, if_false], by simp [peS, g1, g2, g3, g4, h0]⟩
        · exact ⟨3, by simp only [g1, g2, g3, g4, if_true, if_false], by simp [g4, n30]⟩
    · exact ⟨1, by simp only [g1, g2, if_true, if_false, Bool.false_eq_true], by simp [peS, g2, n10]⟩
  · exact ⟨1, by simp only [g1, if_false, Bool.false_eq_true], by simp [peS, g1, n10]⟩
theorem uN_uN (D : Nat → Nat) (p x : Nat) : uN' (uN' D p x) p x = uN' D p x := by
  funext q
  unfold uN'
  by_cases e : q = p
  · rw [if_pos e]
    simp [e]
  · rw [if_neg e]
theorem q_spreadM {σ u : Sg} {D : Nat → Nat} {Kn T : Nat → Bool} {r0 : Nat → Int32} {n x : Nat} (hI : Inv σ) (hD : dok D) (hg : gD σ D) (hx : x < 5) (hn : n < 100) (h0 : ∀ e, e < 7776 → (0 ≤ r0 e ↔ Kn (lam e) = true)) (hr : rF σ u) (ho : oD D u) (h : RR Kn T r0 n u) :
    ∃ t, m_X7_spread (nI x) (nI (n + 1)) u = some t ∧ RR Kn (spr σ D x T) r0 n t ∧ t 114 = u 114 ∧ ∀ c, c ≠ 114 → c ≠ 119 → t c = u c := by
  have hdx := hD x hx
  have u0 : ∀ v : Sg, (∀ c, c ≠ 114 → c ≠ 119 → v c = u c) → v 100 0 = σ 1 0 := fun v hv => by rw [hv 100 (by decide) (by decide), hr.1 0 (by decide)]; exact hI.2.1.1
  have e5 : ∀ v : Sg, v 114 = u 114 → ((5 ≤ v 114 x) ↔ D x = 0) := fun v hv => by
    rw [hv, ho x hx]
    have : ∀ d, d < 6 → (5 ≤ mc (dI d) ↔ d = 0) := by decide
    exact this _ hdx
  have m5 : (5 : Int32) = mc (dI 0) := by decide
  have rv : ∀ v : Sg, v 114 = u 114 → (∀ c, c ≠ 114 → c ≠ 119 → v c = u c) → rF σ v ∧ oD D v := fun v v1 v2 => ⟨hr.mv (fun c c1 c2 _ => v2 c c1 c2), fun p hp => by rw [v1]; exact ho p hp⟩
  have hm : ∀ v : Sg, RR Kn (tT σ D x T) r0 n v → v 114 = u 114 → (∀ c, c ≠ 114 → c ≠ 119 → v c = u c) → ∃ t, b_X7_spread_27 (nI x) (nI (n + 1)) v = some t ∧ RR Kn (spr σ D x T) r0 n t ∧ t 114 = u 114 ∧ ∀ c, c ≠ 114 → c ≠ 119 → t c = u c := by
    intro v hv1 hv2 hv3
    unfold b_X7_spread_27
    refine lp1_z (fun o => ∃ t : Sg, o = some t ∧ RR Kn (spr σ D x T) r0 n t ∧ t 114 = u 114 ∧ ∀ c, c ≠ 114 → c ≠ 119 → t c = u c) (fun i w => RR Kn (fo (tP σ D x) (tT σ D x T) i) r0 n w ∧ w 114 = u 114 ∧ ∀ c, c ≠ 114 → c ≠ 119 → w c = u c) 5 ?_ ?_ (e_F_lt (by omega)) ⟨hv1, hv2, hv3⟩
    · rintro H w ⟨w1, w2, w3⟩
      simp only [d_X7_spread_29, le5, if_true]
      refine lp1_z (fun o => ∃ t : Sg, o = some t ∧ RR Kn (spr σ D x T) r0 n t ∧ t 114 = u 114 ∧ ∀ c, c ≠ 114 → c ≠ 119 → t c = u c) (fun i z => RR Kn (fo (tL σ D x) (fo (tP σ D x) (tT σ D x T) 5) i) r0 n z ∧ z 114 = u 114 ∧ ∀ c, c ≠ 114 → c ≠ 119 → z c = u c) 5 ?_ ?_ (e_F_lt (by omega)) ⟨w1, w2, w3⟩
      · rintro H2 z ⟨z1, z2, z3⟩
        simp only [d_X7_spread_60, le5, if_true]
        exact ⟨z, rfl, z1, z2, z3⟩
      · rintro H2 i z hi ⟨z1, z2, z3⟩ kk
        obtain ⟨rz, oz⟩ := rv z z2 z3
        have no : ¬ cL σ D x i = true → ∃ t, H2 (nI (i + 1)) z = some t ∧ RR Kn (spr σ D x T) r0 n t ∧ t 114 = u 114 ∧ ∀ c, c ≠ 114 → c ≠ 119 → t c = u c := fun hcl => kk _ ⟨by rw [fo_s, tL, if_neg hcl]; exact z1, z2, z3⟩
        simp only [d_X7_spread_60, ge5 hi, if_false, q_isThere, u0 z z3, hB_tB hx, p_cI, p_ifz, p_gd (in5 hx), ix5 hx, e5 z z2, x_s]
        by_cases g1 : tB (σ 1 0) (nI x) = true
        · rw [if_pos g1]
          by_cases d0 : D x = 0
          · rw [if_pos d0]
            exact no (by simp [cL, d0])
          · rw [if_neg d0]
            obtain ⟨r, r1, r2⟩ := q_wLM hI hD hx hi d0 rz oz
            rw [r1, p_cI]
            by_cases q : r = 0
            · rw [if_pos q]
              have hcl := r2.mp q
              have hne : x ≠ i := by
                have := hcl
                unfold cL at this
                simp only [Bool.and_eq_true, Bool.not_eq_true', decide_eq_false_iff_not] at this
                exact this.2.2.2.1
              have e114 : z 114 x = mc (dI (D x)) := oz x hx
              rw [e114, m5]
              obtain ⟨t, t1, t2, t3, t4⟩ := q_reachM (u := z) (D := D) (p := x) (q := i) (a := 0) (b := D x) (st := nI (n + 1)) hD oz hx hi (by decide) hdx (fun e => absurd e hne)
              rw [t1, p_cV]
              refine kk _ ⟨?_, by rw [t2]; exact z2, fun c c1 c2 => by rw [t3 c c1 c2]; exact z3 c c1 c2⟩
              rw [fo_s, tL, if_pos hcl]
              exact RR_reach hn (dok_up (dok_up hD (by decide)) hdx) h0 z1 t4
            · rw [if_neg q]
              exact no (fun hcl => q (r2.mpr hcl))
        · rw [if_neg g1]
          exact no (by simp [cL, peS, g1])
    · rintro H i w hi ⟨w1, w2, w3⟩ kk
      obtain ⟨rw', ow⟩ := rv w w2 w3
      obtain ⟨r, r1, r2⟩ := q_wPM hI hD hg hx hi rw' ow
      simp only [d_X7_spread_29, ge5 hi, if_false, r1, p_cI, x_s]
      by_cases q : r = 0
      · rw [if_pos q]
        have ei : nI i = mc (dI (i + 1)) := by rw [dI_s, (mc_c hi).mpr rfl]
        obtain ⟨t, t1, t2, t3, t4⟩ := q_reachM (u := w) (D := D) (p := x) (q := x) (a := i + 1) (b := i + 1) (st := nI (n + 1)) hD ow hx hx (by omega) (by omega) (fun _ => rfl)
        rw [← ei] at t1
        rw [t1, p_cV]
        refine kk _ ⟨?_, by rw [t2]; exact w2, fun c c1 c2 => by rw [t3 c c1 c2]; exact w3 c c1 c2⟩
        rw [fo_s, tP, if_pos (r2.mp q)]
        rw [uN_uN] at t4
        exact RR_reach hn (dok_up hD (by omega)) h0 w1 t4
      · rw [if_neg q]
        refine kk _ ⟨?_, w2, w3⟩
        rw [fo_s, tP, if_neg (fun hcl => q (r2.mpr hcl))]; exact w1
  unfold m_X7_spread
  simp only [q_isThere, u0 u (fun _ _ _ => rfl), hB_tB hx, p_cI, p_ifz, p_gd (in5 hx), ix5 hx, e5 u rfl]
  by_cases g1 : tB (σ 1 0) (nI x) = true
  · rw [if_pos g1]
    by_cases d0 : D x = 0
    · rw [if_pos d0]
      exact hm u (by rw [tT, if_neg (by simp [cT, d0])]; exact h) rfl (fun _ _ _ => rfl)
    · rw [if_neg d0, m5]
      obtain ⟨t, t1, t2, t3, t4⟩ := q_reachM (u := u) (D := D) (p := x) (q := x) (a := 0) (b := 0) (st := nI (n + 1)) hD ho hx hx (by decide) (by decide) (fun _ => rfl)
      rw [t1, p_cV]
      rw [uN_uN] at t4
      exact hm t (by rw [tT, if_pos (by simp [cT, peS, g1, d0])]; exact RR_reach hn (dok_up hD (by decide)) h0 h t4) t2 t3
  · rw [if_neg g1]
    exact hm u (by rw [tT, if_neg (by simp [cT, peS, g1])]; exact h) rfl (fun _ _ _ => rfl)
