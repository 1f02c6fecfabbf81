/-! ===== rows of people ===== -/
def sv (σ : Sg) (D : Nat → Nat) (p : Nat) : Nat := if peS σ p = true then sK σ D p else 0
theorem sv_lt {σ : Sg} {D : Nat → Nat} {p : Nat} (hp : p < 5) : sv σ D p < 5 := by
  unfold sv
  split
  · exact seatN_lt hp
  · decide
theorem sv_cong {σ : Sg} {D E : Nat → Nat} {p : Nat} (hp : p < 5) (h : ∀ q, q < 5 → D q = E q) : sv σ D p = sv σ E p := by
  unfold sv
  rw [sK_cong hp h]
def rC (σ : Sg) (D : Nat → Nat) : Nat → Nat
  | 0 => 0
  | i + 1 => rC σ D i + sv σ D i * 5 ^ i
def rR (σ : Sg) (D : Nat → Nat) : Nat → Nat
  | 0 => 0
  | i + 1 => 5 * rR σ D i + sv σ D i
def rev5 (r : Nat) : Nat := r / 5 / 5 / 5 / 5 + 5 * (r / 5 / 5 / 5 % 5 + 5 * (r / 5 / 5 % 5 + 5 * (r / 5 % 5 + 5 * (r % 5))))
theorem rC_5 (σ : Sg) (D : Nat → Nat) : rC σ D 5 = sv σ D 0 + 5 * sv σ D 1 + 25 * sv σ D 2 + 125 * sv σ D 3 + 625 * sv σ D 4 := by
  simp only [rC, Nat.reducePow, Nat.pow_zero]
  omega
theorem rR_5 (σ : Sg) (D : Nat → Nat) : rR σ D 5 = 625 * sv σ D 0 + 125 * sv σ D 1 + 25 * sv σ D 2 + 5 * sv σ D 3 + sv σ D 4 := by
  simp only [rR]
  omega
theorem rC_lt (σ : Sg) (D : Nat → Nat) : rC σ D 5 < 3125 := by
  rw [rC_5]
  have h0 := sv_lt (σ := σ) (D := D) (show 0 < 5 by decide); have h1 := sv_lt (σ := σ) (D := D) (show 1 < 5 by decide); have h2 := sv_lt (σ := σ) (D := D) (show 2 < 5 by decide); have h3 := sv_lt (σ := σ) (D := D) (show 3 < 5 by decide); have h4 := sv_lt (σ := σ) (D := D) (show 4 < 5 by decide)
  omega
theorem rR_lt (σ : Sg) (D : Nat → Nat) : rR σ D 5 < 3125 := by
  rw [rR_5]
  have h0 := sv_lt (σ := σ) (D := D) (show 0 < 5 by decide); have h1 := sv_lt (σ := σ) (D := D) (show 1 < 5 by decide); have h2 := sv_lt (σ := σ) (D := D) (show 2 < 5 by decide); have h3 := sv_lt (σ := σ) (D := D) (show 3 < 5 by decide); have h4 := sv_lt (σ := σ) (D := D) (show 4 < 5 by decide)
  omega
theorem inj5 {a a' x y : Nat} (h1 : a < 5) (h2 : a' < 5) (h : a + 5 * x = a' + 5 * y) : a = a' ∧ x = y := by omega
theorem r_rev {a b c d e r : Nat} (ha : a < 5) (hb : b < 5) (hc : c < 5) (hd : d < 5) (he : e < 5) (hr : r < 3125) : (5 * (5 * (5 * (5 * a + b) + c) + d) + e = r) ↔ (a + 5 * (b + 5 * (c + 5 * (d + 5 * e))) = rev5 r) := by
  unfold rev5
  have g1 := Nat.div_add_mod r 5
  have g2 := Nat.div_add_mod (r / 5) 5
  have g3 := Nat.div_add_mod (r / 5 / 5) 5
  have g4 := Nat.div_add_mod (r / 5 / 5 / 5) 5
  have f1 : r % 5 < 5 := Nat.mod_lt _ (by decide)
  have f2 : r / 5 % 5 < 5 := Nat.mod_lt _ (by decide)
  have f3 : r / 5 / 5 % 5 < 5 := Nat.mod_lt _ (by decide)
  have f4 : r / 5 / 5 / 5 % 5 < 5 := Nat.mod_lt _ (by decide)
  generalize r / 5 / 5 / 5 / 5 = r4 at *
  generalize r / 5 / 5 / 5 % 5 = e4 at *
  generalize r / 5 / 5 / 5 = r3 at *
  generalize r / 5 / 5 % 5 = e3 at *
  generalize r / 5 / 5 = r2 at *
  generalize r / 5 % 5 = e2 at *
  generalize r / 5 = r1 at *
  generalize r % 5 = e1 at *
  constructor
  · intro h
    obtain ⟨h1, k1⟩ := inj5 he f1 (show e + 5 * (5 * (5 * (5 * a + b) + c) + d) = e1 + 5 * r1 by omega)
    obtain ⟨h2, k2⟩ := inj5 hd f2 (show d + 5 * (5 * (5 * a + b) + c) = e2 + 5 * r2 by omega)
    obtain ⟨h3, k3⟩ := inj5 hc f3 (show c + 5 * (5 * a + b) = e3 + 5 * r3 by omega)
    obtain ⟨h4, k4⟩ := inj5 hb f4 (show b + 5 * a = e4 + 5 * r4 by omega)
    rw [h1, h2, h3, h4, k4]
  · intro h
    have r45 : r4 < 5 := by omega
    obtain ⟨h1, k1⟩ := inj5 ha r45 h
    obtain ⟨h2, k2⟩ := inj5 hb f4 k1
    obtain ⟨h3, k3⟩ := inj5 hc f3 k2
    obtain ⟨h4, k4⟩ := inj5 hd f2 k3
    subst h1 h2 h3 h4 k4
    omega
theorem rRC {σ : Sg} {D : Nat → Nat} {r : Nat} (hr : r < 3125) : (rR σ D 5 = r) ↔ (rC σ D 5 = rev5 r) := by
  have h := r_rev (sv_lt (σ := σ) (D := D) (show 0 < 5 by decide)) (sv_lt (σ := σ) (D := D) (show 1 < 5 by decide)) (sv_lt (σ := σ) (D := D) (show 2 < 5 by decide)) (sv_lt (σ := σ) (D := D) (show 3 < 5 by decide)) (sv_lt (σ := σ) (D := D) (show 4 < 5 by decide)) hr
  have e1 : rR σ D 5 = 5 * (5 * (5 * (5 * sv σ D 0 + sv σ D 1) + sv σ D 2) + sv σ D 3) + sv σ D 4 := by rw [rR_5]; omega
  have e2 : rC σ D 5 = sv σ D 0 + 5 * (sv σ D 1 + 5 * (sv σ D 2 + 5 * (sv σ D 3 + 5 * sv σ D 4))) := by rw [rC_5]; omega
  rw [e1, e2]
  exact h
theorem rC_cong {σ : Sg} {D E : Nat → Nat} (h : ∀ q, q < 5 → D q = E q) : rC σ D 5 = rC σ E 5 := by
  rw [rC_5, rC_5, sv_cong (by decide) h, sv_cong (by decide) h, sv_cong (by decide) h, sv_cong (by decide) h, sv_cong (by decide) h]
theorem cnt_rev (T : Nat → Bool) : cS' (fun r => T (rev5 r)) 3125 = cS' T 3125 := by
  have e : 3125 = 5 * (5 * (5 * (5 * 5))) := rfl
  unfold cS'
  rw [e, su_s5 cM_nat, su_s5 cM_nat, s5_rev cM_nat]
  refine s5_cong (fun a b c d e ha hb hc hd he => ?_)
  show bN (T (rev5 (5 * (5 * (5 * (5 * e + d) + c) + b) + a))) = bN (T (5 * (5 * (5 * (5 * a + b) + c) + d) + e))
  congr 2
  have h := (r_rev he hd hc hb ha (show 5 * (5 * (5 * (5 * e + d) + c) + b) + a < 3125 by omega)).mp rfl
  rw [← h]
  omega
theorem st1_5 : ∀ p, p < 5 → stv 1 p = nI (5 ^ p) := by decide
theorem q_rowC {σ s : Sg} {n k : Nat} (h : At σ n k s) : ∃ t, m_X5_rowNumber s = some (nI (rC σ (dg k) 5), t) ∧ ∀ c, c ≠ 62 → c ≠ 63 → t c = s c := by
  obtain ⟨t, t1, t2, t3, -⟩ := q_waySit (fun q _ => dg_lt k q) h.1 h.2.1.1
  have f := h.1
  refine ⟨t, ?_, t2⟩
  have e0 : t 66 0 = σ 1 0 := by rw [t2 66 (by decide) (by decide)]; exact f.2.1 0 (by decide)
  unfold m_X5_rowNumber
  rw [t1, p_cV]
  refine lp2_z (fun o => o = some (nI (rC σ (dg k) 5), t)) (fun i a u => u = t ∧ a = nI (rC σ (dg k) i)) 5 ?_ ?_ (e_F_lt (by omega)) ⟨rfl, rfl⟩
  · rintro H a u ⟨rfl, rfl⟩
    simp only [d_X5_rowNumber_15, le5, if_true]
  · rintro H i a u hi ⟨rfl, rfl⟩ kk
    simp only [d_X5_rowNumber_15, ge5 hi, if_false, q_hasPerson, hB_tB hi, e0, p_cI, p_ifz, q_seatOf5 hi, p_gd (in5 hi), ix5 hi, p_lt, x_s]
    by_cases tp : tB (σ 1 0) (nI i) = true
    · rw [if_pos tp, t3 i hi, if_pos tp, st1_5 i hi, pk_mul, nI_ad]
      exact kk _ _ ⟨rfl, by simp only [rC, sv, peS, tp, if_true]⟩
    · rw [if_neg tp]
      exact kk _ _ ⟨rfl, by simp only [rC, sv, peS, tp, Bool.false_eq_true, if_false, Nat.zero_mul, Nat.add_zero]⟩
def sC (σ : Sg) : Nat → Nat → Bool := fd sOr (fun _ => false) (VC σ) (fun k r => decide (rC σ (dg k) 5 = r))
theorem ge98 {i : Nat} (h : i < 98) : ¬ (98 : Int32) ≤ nI i := x_ge (n := 98) h (by decide)
theorem le98 : (98 : Int32) ≤ nI 98 := by decide
theorem q_countC {σ : Sg} (hI : Inv σ) (hz : ∀ w, w < 98 → σ 81 w = 0) : ∃ u, e_cV (m_X5_begin 1 σ) (fun σ3 => e_lp2 (d_X5_countRows_30 1 (fun x2q12 σ12 => some (x2q12, σ12))) e_F 0 0 σ3) = some (nI (cS' (sC σ 7776) 3125), u) ∧ cS σ u := by
  obtain ⟨s0, b1, b2, b3, b4⟩ := q_beginX hI
  rw [b1, p_cV]
  refine lp2_z (fun o => ∃ u : Sg, o = some (nI (cS' (sC σ 7776) 3125), u) ∧ cS σ u) (fun n a u => (∃ k, At σ n k u ∧ a = nI (cS' (sC σ k) 3125) ∧ Bs (u 81) 98 (sC σ k)) ∨ (wF σ u ∧ u 65 4 = 0 ∧ a = nI (cS' (sC σ 7776) 3125))) 7776 ?_ ?_ (e_F_lt (by omega)) (Or.inl ⟨0, ⟨b2, b3, Nat.le_refl 0⟩, ?_, fun w hw b hb => by rw [b4, hz w hw, gb_0]; rfl⟩)
  · rintro H a u (⟨k, h1, -⟩ | ⟨h1, h2, rfl⟩)
    · have := h1.2.1.2.2.2; have := h1.2.2; omega
    · simp only [d_X5_countRows_30, le7776, if_true]
      exact ⟨u, rfl, h1.1⟩
  · rintro H n a u hn (⟨k, h1, rfl, h3⟩ | ⟨h1, h2, rfl⟩) kk
    · have n10 : ¬ (1 : Int32) = 0 := by decide
      have k7 := h1.2.1.2.2.2
      obtain ⟨t, t1, t2⟩ := q_rowC h1
      have hr := rC_lt σ (dg k)
      have es : sC σ (k + 1) = fun r => sC σ k r || decide (rC σ (dg k) 5 = r) := fd_t (op := sOr) (at_V h1)
      have go : ∀ (v : Sg) (A : Nat), A = cS' (sC σ (k + 1)) 3125 → Bs (v 81) 98 (sC σ (k + 1)) → (∀ c, c ≠ 62 → c ≠ 63 → c ≠ 81 → v c = u c) → ∃ w : Sg, e_cV (m_X5_goOn v) (fun σ4 => H (nI A) (nI (n + 1)) σ4) = some (nI (cS' (sC σ 7776) 3125), w) ∧ cS σ w := by
        intro v A hA hB hv
        obtain ⟨s', r1, r2, r81, -, r3⟩ := at_next h1 hv
        rw [r1, p_cV]
        rcases r3 with ⟨q1, q2⟩ | ⟨k', q1, q2, q3⟩
        · have e : sC σ 7776 = sC σ (k + 1) := fd_to k7 q2
          exact kk _ _ (Or.inr ⟨r2, q1, by rw [hA, e]⟩)
        · have e : sC σ k' = sC σ (k + 1) := fd_to q1 q3
          exact kk _ _ (Or.inl ⟨k', q2, by rw [hA, e], by rw [r81, e]; exact hB⟩)
      have d32 : nI (rC σ (dg k) 5) / 32 = nI (rC σ (dg k) 5 / 32) := pk_div (d := 32) (by omega) (by decide) (by decide)
      have m32 : jrm (nI (rC σ (dg k) 5)) 32 = nI (rC σ (dg k) 5 % 32) := jrm_nI (d := 32) (by omega) (by decide) (by decide)
      have i97 : inB (nI (rC σ (dg k) 5 / 32)) 0 97 = true := decide_eq_true ⟨nI_pos' (by omega), nI_le (b := 97) (by omega) (by decide)⟩
      have k98 : k_in (nI (rC σ (dg k) 5 / 32)) 98 = true := x_in (by omega) (by decide)
      have j98 : Int32.toNatClampNeg (nI (rC σ (dg k) 5 / 32)) = rC σ (dg k) 5 / 32 := x_ix (by omega)
      have t81 : t 81 = u 81 := t2 81 (by decide) (by decide)
      have bit := Bs_get h3 (show rC σ (dg k) 5 < 32 * 98 by omega)
      simp only [d_X5_countRows_30, ge7776 hn, if_false, h1.2.1.2.2.1, n10, t1, p_cI, p_lt, d32, m32, q_within, i97, p_ifz, if_true, p_gd k98, p_wr k98, j98, gb_and (show rC σ (dg k) 5 % 32 < 32 by omega), t81, bit, b_X5_countRows_104, x_s]
      cases q : sC σ k (rC σ (dg k) 5)
      · simp only [if_true]
        refine go _ _ ?_ ?_ (fun c c1 c2 c3 => by rw [up_rw, rw1_ne c3]; exact t2 c c1 c2)
        · rw [es, cS'_add q, decide_eq_true hr]; rfl
        · rw [es, up_rw, rw1_eq, t81]
          exact Bs_add h3
      · simp only [Bool.true_eq_false, if_false]
        have es2 : sC σ (k + 1) = sC σ k := by
          rw [es]
          funext r
          by_cases e : rC σ (dg k) 5 = r
          · subst e; rw [q]; rfl
          · rw [decide_eq_false e, Bool.or_false]
        refine go t _ ?_ ?_ (fun c c1 c2 _ => t2 c c1 c2)
        · rw [es2]
        · rw [es2, t81]; exact h3
    · simp only [d_X5_countRows_30, ge7776 hn, if_false, h2, if_true]
      exact ⟨u, rfl, h1.1⟩
  · have : cS' (sC σ 0) 3125 = 0 := su_u cM_nat 3125
    rw [this]; rfl
theorem q_seatingsC {σ : Sg} (hI : Inv σ) : ∃ σ' u, m_X6_seatings σ = some (nI (cS' (sC σ' 7776) 3125), u) ∧ cS σ σ' ∧ cS σ' u ∧ Inv σ' := by
  unfold m_X6_seatings m_X5_countRows
  have main : ∃ σ' u, e_lp1 (d_X5_countRows_2 1 (fun σ2 => e_cV (m_X5_begin 1 σ2) (fun σ3 => e_lp2 (d_X5_countRows_30 1 (fun x2q12 σ12 => some (x2q12, σ12))) e_F 0 0 σ3))) e_F 0 σ = some (nI (cS' (sC σ' 7776) 3125), u) ∧ cS σ σ' ∧ cS σ' u ∧ Inv σ' := by
    refine lp1_z (fun o => ∃ σ' u, o = some (nI (cS' (sC σ' 7776) 3125), u) ∧ cS σ σ' ∧ cS σ' u ∧ Inv σ') (fun i s => cS σ s ∧ ∀ w, w < i → s 81 w = 0) 98 ?_ ?_ (e_F_lt (by omega)) ⟨cS.rf σ, fun w hw => by omega⟩
    · rintro H s ⟨h1, h2⟩
      simp only [d_X5_countRows_2, le98, if_true]
      have hIs := hI.ps h1.ps
      obtain ⟨u, u1, u2⟩ := q_countC hIs h2
      exact ⟨s, u, u1, h1, u2, hIs⟩
    · rintro H i s hi ⟨h1, h2⟩ kk
      have k98 : k_in (nI i) 98 = true := x_in hi (by decide)
      have j98 : Int32.toNatClampNeg (nI i) = i := x_ix (by omega)
      simp only [d_X5_countRows_2, ge98 hi, if_false, p_wr k98, j98, x_s]
      refine kk _ ⟨h1.up (by omega), fun w hw => ?_⟩
      rw [up_rw, rw1_eq]
      by_cases e : w = i
      · subst e; rw [upd_s]
      · rw [upd_n e]; exact h2 w (by omega)
  obtain ⟨σ', u, h1, h2⟩ := main
  exact ⟨σ', u, by rw [h1, p_cI], h2⟩
def sR (σ : Sg) : Nat → Nat → Bool := fd sOr (fun _ => false) (VR σ) (fun k r => decide (rR σ (dR k) 5 = r))
theorem sR_rev {σ : Sg} {r : Nat} (hr : r < 3125) : ∀ n, sR σ n r = fd sOr (fun _ => false) (VR σ) (fun k r => decide (rC σ (dR k) 5 = r)) n (rev5 r)
  | 0 => rfl
  | n + 1 => by
    have ih := sR_rev (σ := σ) hr n
    cases hv : VR σ n
    · have e1 : sR σ (n + 1) = sR σ n := fd_f hv
      rw [e1, fd_f hv, ih]
    · have e1 : sR σ (n + 1) = fun r => sR σ n r || decide (rR σ (dR n) 5 = r) := fd_t (op := sOr) hv
      rw [e1, fd_t hv]
      show (sR σ n r || decide (rR σ (dR n) 5 = r)) = (fd sOr (fun _ => false) (VR σ) (fun k r => decide (rC σ (dR k) 5 = r)) n (rev5 r) || decide (rC σ (dR n) 5 = rev5 r))
      rw [ih]
      congr 1
      exact decide_eq_decide.mpr (rRC hr)
theorem seat_cnt {σ : Sg} : cS' (sC σ 7776) 3125 = cS' (sR σ 7776) 3125 := by
  have e1 : sC σ 7776 = fd sOr (fun _ => false) (VR σ) (fun k r => decide (rC σ (dR k) 5 = r)) 7776 := fd_swap cM_set (V := vB (peS σ) (cpS σ)) (f := fun D r => decide (rC σ D 5 = r)) (fun D E h => vB_cong h) (fun D E h => by rw [rC_cong h])
  rw [cS'_cong (fun r hr => sR_rev hr 7776), e1, cnt_rev]
theorem ge3125 {i : Nat} (h : i < 3125) : ¬ (3125 : Int32) ≤ nI i := x_ge (n := 3125) h (by decide)
theorem le3125 : (3125 : Int32) ≤ nI 3125 := by decide
theorem q_rowR {σ u : Sg} {D : Nat → Nat} {x : Int32} {K : Int32 → Int32 → Sg → Option (Int32 × Sg)} (hI : Inv σ) (hD : ∀ q, q < 5 → D q < 6) (hr : rF σ u) (ho : oD D u) : e_lp3 (d_X7_seatings_51 K) e_F x 0 0 u = K x (nI (rR σ D 5)) u := by
  have u0 : u 100 0 = σ 1 0 := by rw [hr.1 0 (by decide)]; exact hI.2.1.1
  refine lp3_z (fun o => o = K x (nI (rR σ D 5)) u) (fun i a b v => v = u ∧ a = x ∧ b = nI (rR σ D i)) 5 ?_ ?_ (e_F_lt (by omega)) ⟨rfl, rfl, rfl⟩
  · rintro H a b v ⟨rfl, rfl, rfl⟩
    simp only [d_X7_seatings_51, le5, if_true]
  · rintro H i a b v hi ⟨rfl, rfl, rfl⟩ kk
    have e5 : (5 : Int32) * nI (rR σ D i) = nI (5 * rR σ D i) := pk_mul 5 _
    have e0 : (0 : Int32) = nI 0 := rfl
    simp only [d_X7_seatings_51, ge5 hi, if_false, q_has, u0, p_cI, p_ifz, q_refSeat hI hD hr ho hi, b_X7_seatings_79, p_lt, x_s, e5]
    by_cases tp : tB (σ 1 0) (nI i) = true
    · rw [if_pos tp, nI_ad]
      exact kk _ _ _ ⟨rfl, rfl, by simp only [rR, sv, peS, tp, if_true]⟩
    · rw [if_neg tp, e0, nI_ad]
      exact kk _ _ _ ⟨rfl, rfl, by simp only [rR, sv, peS, tp, Bool.false_eq_true, if_false]⟩
theorem q_seatingsM {σ τ : Sg} (hI : Inv σ) (hτ : ∀ c, 100 ≤ c → τ c = σ c) : ∃ u, m_X7_seatings τ = some (nI (cS' (sR σ 7776) 3125), u) ∧ mS τ u := by
  unfold m_X7_seatings
  obtain ⟨t0, t1, t2⟩ := q_asNow (σ := τ)
  rw [t1, p_cV]
  have k25 : ∀ i, i < 3125 → k_in (nI i) 3125 = true := fun i hi => x_in hi (by decide)
  have j25 : ∀ i, i < 3125 → Int32.toNatClampNeg (nI i) = i := fun i hi => x_ix (by omega)
  refine lp1_z (fun o => ∃ u : Sg, o = some (nI (cS' (sR σ 7776) 3125), u) ∧ mS τ u) (fun i s => mS τ s ∧ rF σ s ∧ ∀ r, r < i → s 120 r = 0) 3125 ?_ ?_ (e_F_lt (by omega)) ⟨t2.mS, t2.rF hI hτ, fun r hr => by omega⟩
  · rintro H s ⟨h1, h2, h3⟩
    simp only [d_X7_seatings_6, le3125, if_true]
    refine lp1_z (fun o => ∃ u : Sg, o = some (nI (cS' (sR σ 7776) 3125), u) ∧ mS τ u) (fun n u => mS τ u ∧ rF σ u ∧ ∀ r, r < 3125 → u 120 r = zI (sR σ n r)) 7776 ?_ ?_ (e_F_lt (by omega)) ⟨h1, h2, fun r hr => by rw [h3 r hr]; rfl⟩
    · rintro H2 u ⟨g1, g2, g3⟩
      simp only [d_X7_seatings_28, le7776, if_true]
      refine lp2_z (fun o => ∃ u : Sg, o = some (nI (cS' (sR σ 7776) 3125), u) ∧ mS τ u) (fun n a v => v = u ∧ a = nI (cS' (sR σ 7776) n)) 3125 ?_ ?_ (e_F_lt (by omega)) ⟨rfl, rfl⟩
      · rintro H3 a v ⟨rfl, rfl⟩
        simp only [d_X7_seatings_104, le3125, if_true]
        exact ⟨v, rfl, g1⟩
      · rintro H3 i a v hi ⟨rfl, rfl⟩ kk
        simp only [d_X7_seatings_104, ge3125 hi, if_false, p_gd (k25 i hi), j25 i hi, g3 i hi, zI_0, b_X7_seatings_126, p_lt, x_s]
        cases q : sR σ 7776 i
        · simp only [if_true]
          exact kk _ _ ⟨rfl, by rw [cS'_s, q]; show nI _ + 0 = nI (_ + 0); rw [Int32.add_zero, Nat.add_zero]⟩
        · simp only [Bool.true_eq_false, if_false]
          exact kk _ _ ⟨rfl, by rw [cS'_s, q]; rfl⟩
    · rintro H2 n u hn ⟨g1, g2, g3⟩ kk
      obtain ⟨v, v1, v2, v3⟩ := q_dress (u := u) hn
      have hv : rF σ v := g2.mv (fun c c1 _ _ => v2 c c1)
      have hm : mS τ v := g1.tr ⟨fun c hc => v2 c (by omega), fun j _ => by rw [v2 100 (by decide)]⟩
      have hD : ∀ q, q < 5 → dR n q < 6 := fun q _ => dR_lt n q
      have v120 : v 120 = u 120 := v2 120 (by decide)
      simp only [d_X7_seatings_28, ge7776 hn, if_false, v1, p_cV, q_isWay hI hD hv v3, p_cI, p_ifz, x_s]
      cases hV : vB (peS σ) (cpS σ) (dR n)
      · simp only [Bool.false_eq_true, if_false]
        have e : sR σ (n + 1) = sR σ n := fd_f hV
        exact kk _ ⟨hm, hv, fun r hr => by rw [e, v120]; exact g3 r hr⟩
      · simp only [if_true]
        rw [q_rowR hI hD hv v3]
        have hr := rR_lt σ (dR n)
        simp only [p_wr (k25 _ hr), j25 _ hr, x_s]
        have e : sR σ (n + 1) = fun r => sR σ n r || decide (rR σ (dR n) 5 = r) := fd_t (op := sOr) hV
        refine kk _ ⟨hm.up (by omega), hv.mv (fun c _ _ c3 => by rw [up_rw, rw1_ne c3]), fun r hr' => ?_⟩
        rw [up_rw, rw1_eq, e]
        by_cases q : r = rR σ (dR n) 5
        · subst q
          rw [upd_s]
          show (1 : Int32) = zI (sR σ n (rR σ (dR n) 5) || decide (rR σ (dR n) 5 = rR σ (dR n) 5))
          rw [decide_eq_true rfl, Bool.or_true]; rfl
        · rw [upd_n q, v120, g3 r hr']
          show zI (sR σ n r) = zI (sR σ n r || decide (rR σ (dR n) 5 = r))
          rw [decide_eq_false (show ¬ rR σ (dR n) 5 = r from fun h => q h.symm), Bool.or_false]
  · rintro H i s hi ⟨h1, h2, h3⟩ kk
    simp only [d_X7_seatings_6, ge3125 hi, if_false, p_wr (k25 i hi), j25 i hi, x_s]
    refine kk _ ⟨h1.up (by omega), h2.mv (fun c _ _ c3 => by rw [up_rw, rw1_ne c3]), fun r hr => ?_⟩
    rw [up_rw, rw1_eq]
    by_cases e : r = i
    · subst e; rw [upd_s]
    · rw [upd_n e]; exact h3 r (by omega)
theorem op_seatings : SimI m_X6_seatings m_X7_seatings := by
  intro σ hI
  obtain ⟨σ', u, h1, h2, h3, h4⟩ := q_seatingsC hI
  obtain ⟨v, v1, v2⟩ := q_seatingsM (τ := u) h4 (fun c hc => h3 c (by omega))
  exact ⟨_, u, v, h1, by rw [v1, seat_cnt], (h4.ps h3.ps).ps v2.ps⟩
