theorem hB_nI {P : Int32} {i : Nat} (h : i < 5) : hB P (nI i) = tB P (nI i) := by
  have : inB (nI i) 0 4 = true := by
    unfold inB
    exact decide_eq_true ⟨nI_pos' (by omega), by
      have := nI_le (a := i) (b := 4) (by omega) (by decide)
      exact this⟩
  simp [hB, this]
theorem q_priceOf {x : Int32} {σ : Sg} : m_X3_priceOf x σ = some (if inB x 0 4 then σ 61 x.toNatClampNeg else 0, σ) := by
  unfold m_X3_priceOf
  by_cases h1 : x < 0
  · have h2 : inB x 0 4 = false := by
      unfold inB; exact decide_eq_false (fun h => absurd h1 (i_nlt.mpr h.1))
    simp [h1, h2]
  · by_cases h3 : 5 ≤ x
    · have h2 : inB x 0 4 = false := by
        unfold inB
        exact decide_eq_false (fun h => absurd h.2 (lt5.mp h3))
      simp [h1, h2, h3]
    · have h4 : inB x 0 4 = true := by
        unfold inB
        refine decide_eq_true ⟨i_nlt.mp h1, ?_⟩
        by_cases q : x ≤ 4
        · exact q
        · exact absurd (lt5.mpr q) h3
      obtain ⟨i, hi, rfl⟩ := inB_ix (n := 4) (by decide) h4
      have hi5 : i < 5 := by omega
      simp only [h1, h3, h4, if_false, if_true, p_gd (in5 hi5), ix5 hi5]
theorem q_seatOf {x : Int32} {σ : Sg} : m_X3_seatOf x σ = some (if inB x 0 4 then σ 63 x.toNatClampNeg else -6, σ) := by
  unfold m_X3_seatOf
  by_cases h1 : x < 0
  · have h2 : inB x 0 4 = false := by
      unfold inB; exact decide_eq_false (fun h => absurd h1 (i_nlt.mpr h.1))
    simp [h1, h2]
  · by_cases h3 : 5 ≤ x
    · have h2 : inB x 0 4 = false := by
        unfold inB
        exact decide_eq_false (fun h => absurd h.2 (lt5.mp h3))
      simp [h1, h2, h3]
    · have h4 : inB x 0 4 = true := by
        unfold inB
        refine decide_eq_true ⟨i_nlt.mp h1, ?_⟩
        by_cases q : x ≤ 4
        · exact q
        · exact absurd (lt5.mpr q) h3
      obtain ⟨i, hi, rfl⟩ := inB_ix (n := 4) (by decide) h4
      have hi5 : i < 5 := by omega
      simp only [h1, h3, h4, if_false, if_true, p_gd (in5 hi5), ix5 hi5]
theorem inB_nI {i : Nat} (h : i < 5) : inB (nI i) 0 4 = true := by
  unfold inB
  exact decide_eq_true ⟨nI_pos' (by omega), by
    have := nI_le (a := i) (b := 4) (by omega) (by decide)
    exact this⟩
theorem q_seatOf5 {i : Nat} {σ : Sg} (h : i < 5) : m_X3_seatOf (nI i) σ = some (σ 63 i, σ) := by
  rw [q_seatOf]; simp [inB_nI h, ix5 h]
/-! the pairs that are done when the loops stand at p, q -/
def pd (p q a b : Nat) : Bool := decide (a < p) || (decide (a = p) && decide (b < q))
def scN (P : Int32) (v : Nat → Int32) (p q r : Nat) : Nat := cn5 (fun x => (tB P (nI x) && (!decide (x = r) && ah v x r)) && pd p q (min x r) (max x r))
theorem cn5_add {g d e : Nat → Bool} {q : Nat} (hq : q < 5) (hd : d q = false) (he : ∀ x, x < 5 → e x = (d x || decide (x = q))) : cn5 (fun x => g x && e x) = cn5 (fun x => g x && d x) + bN (g q) := by
  have h5 : q = 0 ∨ q = 1 ∨ q = 2 ∨ q = 3 ∨ q = 4 := by omega
  simp only [cn5, he 0 (by decide), he 1 (by decide), he 2 (by decide), he 3 (by decide), he 4 (by decide)]
  rcases h5 with rfl | rfl | rfl | rfl | rfl <;> simp [hd, bN] <;> omega
theorem sc_cong {P : Int32} {v : Nat → Int32} {p q p' q' r : Nat} (h : ∀ x, x < 5 → x ≠ r → pd p q (min x r) (max x r) = pd p' q' (min x r) (max x r)) : scN P v p q r = scN P v p' q' r := by
  unfold scN
  refine cn5_cong (fun x hx => ?_)
  by_cases e : x = r
  · simp [e]
  · rw [h x hx e]
theorem sc_start {P : Int32} {v : Nat → Int32} {p r : Nat} : scN P v p (p + 1) r = scN P v p 0 r := sc_cong (fun x hx e => by
  unfold pd
  by_cases h : min x r = p
  · have : ¬ max x r < p + 1 := by omega
    simp [this]
  · simp [h])
theorem sc_end {P : Int32} {v : Nat → Int32} {p r : Nat} (hr : r < 5) : scN P v p 5 r = scN P v (p + 1) 0 r := sc_cong (fun x hx e => by
  unfold pd
  have h1 : max x r < 5 := by omega
  by_cases h : min x r = p
  · simp [h, h1]
  · by_cases h2 : min x r < p
    · simp [h, h2, show min x r < p + 1 by omega]
    · simp [h, h2, show ¬ min x r < p + 1 by omega])
theorem sc_0 {P : Int32} {v : Nat → Int32} {r : Nat} : scN P v 0 0 r = 0 := by simp [scN, pd, cn5, bN]
theorem sc_all {P : Int32} {v : Nat → Int32} {r : Nat} (hr : r < 5) : scN P v 5 0 r = seatN P v r := by
  unfold scN seatN
  refine cn5_cong (fun x hx => ?_)
  have : min x r < 5 := by omega
  simp [pd, this]
theorem sc_p {P : Int32} {v : Nat → Int32} {p q : Nat} (h : p < q) (hq : q < 5) : scN P v p (q + 1) p = scN P v p q p + bN (tB P (nI q) && decide (v p < v q)) := by
  unfold scN
  rw [cn5_add (d := fun x => pd p q (min x p) (max x p)) hq (by unfold pd; simp; omega) (fun x hx => by
    by_cases e : x = q
    · subst e; simp [pd]; omega
    · simp only [e, decide_false, Bool.or_false, pd]
      by_cases h1 : min x p = p
      · have : (max x p < q + 1) ↔ (max x p < q) := by omega
        simp [h1, this]
      · simp [h1])]
  simp [ah, h, show ¬ q = p by omega]
theorem sc_q {P : Int32} {v : Nat → Int32} {p q : Nat} (h : p < q) (hq : q < 5) : scN P v p (q + 1) q = scN P v p q q + bN (tB P (nI p) && decide (v q ≤ v p)) := by
  unfold scN
  rw [cn5_add (q := p) (d := fun x => pd p q (min x q) (max x q)) (by omega) (by unfold pd; simp; omega) (fun x hx => by
    by_cases e : x = p
    · subst e; simp [pd]; omega
    · simp only [e, decide_false, Bool.or_false, pd]
      by_cases h1 : min x q = p
      · omega
      · simp [h1])]
  simp [ah, show ¬ q < p by omega, show ¬ p = q by omega]
theorem sc_o {P : Int32} {v : Nat → Int32} {p q r : Nat} (h : p < q) (h1 : r ≠ p) (h2 : r ≠ q) : scN P v p (q + 1) r = scN P v p q r := sc_cong (fun x hx e => by
  unfold pd
  by_cases h3 : min x r = p
  · have : (max x r < q + 1) ↔ (max x r < q) := by omega
    simp [h3, this]
  · simp [h3])
theorem scN_le (P : Int32) (v : Nat → Int32) (p q r : Nat) : scN P v p q r ≤ 5 := cn5_le _
theorem nI_no6 {n : Nat} (h : n ≤ 5) : ¬ nI n = -6 := by
  have : n = 0 ∨ n = 1 ∨ n = 2 ∨ n = 3 ∨ n = 4 ∨ n = 5 := by omega
  rcases this with rfl | rfl | rfl | rfl | rfl | rfl <;> decide
/-! the table's rows behind sit -/
def tv (σ : Sg) (k p : Nat) : Int32 := if tB (σ k 0) (nI p) then (if inB (σ (k + 1) p) 0 4 then σ 61 (σ (k + 1) p).toNatClampNeg else 0) else 0
def sat (σ : Sg) (k : Nat) (s : Sg) : Prop := (∀ c, c ≠ 62 → c ≠ 63 → s c = σ c) ∧ (∀ p, p < 5 → s 62 p = tv σ k p) ∧ ∀ p, p < 5 → s 63 p = if tB (σ k 0) (nI p) then nI (seatN (σ k 0) (tv σ k) p) else -6
theorem a63 : k_ar 63 = true ∧ k_ln 63 = 5 := by decide
theorem a62 : k_ar 62 = true ∧ k_ln 62 = 5 := by decide
theorem sit_pairs {k : Nat} {σ s0 : Sg} {p : Nat} (hp : p < 5) {K : Int32 → Sg → Option Sg} (Post : Option Sg → Prop)
    (hI : ∀ s : Sg, (∀ c, c ≠ 62 → c ≠ 63 → s c = σ c) → (∀ r, r < 5 → s 62 r = tv σ k r) → (∀ r, r < 5 → s 63 r = if tB (σ k 0) (nI r) then nI (scN (σ k 0) (tv σ k) (p + 1) 0 r) else -6) → Post (K (nI p) s))
    (h1 : ∀ c, c ≠ 62 → c ≠ 63 → s0 c = σ c) (h2 : ∀ r, r < 5 → s0 62 r = tv σ k r) (h3 : ∀ r, r < 5 → s0 63 r = if tB (σ k 0) (nI r) then nI (scN (σ k 0) (tv σ k) p 0 r) else -6) :
    Post (e_lp2 (d_X3_sit_70 k K) e_F (nI p) (nI (p + 1)) s0) := by
  refine lp2_wp Post (fun q a s => p < q ∧ a = nI p ∧ (∀ c, c ≠ 62 → c ≠ 63 → s c = σ c) ∧ (∀ r, r < 5 → s 62 r = tv σ k r) ∧ (∀ r, r < 5 → s 63 r = if tB (σ k 0) (nI r) then nI (scN (σ k 0) (tv σ k) p q r) else -6)) 5 ?_ ?_ e_F (p + 1) (nI p) s0 (by omega) (e_F_lt (by omega)) ⟨by omega, rfl, h1, h2, fun r hr => by rw [sc_start]; exact h3 r hr⟩
  · rintro H a s ⟨hpq, rfl, g1, g2, g3⟩
    simp only [d_X3_sit_70, le5, if_true]
    exact hI s g1 g2 (fun r hr => by rw [← sc_end hr]; exact g3 r hr)
  · rintro H q a s hq ⟨hpq, rfl, g1, g2, g3⟩ kk
    simp only [d_X3_sit_70, ge5 hq, if_false, p_gd (in5 hp), p_gd (in5 hq), ix5 hp, ix5 hq, b_X3_sit_121, p_gd a63.1, a63.2, x_s, g2 p hp, g2 q hq]
    rw [g3 p hp, g3 q hq]
    by_cases tp : tB (σ k 0) (nI p) = true
    · by_cases tq : tB (σ k 0) (nI q) = true
      · simp only [tp, tq, if_true, nI_no6 (scN_le _ _ _ _ _), if_false, p_wr (in5 hp), p_wr (in5 hq), ix5 hp, ix5 hq]
        by_cases hv : tv σ k q ≤ tv σ k p
        · simp only [hv, if_true]
          refine kk _ _ ⟨by omega, rfl, fun c c1 c2 => by simp [k_up, c2, g1 c c1 c2], fun r hr => by simp [k_up, g2 r hr], fun r hr => ?_⟩
          have hv2 : ¬ tv σ k p < tv σ k q := i_nlt.mpr hv
          by_cases e1 : r = q
          · subst e1
            simp only [k_up, upd, if_true, tq, sc_q hpq hq, tp, hv, decide_true, Bool.and_self, bN]
            rw [x_s]
          · by_cases e2 : r = p
            · subst e2
              simp only [k_up, upd, e1, if_true, if_false, g3 r hr, tp, sc_p hpq hq, tq, hv2, decide_false, Bool.and_false, bN]
              rfl
            · simp only [k_up, upd, e1, if_true, if_false, g3 r hr, sc_o hpq e2 e1]
        · simp only [hv, if_false]
          refine kk _ _ ⟨by omega, rfl, fun c c1 c2 => by simp [k_up, c2, g1 c c1 c2], fun r hr => by simp [k_up, g2 r hr], fun r hr => ?_⟩
          have hv2 : tv σ k p < tv σ k q := i_nle.mp hv
          by_cases e1 : r = p
          · subst e1
            simp only [k_up, upd, if_true, tp, sc_p hpq hq, tq, hv2, decide_true, Bool.and_self, bN]
            rw [x_s]
          · by_cases e2 : r = q
            · subst e2
              simp only [k_up, upd, e1, if_true, if_false, g3 r hr, tq, sc_q hpq hq, tp, hv, decide_false, Bool.and_false, bN]
              rfl
            · simp only [k_up, upd, e1, if_true, if_false, g3 r hr, sc_o hpq e1 e2]
      · simp only [tp, tq, if_true, nI_no6 (scN_le _ _ _ _ _), if_false]
        simp only [Bool.false_eq_true, if_false, if_true]
        refine kk _ _ ⟨by omega, rfl, g1, g2, fun r hr => ?_⟩
        rw [g3 r hr]
        by_cases e1 : r = p
        · subst e1
          rw [sc_p hpq hq]; simp [tq, bN]
        · by_cases e2 : r = q
          · subst e2; simp [tq]
          · rw [sc_o hpq e1 e2]
    · simp only [tp]
      simp only [Bool.false_eq_true, if_false, if_true]
      refine kk _ _ ⟨by omega, rfl, g1, g2, fun r hr => ?_⟩
      rw [g3 r hr]
      by_cases e1 : r = p
      · subst e1; simp [tp]
      · by_cases e2 : r = q
        · subst e2
          rw [sc_q hpq hq]; simp [tp, bN]
        · rw [sc_o hpq e1 e2]
theorem q_sit {k : Nat} {σ : Sg} (hk : k ≠ 62 ∧ k ≠ 63 ∧ k + 1 ≠ 62 ∧ k + 1 ≠ 63) : ∃ s, m_X3_sit k σ = some s ∧ sat σ k s := by
  unfold m_X3_sit
  refine lp1_wp (fun o => ∃ s, o = some s ∧ sat σ k s) (fun i s => (∀ c, c ≠ 62 → c ≠ 63 → s c = σ c) ∧ (∀ r, r < i → s 62 r = tv σ k r) ∧ ∀ r, r < i → s 63 r = if tB (σ k 0) (nI r) then 0 else -6) 5 ?_ ?_ e_F 0 σ (by omega) (e_F_lt (by omega)) ⟨fun _ _ _ => rfl, fun r hr => by omega, fun r hr => by omega⟩
  · rintro H s ⟨g1, g2, g3⟩
    simp only [d_X3_sit_2, le5, if_true]
    refine lp1_wp (fun o => ∃ s, o = some s ∧ sat σ k s) (fun p s => (∀ c, c ≠ 62 → c ≠ 63 → s c = σ c) ∧ (∀ r, r < 5 → s 62 r = tv σ k r) ∧ ∀ r, r < 5 → s 63 r = if tB (σ k 0) (nI r) then nI (scN (σ k 0) (tv σ k) p 0 r) else -6) 5 ?_ ?_ e_F 0 s (by omega) (e_F_lt (by omega)) ⟨g1, g2, fun r hr => by rw [sc_0]; exact g3 r hr⟩
    · rintro H s ⟨g1, g2, g3⟩
      simp only [d_X3_sit_61, le5, if_true]
      exact ⟨s, rfl, g1, g2, fun r hr => by rw [← sc_all hr]; exact g3 r hr⟩
    · rintro H p s hp ⟨g1, g2, g3⟩ kk
      simp only [d_X3_sit_61, ge5 hp, if_false, p_lt, x_s]
      exact sit_pairs hp (fun o => ∃ s, o = some s ∧ sat σ k s) (fun s h1 h2 h3 => by rw [x_s]; exact kk s ⟨h1, h2, h3⟩) g1 g2 g3
  · rintro H p s hp ⟨g1, g2, g3⟩ kk
    have hw : s (k + 1) p = σ (k + 1) p := by rw [g1 _ hk.2.2.1 hk.2.2.2]
    have hP : s k 0 = σ k 0 := by rw [g1 _ hk.1 hk.2.1]
    have h61 : s 61 = σ 61 := g1 61 (by decide) (by decide)
    simp only [d_X3_sit_2, ge5 hp, if_false, q_hasPerson, p_cI, p_ifz, hB_nI hp, hP, b_X3_sit_28, b_X3_sit_52, p_gd a63.1, a63.2, p_gd a62.1, a62.2, p_wr (in5 hp), ix5 hp, p_gd (in5 hp), x_s, q_priceOf, zI_0]
    cases tp : tB (σ k 0) (nI p)
    · simp only [zI_f, if_true, if_false, Bool.false_eq_true]
      refine kk _ ⟨fun c c1 c2 => by simp [k_up, c1, c2, g1 c c1 c2], fun r hr => ?_, fun r hr => ?_⟩
      · by_cases e : r = p
        · subst e; simp [k_up, upd, tv, tp]
        · simp only [k_up, upd, e, if_true, if_false, show (62 : Nat) ≠ 63 by decide]
          exact g2 r (by omega)
      · by_cases e : r = p
        · subst e; simp [k_up, upd, tp]
        · simp only [k_up, upd, e, if_true, if_false, show (63 : Nat) ≠ 62 by decide]
          exact g3 r (by omega)
    · have hne : ¬ (1 : Int32) = 0 := by decide
      simp only [zI_t, if_true, if_false, hne, Bool.true_eq_false]
      refine kk _ ⟨fun c c1 c2 => by simp [k_up, c1, c2, g1 c c1 c2], fun r hr => ?_, fun r hr => ?_⟩
      · by_cases e : r = p
        · subst e
          have hne1 : k + 1 ≠ 63 := hk.2.2.2
          simp [k_up, upd, tv, tp, hne1, hw, h61]
        · simp only [k_up, upd, e, if_true, if_false, show (62 : Nat) ≠ 63 by decide]
          exact g2 r (by omega)
      · by_cases e : r = p
        · subst e; simp [k_up, upd, tp]
        · simp only [k_up, upd, e, if_true, if_false, show (63 : Nat) ≠ 62 by decide]
          exact g3 r (by omega)
