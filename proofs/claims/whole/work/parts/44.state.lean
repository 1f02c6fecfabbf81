/-! ===== the reference's 'now' ===== -/
def asn (σ s : Sg) : Prop := (∀ c, c < 100 ∨ (101 ≤ c ∧ c ≤ 113) ∨ 119 ≤ c → s c = σ c) ∧ (∀ j, j ≠ 23 → s 100 j = σ 100 j) ∧ s 100 23 = σ 100 7 ∧ ∀ i, i < 5 → s 114 i = σ 106 i ∧ s 115 i = σ 107 i ∧ s 116 i = σ 108 i ∧ s 117 i = σ 109 i ∧ s 118 i = σ 101 i
theorem q_asNow {σ : Sg} : ∃ s, m_X7_asNow σ = some s ∧ asn σ s := by
  unfold m_X7_asNow
  refine lp1_z (fun o => ∃ s : Sg, o = some s ∧ asn σ s) (fun n s => (∀ c, c ≤ 113 ∨ 119 ≤ c → s c = σ c) ∧ ∀ i, i < n → s 114 i = σ 106 i ∧ s 115 i = σ 107 i ∧ s 116 i = σ 108 i ∧ s 117 i = σ 109 i ∧ s 118 i = σ 101 i) 5 ?_ ?_ (e_F_lt (by omega)) ⟨fun _ _ => rfl, fun i hi => by omega⟩
  · rintro H s ⟨g1, g2⟩
    simp only [d_X7_asNow_2, le5, if_true, p_lt, up_rw]
    refine ⟨_, rfl, fun c hc => by rw [rw1_ne (by omega)]; exact g1 c (by omega), fun j hj => by rw [rw1_eq, upd_n hj, g1 100 (by omega)], by rw [rw1_eq, upd_s, g1 100 (by omega)], fun i hi => ?_⟩
    simp (disch := decide) only [rw1_ne]
    exact g2 i hi
  · rintro H i s hi ⟨g1, g2⟩ kk
    simp only [d_X7_asNow_2, ge5 hi, if_false, p_gd (in5 hi), p_wr (in5 hi), ix5 hi, x_s, up_rw]
    simp (disch := decide) only [rw1_eq, rw1_ne]
    refine kk _ ⟨fun c hc => by simp (disch := omega) only [rw1_ne]; exact g1 c hc, fun r hr => ?_⟩
    simp (disch := decide) only [rw1_eq, rw1_ne]
    by_cases e : r = i
    · subst e
      simp only [upd_s, g1 101 (by omega), g1 106 (by omega), g1 107 (by omega), g1 108 (by omega), g1 109 (by omega), and_self]
    · simp only [upd_n e]; exact g2 r (by omega)
theorem asn.ps {σ s : Sg} (h : asn σ s) : Ps σ s := ⟨fun c hc => h.1 c (by omega), h.2.1 0 (by decide), h.2.1 1 (by decide), h.2.1 7 (by decide), h.2.1 14 (by decide), h.2.1 16 (by decide)⟩
/-! ===== a seat, by the rows that it hangs on ===== -/
def seatW (P cap : Int32) (st ha w : Nat → Int32) (p : Nat) : Nat := seatN P (fun x => wv st ha cap (w x)) p
theorem seatW_le (P cap : Int32) (st ha w : Nat → Int32) (p : Nat) : seatW P cap st ha w p ≤ 5 := seatN_le _ _ _
theorem seatN_lt {P : Int32} {v : Nat → Int32} {r : Nat} (hr : r < 5) : seatN P v r < 5 := by
  have h5 : r = 0 ∨ r = 1 ∨ r = 2 ∨ r = 3 ∨ r = 4 := by omega
  unfold seatN cn5
  have hb : ∀ b : Bool, bN b ≤ 1 := fun b => by cases b <;> decide
  rcases h5 with rfl | rfl | rfl | rfl | rfl
  all_goals
    simp only [decide_true, Bool.not_true, Bool.false_and, Bool.and_false]
    have h0 : bN false = 0 := rfl
    rw [h0]
  · have a1 := hb (tB P (nI 1) && (!decide (1 = 0) && ah v 1 0)); have a2 := hb (tB P (nI 2) && (!decide (2 = 0) && ah v 2 0)); have a3 := hb (tB P (nI 3) && (!decide (3 = 0) && ah v 3 0)); have a4 := hb (tB P (nI 4) && (!decide (4 = 0) && ah v 4 0)); omega
  · have a1 := hb (tB P (nI 0) && (!decide (0 = 1) && ah v 0 1)); have a2 := hb (tB P (nI 2) && (!decide (2 = 1) && ah v 2 1)); have a3 := hb (tB P (nI 3) && (!decide (3 = 1) && ah v 3 1)); have a4 := hb (tB P (nI 4) && (!decide (4 = 1) && ah v 4 1)); omega
  · have a1 := hb (tB P (nI 0) && (!decide (0 = 2) && ah v 0 2)); have a2 := hb (tB P (nI 1) && (!decide (1 = 2) && ah v 1 2)); have a3 := hb (tB P (nI 3) && (!decide (3 = 2) && ah v 3 2)); have a4 := hb (tB P (nI 4) && (!decide (4 = 2) && ah v 4 2)); omega
  · have a1 := hb (tB P (nI 0) && (!decide (0 = 3) && ah v 0 3)); have a2 := hb (tB P (nI 1) && (!decide (1 = 3) && ah v 1 3)); have a3 := hb (tB P (nI 2) && (!decide (2 = 3) && ah v 2 3)); have a4 := hb (tB P (nI 4) && (!decide (4 = 3) && ah v 4 3)); omega
  · have a1 := hb (tB P (nI 0) && (!decide (0 = 4) && ah v 0 4)); have a2 := hb (tB P (nI 1) && (!decide (1 = 4) && ah v 1 4)); have a3 := hb (tB P (nI 2) && (!decide (2 = 4) && ah v 2 4)); have a4 := hb (tB P (nI 3) && (!decide (3 = 4) && ah v 3 4)); omega
theorem wv_mc {st ha : Nat → Int32} {cap w : Int32} : wv st ha cap (mc w) = wv st ha cap w := by
  unfold mc
  by_cases h : w = -1
  · subst h; simp only [if_true, wv_5, wv_no]
  · simp only [h, if_false]
theorem seatW_cong {P cap : Int32} {st st' ha ha' w w' : Nat → Int32} {p : Nat} (hp : p < 5) (h1 : ∀ i, i < 5 → st i = st' i) (h2 : ∀ i, i < 5 → ha i = ha' i) (h3 : ∀ i, i < 5 → mc (w i) = mc (w' i)) : seatW P cap st ha w p = seatW P cap st' ha' w' p := by
  unfold seatW seatN
  have e : ∀ x, x < 5 → wv st ha cap (w x) = wv st' ha' cap (w' x) := fun x hx => by rw [← wv_mc, h3 x hx, wv_mc]; exact wv_cong h1 h2
  refine cn5_cong (fun x hx => ?_)
  simp only [ah, e x hx, e p hp]
theorem mc_mc {w : Int32} (h : w = -1 ∨ ∃ c, c < 5 ∧ w = nI c) : mc (mc w) = mc w := by
  rcases h with rfl | ⟨c, hc, rfl⟩
  · decide
  · have : mc (nI c) = nI c := (mc_c hc).mpr rfl
    rw [this, this]
theorem mc_id {c : Nat} (hc : c ≤ 5) : mc (nI c) = nI c := by
  have : c = 0 ∨ c = 1 ∨ c = 2 ∨ c = 3 ∨ c = 4 ∨ c = 5 := by omega
  rcases this with rfl | rfl | rfl | rfl | rfl | rfl <;> decide
def off3 (σ s : Sg) : Prop := ∀ c, c ≠ 61 → c ≠ 62 → c ≠ 63 → s c = σ c
theorem q_laid {k : Nat} {σ : Sg} (hk : k_tw k) : ∃ s, m_X3_lay k σ = some s ∧ off3 σ s ∧ ∀ p, p < 5 → tB (σ k 0) (nI p) = true → s 63 p = nI (seatW (σ k 0) (σ k 2) (σ (k + 7)) (σ (k + 11)) (σ (k + 1)) p) := by
  obtain ⟨s, h1, h2, h3, h4, h5⟩ := q_lay (k := k) (σ := σ) hk
  refine ⟨s, h1, h2, fun p hp tp => ?_⟩
  rw [h5 p hp]
  simp only [tp, if_true, seatW]
  rw [seatN_cong (v' := fun x => wv (σ (k + 7)) (σ (k + 11)) (σ k 2) (σ (k + 1) x)) (fun x hx tx => by simp only [tvl, tx, if_true]) hp tp]
theorem q_seatIn {k p : Nat} {σ : Sg} (hk : k_tw k) (hp : p < 5) (tp : tB (σ k 0) (nI p) = true) : ∃ s, m_X6_seatIn k (nI p) σ = some (nI (seatW (σ k 0) (σ k 2) (σ (k + 7)) (σ (k + 11)) (σ (k + 1)) p), s) ∧ off3 σ s := by
  obtain ⟨s, h1, h2, h3⟩ := q_laid (k := k) (σ := σ) hk
  refine ⟨s, ?_, h2⟩
  unfold m_X6_seatIn
  simp only [h1, p_cV, q_seatOf5 hp, p_cI, h3 p hp tp]
theorem q_seatS {p : Nat} {σ : Sg} (ho : ∀ i, i < 5 → ∃ c, c ≤ 5 ∧ σ 114 i = nI c) (hp : p < 5) : m_X7_seatOf (nI p) σ = some (nI (seatW (σ 100 0) (σ 100 23) (σ 118) (σ 105) (σ 114) p), σ) := by
  unfold seatW
  refine q_seatM hp (fun i hi => ?_)
  obtain ⟨c, hc, e⟩ := ho i hi
  rw [q_worth hi hc e, e]
theorem off3.ps {σ s : Sg} (h : off3 σ s) : Ps σ s := ⟨fun c hc => h c (by omega) (by omega) (by omega), by rw [h 100 (by decide) (by decide) (by decide)], by rw [h 100 (by decide) (by decide) (by decide)], by rw [h 100 (by decide) (by decide) (by decide)], by rw [h 100 (by decide) (by decide) (by decide)], by rw [h 100 (by decide) (by decide) (by decide)]⟩
theorem wear_ok {σ : Sg} {k : Nat} (w : Wf σ k) : ∀ p, p < 5 → σ (k + 1) p = -1 ∨ ∃ c, c < 5 ∧ σ (k + 1) p = nI c := fun p hp => by
  rcases w.2.2.2.1 p hp with h | ⟨c, h1, h2, -, -⟩
  · exact Or.inl h
  · exact Or.inr ⟨c, h1, h2⟩
theorem code_ok {w : Int32} (h : w = -1 ∨ ∃ c, c < 5 ∧ w = nI c) : ∃ c, c ≤ 5 ∧ mc w = nI c := by
  rcases h with rfl | ⟨c, hc, rfl⟩
  · exact ⟨5, by omega, by decide⟩
  · exact ⟨c, by omega, (mc_c hc).mpr rfl⟩
/-- what is seen of a person in a town -/
def stV (σ : Sg) (k p j : Nat) : Int32 := match j with
  | 0 => if σ (k + 1) p = -1 then -6 else σ (k + 1) p
  | 1 => σ (k + 2) p
  | 2 => σ (k + 3) p
  | 3 => σ (k + 4) p
  | _ => nI (seatW (σ k 0) (σ k 2) (σ (k + 7)) (σ (k + 11)) (σ (k + 1)) p)
theorem q_stateIn {k p j : Nat} {σ : Sg} (hk : k_tw k) (hp : p < 5) (hj : j ≤ 4) (tp : tB (σ k 0) (nI p) = true) : ∃ s, m_X6_stateIn k (nI p) (nI j) σ = some (stV σ k p j, s) ∧ off3 σ s := by
  unfold m_X6_stateIn
  simp only [q_within, inB_nI hp, p_cI, p_ifz, if_true]
  have : j = 0 ∨ j = 1 ∨ j = 2 ∨ j = 3 ∨ j = 4 := by omega
  rcases this with rfl | rfl | rfl | rfl | rfl
  · refine ⟨σ, ?_, fun _ _ _ _ => rfl⟩
    rw [sw_in (by decide) (by decide)]
    simp only [p_gd (in5 hp), ix5 hp, stV]
    split <;> rfl
  · refine ⟨σ, ?_, fun _ _ _ _ => rfl⟩
    rw [sw_in (by decide) (by decide)]
    simp only [p_gd (in5 hp), ix5 hp, stV]
  · refine ⟨σ, ?_, fun _ _ _ _ => rfl⟩
    rw [sw_in (by decide) (by decide)]
    simp only [p_gd (in5 hp), ix5 hp, stV]
  · refine ⟨σ, ?_, fun _ _ _ _ => rfl⟩
    rw [sw_in (by decide) (by decide)]
    simp only [p_gd (in5 hp), ix5 hp, stV]
  · obtain ⟨s, h1, h2⟩ := q_seatIn (σ := σ) hk hp tp
    refine ⟨s, ?_, h2⟩
    rw [sw_out (by decide) (by decide), h1]
    simp only [p_cI, stV]
/-- 'now' is a town -/
def Nw (σ : Sg) (k : Nat) : Prop := σ 100 0 = σ k 0 ∧ σ 100 1 = σ k 1 ∧ σ 100 23 = σ k 2 ∧ ∀ i, i < 5 → σ 114 i = mc (σ (k + 1) i) ∧ σ 115 i = σ (k + 2) i ∧ σ 116 i = σ (k + 3) i ∧ σ 117 i = σ (k + 4) i ∧ σ 118 i = σ (k + 7) i ∧ σ 102 i = σ (k + 8) i ∧ σ 105 i = σ (k + 11) i
theorem Nw.seat {σ : Sg} {k p : Nat} (h : Nw σ k) (hw : ∀ p, p < 5 → σ (k + 1) p = -1 ∨ ∃ c, c < 5 ∧ σ (k + 1) p = nI c) (hp : p < 5) : m_X7_seatOf (nI p) σ = some (nI (seatW (σ k 0) (σ k 2) (σ (k + 7)) (σ (k + 11)) (σ (k + 1)) p), σ) := by
  obtain ⟨h1, h2, h3, h4⟩ := h
  rw [q_seatS (fun i hi => by rw [(h4 i hi).1]; exact code_ok (hw i hi)) hp, h1, h3, seatW_cong (w' := σ (k + 1)) hp (fun i hi => (h4 i hi).2.2.2.2.1) (fun i hi => (h4 i hi).2.2.2.2.2.2) (fun i hi => by rw [(h4 i hi).1]; exact mc_mc (hw i hi))]
theorem Nw.state {σ : Sg} {k p j : Nat} (h : Nw σ k) (hw : ∀ p, p < 5 → σ (k + 1) p = -1 ∨ ∃ c, c < 5 ∧ σ (k + 1) p = nI c) (hp : p < 5) (hj : j ≤ 4) : m_X7_stateNow (nI p) (nI j) σ = some (stV σ k p j, σ) := by
  unfold m_X7_stateNow
  obtain ⟨b1, b2, b3, b4, -⟩ := h.2.2.2 p hp
  have : j = 0 ∨ j = 1 ∨ j = 2 ∨ j = 3 ∨ j = 4 := by omega
  rcases this with rfl | rfl | rfl | rfl | rfl
  · rw [sw_in (by decide) (by decide)]
    simp only [p_gd (in5 hp), ix5 hp, stV, b1]
    rcases hw p hp with e | ⟨c, hc, e⟩
    · rw [e, mc_n]; simp
    · rw [e, (mc_c hc).mpr rfl]
      have n5 : ¬ nI c = 5 := fun q => by have := (nI_eq (a := c) (b := 5) (by omega) (by decide)).mp q; omega
      have n1 : ¬ nI c = -1 := fun q => m1_c hc q.symm
      simp [n5, n1]
  · rw [sw_in (by decide) (by decide)]; simp only [p_gd (in5 hp), ix5 hp, stV, b2]
  · rw [sw_in (by decide) (by decide)]; simp only [p_gd (in5 hp), ix5 hp, stV, b3]
  · rw [sw_in (by decide) (by decide)]; simp only [p_gd (in5 hp), ix5 hp, stV, b4]
  · rw [sw_out (by decide) (by decide), h.seat hw hp]
    simp only [p_cI, stV]
theorem asn.nw {σ s : Sg} (hI : Inv σ) (h : asn σ s) : Nw s 1 := by
  obtain ⟨w1, ⟨a1, a2, a3, a4, a5, a6⟩, w3, w4⟩ := hI
  obtain ⟨h1, h2, h3, h4⟩ := h
  have r : ∀ c, c < 100 → s c = σ c := fun c hc => h1 c (by omega)
  refine ⟨by rw [h2 0 (by decide), r 1 (by decide)]; exact a1, by rw [h2 1 (by decide), r 1 (by decide)]; exact a2, by rw [h3, r 1 (by decide)]; exact a3, fun i hi => ?_⟩
  obtain ⟨b1, b2, b3, b4, b5, b6, b7, b8, b9, b10, b11⟩ := a5 i hi
  obtain ⟨c1, c2, c3, c4, c5⟩ := h4 i hi
  simp only [Nat.reduceAdd]
  rw [c1, c2, c3, c4, c5, h1 102 (by omega), h1 105 (by omega), r 2 (by decide), r 3 (by decide), r 4 (by decide), r 5 (by decide), r 8 (by decide), r 9 (by decide), r 12 (by decide)]
  exact ⟨b1, b2, b3, b4, b7, b8, b11⟩
theorem stV_ext {σ s : Sg} {k p j : Nat} (h : ∀ c, k ≤ c → c ≤ k + 11 → s c = σ c) : stV s k p j = stV σ k p j := by
  unfold stV
  rw [h k (by omega) (by omega), h (k + 1) (by omega) (by omega), h (k + 2) (by omega) (by omega), h (k + 3) (by omega) (by omega), h (k + 4) (by omega) (by omega), h (k + 7) (by omega) (by omega), h (k + 11) (by omega) (by omega)]
theorem op_state (x y : Int32) : SimI (m_X6_state x y) (m_X7_state x y) := by
  intro σ hI
  obtain ⟨w1, w2, w3, w4⟩ := id hI
  have a1 := w2.1
  unfold m_X6_state m_X7_state
  simp only [q_hasPerson, q_isThere, q_within, q_in, p_cI, p_ifz]
  cases hx : hB (σ 1 0) x
  · exact ⟨_, _, σ, rfl, by simp [a1, hx], hI⟩
  · obtain ⟨p, hp, rfl⟩ := hB_ix hx
    have tp : tB (σ 1 0) (nI p) = true := by rw [← hB_nI hp]; exact hx
    simp only [if_true]
    cases hy : inB y 0 4
    · exact ⟨_, _, σ, rfl, by simp [a1, hx], hI⟩
    · obtain ⟨j, hj, rfl⟩ := inB_ix (n := 4) (by decide) hy
      obtain ⟨s, g1, g2⟩ := q_stateIn (k := 1) (σ := σ) tw_1 hp hj tp
      have hs := hI.ps g2.ps
      obtain ⟨t, t1, t2⟩ := q_asNow (σ := s)
      have ht := hs.ps t2.ps
      refine ⟨stV σ 1 p j, s, t, by simp only [if_true, g1, p_cI], ?_, ht⟩
      have e0 : s 100 0 = σ 1 0 := by rw [g2 100 (by decide) (by decide) (by decide)]; exact a1
      simp only [e0, hx, if_true, t1, p_cV, (t2.nw hs).state (wear_ok ht.1) hp hj, p_cI]
      rw [stV_ext (fun c h1 h2 => t2.1 c (by omega)), stV_ext (fun c h1 h2 => g2 c (by omega) (by omega) (by omega))]
/-- the first of five of whom it holds, or -6 -/
def fst5 (b : Nat → Bool) (r : Int32) : Prop := (∃ p, p < 5 ∧ r = nI p ∧ b p = true ∧ ∀ q, q < p → b q = false) ∨ (r = -6 ∧ ∀ q, q < 5 → b q = false)
theorem fst5_one {b : Nat → Bool} {r r' : Int32} (h : fst5 b r) (h' : fst5 b r') : r = r' := by
  rcases h with ⟨p, hp, rfl, h1, h2⟩ | ⟨rfl, h1⟩
  · rcases h' with ⟨p', hp', rfl, h1', h2'⟩ | ⟨rfl, h1'⟩
    · rcases Nat.lt_trichotomy p p' with q | q | q
      · rw [h2' p q] at h1; cases h1
      · rw [q]
      · rw [h2 p' q] at h1'; cases h1'
    · rw [h1' p hp] at h1; cases h1
  · rcases h' with ⟨p', hp', rfl, h1', h2'⟩ | ⟨rfl, h1'⟩
    · rw [h1 p' hp'] at h1'; cases h1'
    · rfl
theorem op_at (x : Int32) : SimI (m_X6_at x) (m_X7_at x) := by
  intro σ hI
  obtain ⟨w1, w2, w3, w4⟩ := id hI
  have a1 := w2.1
  unfold m_X6_at m_X7_at
  obtain ⟨s, g0, g1, g2⟩ := q_laid (k := 1) (σ := σ) tw_1
  have hs := hI.ps g1.ps
  obtain ⟨t, t1, t2⟩ := q_asNow (σ := s)
  have ht := hs.ps t2.ps
  let b : Nat → Bool := fun p => tB (σ 1 0) (nI p) && decide (nI (seatW (σ 1 0) (σ 1 2) (σ 8) (σ 12) (σ 2) p) = x)
  have sP : s 1 0 = σ 1 0 := by rw [g1 1 (by decide) (by decide) (by decide)]
  have hC : ∃ r, e_lp1 (d_X6_at_13 x (fun σ6 => some (-6, σ6))) e_F 0 s = some (r, s) ∧ fst5 b r := by
    refine lp1_z (fun o => ∃ r, o = some (r, s) ∧ fst5 b r) (fun i u => u = s ∧ ∀ q, q < i → b q = false) 5 ?_ ?_ (e_F_lt (by omega)) ⟨rfl, fun q hq => by omega⟩
    · rintro H u ⟨rfl, h⟩
      simp only [d_X6_at_13, le5, if_true]
      exact ⟨-6, rfl, Or.inr ⟨rfl, h⟩⟩
    · rintro H i u hi ⟨rfl, h⟩ kk
      simp only [d_X6_at_13, ge5 hi, if_false, q_hasPerson, hB_nI hi, sP, p_cI, p_ifz, q_seatOf5 hi, x_s]
      cases ti : tB (σ 1 0) (nI i)
      · simp only [Bool.false_eq_true, if_false]
        exact kk u ⟨rfl, fun q hq => by
          by_cases e : q = i
          · subst e; simp [b, ti]
          · exact h q (by omega)⟩
      · simp only [if_true, g2 i hi ti]
        by_cases e : nI (seatW (σ 1 0) (σ 1 2) (σ (1 + 7)) (σ (1 + 11)) (σ (1 + 1)) i) = x
        · simp only [e, if_true]
          exact ⟨nI i, rfl, Or.inl ⟨i, hi, rfl, by simp [b, ti]; exact e, h⟩⟩
        · simp only [e, if_false]
          exact kk u ⟨rfl, fun q hq => by
            by_cases e' : q = i
            · subst e'; simp [b, ti]; exact e
            · exact h q (by omega)⟩
  have tP : t 100 0 = σ 1 0 := by rw [t2.2.1 0 (by decide), g1 100 (by decide) (by decide) (by decide)]; exact a1
  have tr : ∀ c, 1 ≤ c → c ≤ 14 → t c = σ c := fun c h1 h2 => by rw [t2.1 c (by omega)]; exact g1 c (by omega) (by omega) (by omega)
  have hM : ∃ r, e_lp1 (d_X7_at_6 x (fun σ6 => some (-6, σ6))) e_F 0 t = some (r, t) ∧ fst5 b r := by
    refine lp1_z (fun o => ∃ r, o = some (r, t) ∧ fst5 b r) (fun i u => u = t ∧ ∀ q, q < i → b q = false) 5 ?_ ?_ (e_F_lt (by omega)) ⟨rfl, fun q hq => by omega⟩
    · rintro H u ⟨rfl, h⟩
      simp only [d_X7_at_6, le5, if_true]
      exact ⟨-6, rfl, Or.inr ⟨rfl, h⟩⟩
    · rintro H i u hi ⟨rfl, h⟩ kk
      simp only [d_X7_at_6, ge5 hi, if_false, q_has, tP, p_cI, p_ifz, x_s]
      cases ti : tB (σ 1 0) (nI i)
      · simp only [Bool.false_eq_true, if_false]
        exact kk u ⟨rfl, fun q hq => by
          by_cases e : q = i
          · subst e; simp [b, ti]
          · exact h q (by omega)⟩
      · have hseat := (t2.nw hs).seat (wear_ok ht.1) hi
        simp only [Nat.reduceAdd] at hseat
        rw [tr 1 (by decide) (by decide), tr 8 (by decide) (by decide), tr 12 (by decide) (by decide), tr 2 (by decide) (by decide)] at hseat
        simp only [if_true, hseat, p_cI]
        by_cases e : nI (seatW (σ 1 0) (σ 1 2) (σ 8) (σ 12) (σ 2) i) = x
        · simp only [e, if_true]
          exact ⟨nI i, rfl, Or.inl ⟨i, hi, rfl, by simp [b, ti, e], h⟩⟩
        · simp only [e, if_false]
          exact kk u ⟨rfl, fun q hq => by
            by_cases e' : q = i
            · subst e'; simp [b, ti, e]
            · exact h q (by omega)⟩
  obtain ⟨r, r1, r2⟩ := hC
  obtain ⟨r', r1', r2'⟩ := hM
  have := fst5_one r2 r2'
  subst this
  exact ⟨r, s, t, by rw [g0]; simp only [p_cV]; exact r1, by rw [t1]; simp only [p_cV]; exact r1', ht⟩
