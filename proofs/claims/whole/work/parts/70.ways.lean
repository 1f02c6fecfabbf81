/-! ===== the ways of both ===== -/
def peS (σ : Sg) (p : Nat) : Bool := tB (σ 1 0) (nI p)
def cpS (σ : Sg) (c : Nat) : Nat := if tB (σ 1 1) (nI c) = true then 1 + (if σ 12 c = 1 then 1 else 0) else 0
theorem cpS_2 (σ : Sg) (c : Nat) : cpS σ c ≤ 2 := by
  unfold cpS
  repeat' split
  all_goals omega
def wF (σ s : Sg) : Prop := cS σ s ∧ (∀ r, r < 4 → s 66 r = σ 1 r) ∧ (∀ j r, j < 14 → j ≠ 0 → j ≠ 1 → rng j r = true → s (66 + j) r = σ (1 + j) r) ∧ ∀ c, c < 5 → s 61 c = wv (σ 8) (σ 12) (σ 1 2) (nI c)
theorem wF.mv {σ s t : Sg} (h : wF σ s) (g : ∀ c, c ≠ 62 → c ≠ 63 → c ≠ 65 → c ≠ 67 → c ≠ 80 → c ≠ 81 → t c = s c) : wF σ t := by
  obtain ⟨h1, h2, h3, h4⟩ := h
  refine ⟨fun c hc => by rw [g c (by omega) (by omega) (by omega) (by omega) (by omega) (by omega)]; exact h1 c hc, fun r hr => by rw [g 66 (by decide) (by decide) (by decide) (by decide) (by decide) (by decide)]; exact h2 r hr, fun j r a b c d => ?_, fun c hc => by rw [g 61 (by decide) (by decide) (by decide) (by decide) (by decide) (by decide)]; exact h4 c hc⟩
  rw [g (66 + j) (by omega) (by omega) (by omega) (by omega) (by omega) (by omega)]
  exact h3 j r a b c d
theorem dg_0 (q : Nat) : dg 0 q = 0 := by simp [dg]
theorem cD_z {D : Nat → Nat} {c : Nat} (h : ∀ q, q < 5 → D q = 0) : cD D c = 0 := by
  unfold cD cn5
  have z : ∀ q, q < 5 → bN (decide (D q = c + 1)) = 0 := fun q hq => by rw [h q hq, decide_eq_false (by omega)]; rfl
  rw [z 0 (by decide), z 1 (by decide), z 2 (by decide), z 3 (by decide), z 4 (by decide)]
theorem q_beginX {σ : Sg} (hI : Inv σ) : ∃ s, m_X5_begin 1 σ = some s ∧ wF σ s ∧ Wy (peS σ) (cpS σ) 0 s ∧ s 81 = σ 81 := by
  obtain ⟨w1, w2, w3, w4⟩ := id hI
  obtain ⟨s1, g0, g1⟩ := q_become (a := 66) (b := 1) (σ := σ) (by omega)
  unfold m_X5_begin
  rw [g0, p_cV]
  have ka80 : k_ar 80 = true := by decide
  have kl80 : k_ln 80 = 5 := by decide
  refine lp1_z (fun o => ∃ s : Sg, o = some s ∧ wF σ s ∧ Wy (peS σ) (cpS σ) 0 s ∧ s 81 = σ 81) (fun i s => (∀ c, c ≠ 67 → s c = s1 c) ∧ ∀ q, q < i → s 67 q = -1) 5 ?_ ?_ (e_F_lt (by omega)) ⟨fun _ _ => rfl, fun q hq => by omega⟩
  · rintro H s2 ⟨f1, f2⟩
    simp only [d_X5_begin_10, le5, if_true]
    refine lp1_z (fun o => ∃ s : Sg, o = some s ∧ wF σ s ∧ Wy (peS σ) (cpS σ) 0 s ∧ s 81 = σ 81) (fun i s => (∀ c, c ≠ 80 → s c = s2 c) ∧ ∀ c, c < i → s 80 c = nI (cpS σ c)) 5 ?_ ?_ (e_F_lt (by omega)) ⟨fun _ _ => rfl, fun q hq => by omega⟩
    · rintro H2 s3 ⟨e1, e2⟩
      simp only [d_X5_begin_33, le5, if_true]
      obtain ⟨s4, l1, l2, l3, l4, l5⟩ := q_lay (k := 66) (σ := s3) tw_66
      have s31 : ∀ c, c ≠ 67 → c ≠ 80 → s3 c = s1 c := fun c c1 c2 => by rw [e1 c c2]; exact f1 c c1
      have o4 : ∀ c, c ≠ 61 → c ≠ 62 → c ≠ 63 → c ≠ 65 → c ≠ 67 → c ≠ 80 → k_up s4 65 4 1 c = s1 c := fun c c1 c2 c3 c4 c5 c6 => by rw [up_rw, rw1_ne c4, l2 c c1 c2 c3]; exact s31 c c5 c6
      rw [l1, p_cV, p_lt]
      refine ⟨_, rfl, ⟨fun c hc => ?_, fun r hr => ?_, fun j r j1 j2 j3 j4 => ?_, fun c hc => ?_⟩, ⟨⟨fun q hq => ?_, fun c hc => ?_⟩, ?_, ?_, by decide⟩, ?_⟩
      · rw [o4 c (by omega) (by omega) (by omega) (by omega) (by omega) (by omega)]; exact g1.1 c (by omega)
      · rw [o4 66 (by decide) (by decide) (by decide) (by decide) (by decide) (by decide)]; exact bec_0 g1 hr
      · rw [o4 (66 + j) (by omega) (by omega) (by omega) (by omega) (by omega) (by omega)]; exact g1.2 j r j1 j4
      · rw [up_rw, rw1_ne (by decide), l3 c hc, s31 66 (by decide) (by decide), bec_0 g1 (by decide)]
        refine wv_cong (fun i hi => ?_) (fun i hi => ?_)
        · rw [s31 (66 + 7) (by decide) (by decide)]; exact bec_j g1 (by decide) (by decide) hi
        · rw [s31 (66 + 11) (by decide) (by decide)]; exact bec_j g1 (by decide) (by decide) hi
      · rw [up_rw, rw1_ne (by decide), l2 67 (by decide) (by decide) (by decide), e1 67 (by decide), f2 q hq, dg_0]; rfl
      · rw [up_rw, rw1_ne (by decide), l2 80 (by decide) (by decide) (by decide), e2 c hc, cD_z (fun q _ => dg_0 q), Nat.sub_zero]
      · exact vB_iff.mpr ⟨fun p _ => Or.inl (dg_0 p), fun c _ => by rw [cD_z (fun q _ => dg_0 q)]; omega⟩
      · rw [up_rw, rw1_eq, upd_s]
      · rw [o4 81 (by decide) (by decide) (by decide) (by decide) (by decide) (by decide)]; exact g1.1 81 (by omega)
    · rintro H2 i s3 hi ⟨e1, e2⟩ kk
      have s31 : ∀ c, c ≠ 67 → c ≠ 80 → s3 c = s1 c := fun c c1 c2 => by rw [e1 c c2]; exact f1 c c1
      have p66 : s3 66 1 = σ 1 1 := by rw [s31 66 (by decide) (by decide)]; exact bec_0 g1 (by decide)
      have p77 : s3 77 i = σ 12 i := by rw [s31 77 (by decide) (by decide)]; exact bec_j (a := 66) (b := 1) (j := 11) g1 (by decide) (by decide) hi
      simp only [d_X5_begin_33, ge5 hi, if_false, q_hasCoat, hB_tB hi, p66, p_cI, p_ifz, p_gd (in5 hi), ix5 hi, p77, b_X5_begin_69, p_gd ka80, kl80, p_wr (in5 hi), x_s]
      have fin : ∀ y, y = nI (cpS σ i) → ∃ s : Sg, H2 (nI (i + 1)) (k_up s3 80 i y) = some s ∧ wF σ s ∧ Wy (peS σ) (cpS σ) 0 s ∧ s 81 = σ 81 := fun y hy =>
        kk _ ⟨fun c hc => by rw [up_rw, rw1_ne hc]; exact e1 c hc, fun c hc => by
          rw [up_rw, rw1_eq]
          by_cases a : c = i
          · subst a; rw [upd_s, hy]
          · rw [upd_n a]; exact e2 c (by omega)⟩
      by_cases t : tB (σ 1 1) (nI i) = true
      · rw [if_pos t]
        refine fin _ ?_
        unfold cpS
        rw [if_pos t]
        rcases w1.2.2.2.2.2.2.2.2.1 i hi with q | q
        · simp only [Nat.reduceAdd] at q
          rw [q]; decide
        · simp only [Nat.reduceAdd] at q
          rw [q]; decide
      · rw [if_neg t]
        refine fin _ ?_
        unfold cpS
        rw [if_neg t]; rfl
  · rintro H i s hi ⟨f1, f2⟩ kk
    simp only [d_X5_begin_10, ge5 hi, if_false, p_wr (in5 hi), ix5 hi, x_s]
    refine kk _ ⟨fun c hc => by rw [up_rw, rw1_ne hc]; exact f1 c hc, fun q hq => ?_⟩
    rw [up_rw, rw1_eq]
    by_cases a : q = i
    · subst a; rw [upd_s]
    · rw [upd_n a]; exact f2 q (by omega)
theorem q_begin {σ : Sg} (hI : Inv σ) : ∃ s, m_X5_begin 1 σ = some s ∧ wF σ s ∧ Wy (peS σ) (cpS σ) 0 s := by
  obtain ⟨s, h1, h2, h3, -⟩ := q_beginX hI
  exact ⟨s, h1, h2, h3⟩
def sK (σ : Sg) (D : Nat → Nat) (p : Nat) : Nat := seatW (σ 1 0) (σ 1 2) (σ 8) (σ 12) (fun q => dI (D q)) p
theorem sK_cong {σ : Sg} {D E : Nat → Nat} {p : Nat} (hp : p < 5) (h : ∀ q, q < 5 → D q = E q) : sK σ D p = sK σ E p := seatW_cong hp (fun _ _ => rfl) (fun _ _ => rfl) (fun q hq => by rw [h q hq])
theorem sK_le (σ : Sg) (D : Nat → Nat) (p : Nat) : sK σ D p ≤ 5 := seatW_le _ _ _ _ _ _
theorem dI_ok {d : Nat} (h : d < 6) : dI d = -1 ∨ ∃ c, c < 5 ∧ dI d = nI c := by
  cases d with
  | zero => exact Or.inl rfl
  | succ c => exact Or.inr ⟨c, by omega, dI_s c⟩
theorem q_waySit {σ s : Sg} {cp D : Nat → Nat} (hD : ∀ q, q < 5 → D q < 6) (hf : wF σ s) (hw : Wd cp D s) : ∃ s', m_X3_sit 66 s = some s' ∧ (∀ c, c ≠ 62 → c ≠ 63 → s' c = s c) ∧ (∀ p, p < 5 → s' 63 p = if tB (σ 1 0) (nI p) = true then nI (sK σ D p) else -6) ∧
    ∀ p, p < 5 → tB (σ 1 0) (nI p) = true → s' 62 p = wv (σ 8) (σ 12) (σ 1 2) (dI (D p)) := by
  obtain ⟨f1, f2, f3, f4⟩ := hf
  obtain ⟨s', h1, h2, h3, h4⟩ := q_sit (k := 66) (σ := s) (by decide)
  have etv : ∀ p, p < 5 → tB (σ 1 0) (nI p) = true → tv s 66 p = wv (σ 8) (σ 12) (σ 1 2) (dI (D p)) := fun p hp tp => by
    unfold tv
    rw [f2 0 (by decide), if_pos tp, show s (66 + 1) p = s 67 p from rfl, hw.1 p hp]
    rcases dI_ok (hD p hp) with e | ⟨c, hc, e⟩
    · rw [e, inB_m1, wv_no]; rfl
    · rw [e, inB_nI hc, if_pos rfl, ix5 hc, f4 c hc]
  refine ⟨s', h1, h2, fun p hp => ?_, fun p hp tp => ?_⟩
  · rw [h4 p hp, f2 0 (by decide)]
    by_cases tp : tB (σ 1 0) (nI p) = true
    · rw [if_pos tp, if_pos tp]
      unfold sK seatW
      rw [seatN_cong (fun x hx tx => etv x hx tx) hp tp]
    · rw [if_neg tp, if_neg tp]
  · rw [h3 p hp]; exact etv p hp tp
/-! the reference's -/
def rF (σ u : Sg) : Prop := (∀ j, j < 23 → u 100 j = σ 100 j) ∧ (∀ c, 101 ≤ c → c ≤ 113 → u c = σ c) ∧ u 100 23 = σ 1 2 ∧ ∀ i, i < 5 → u 118 i = σ 8 i
def oD (D : Nat → Nat) (u : Sg) : Prop := ∀ p, p < 5 → u 114 p = mc (dI (D p))
theorem rF.mv {σ u v : Sg} (h : rF σ u) (g : ∀ c, c ≠ 114 → c ≠ 119 → c ≠ 120 → v c = u c) : rF σ v := by
  obtain ⟨h1, h2, h3, h4⟩ := h
  have g100 : v 100 = u 100 := g 100 (by decide) (by decide) (by decide)
  exact ⟨fun j hj => by rw [g100]; exact h1 j hj, fun c c1 c2 => by rw [g c (by omega) (by omega) (by omega)]; exact h2 c c1 c2, by rw [g100]; exact h3, fun i hi => by rw [g 118 (by decide) (by decide) (by decide)]; exact h4 i hi⟩
theorem asn.rF {σ τ u : Sg} (hI : Inv σ) (hτ : ∀ c, 100 ≤ c → τ c = σ c) (h : asn τ u) : rF σ u := by
  obtain ⟨h1, h2, h3, h4⟩ := h
  obtain ⟨w1, ⟨a1, a2, a3, a4, a5, a6⟩, w3, w4⟩ := hI
  refine ⟨fun j hj => by rw [h2 j (by omega), hτ 100 (by omega)], fun c c1 c2 => by rw [h1 c (by omega)]; exact hτ c (by omega), by rw [h3, hτ 100 (by omega)]; exact a3, fun i hi => ?_⟩
  rw [(h4 i hi).2.2.2.2, hτ 101 (by omega)]
  exact (a5 i hi).2.2.2.2.2.2.1
theorem r6_mc : ∀ r, r < 6 → nI r = mc (dI ((r + 1) % 6)) := by decide
theorem dR_lt (k p : Nat) : dR k p < 6 := Nat.mod_lt _ (by decide)
theorem q_dress {u : Sg} {e : Nat} (he : e < 7776) : ∃ v, m_X7_dress (nI e) u = some v ∧ (∀ c, c ≠ 114 → v c = u c) ∧ oD (dR e) v := by
  unfold m_X7_dress
  refine lp2_z (fun o => ∃ v : Sg, o = some v ∧ (∀ c, c ≠ 114 → v c = u c) ∧ oD (dR e) v) (fun i a v => a = nI (e / 6 ^ i) ∧ (∀ c, c ≠ 114 → v c = u c) ∧ ∀ p, p < i → v 114 p = mc (dI (dR e p))) 5 ?_ ?_ (e_F_lt (by omega)) ⟨by simp, fun _ _ => rfl, fun p hp => by omega⟩
  · rintro H a v ⟨-, g1, g2⟩
    simp only [d_X7_dress_4, le5, if_true]
    exact ⟨v, rfl, g1, g2⟩
  · rintro H i a v hi ⟨rfl, g1, g2⟩ kk
    have hb : e / 6 ^ i < 2 ^ 31 := Nat.lt_of_le_of_lt (Nat.div_le_self _ _) (by omega)
    have j6 : jrm (nI (e / 6 ^ i)) 6 = nI (e / 6 ^ i % 6) := jrm_nI (d := 6) hb (by decide) (by decide)
    have d6 : nI (e / 6 ^ i) / 6 = nI (e / 6 ^ (i + 1)) := by
      have : nI (e / 6 ^ i) / 6 = nI (e / 6 ^ i / 6) := pk_div (d := 6) hb (by decide) (by decide)
      rw [this, Nat.div_div_eq_div_mul, Nat.pow_succ]
    simp only [d_X7_dress_4, ge5 hi, if_false, p_wr (in5 hi), ix5 hi, j6, d6, p_lt, x_s]
    refine kk _ _ ⟨rfl, fun c hc => by rw [up_rw, rw1_ne hc]; exact g1 c hc, fun p hp => ?_⟩
    rw [up_rw, rw1_eq]
    by_cases a : p = i
    · subst a; rw [upd_s, r6_mc _ (Nat.mod_lt _ (by decide))]; rfl
    · rw [upd_n a]; exact g2 p (by omega)
def al (b : Nat → Bool) : Nat → Bool
  | 0 => true
  | i + 1 => al b i && b i
theorem al_5 (b : Nat → Bool) : al b 5 = a5 b := by simp only [al, a5, Bool.true_and]
theorem oD_5 {D : Nat → Nat} {u : Sg} (hD : ∀ q, q < 5 → D q < 6) (h : oD D u) {p : Nat} (hp : p < 5) : (u 114 p = 5 ↔ D p = 0) ∧ (∀ c, c < 5 → (u 114 p = nI c ↔ D p = c + 1)) := by
  rw [h p hp]
  have : ∀ d, d < 6 → (mc (dI d) = 5 ↔ d = 0) ∧ (∀ c, c < 5 → (mc (dI d) = nI c ↔ d = c + 1)) := by decide
  exact this _ (hD p hp)
theorem q_isWay {σ u : Sg} {D : Nat → Nat} (hI : Inv σ) (hD : ∀ q, q < 5 → D q < 6) (hr : rF σ u) (ho : oD D u) : m_X7_isWay u = some (zI (vB (peS σ) (cpS σ) D), u) := by
  obtain ⟨w1, ⟨a1, a2, a3, a4, b5, a6⟩, w3, w4⟩ := id hI
  have u0 : u 100 0 = σ 1 0 := by rw [hr.1 0 (by decide)]; exact a1
  have u1 : u 100 1 = σ 1 1 := by rw [hr.1 1 (by decide)]; exact a2
  have n10 : ¬ (1 : Int32) = 0 := by decide
  let B1 : Nat → Bool := fun p => decide (D p = 0) || (peS σ p && tB (σ 1 1) (nI (D p - 1)))
  let B2 : Nat → Bool := fun c => decide (cn5 (fun i => peS σ i && decide (D i = c + 1)) ≤ 1 + (if σ 12 c = 1 then 1 else 0))
  have fin : (al B1 5 && al B2 5) = vB (peS σ) (cpS σ) D := by
    rw [al_5, al_5]
    apply Bool.eq_iff_iff.mpr
    rw [Bool.and_eq_true, a5_iff, a5_iff, vB_iff]
    constructor
    · rintro ⟨h1, h2⟩
      have hp : ∀ p, p < 5 → D p = 0 ∨ (peS σ p = true ∧ tB (σ 1 1) (nI (D p - 1)) = true) := fun p hp => by
        have := h1 p hp
        simp only [B1, Bool.or_eq_true, Bool.and_eq_true, decide_eq_true_eq] at this
        exact this
      refine ⟨fun p hp5 => (hp p hp5).imp id (fun q => q.1), fun c hc => ?_⟩
      have h2c := of_decide_eq_true (h2 c hc)
      have ec : cD D c = cn5 (fun i => peS σ i && decide (D i = c + 1)) := cn5_cong (fun i hi => by
        rcases hp i hi with q | q
        · rw [q, decide_eq_false (by omega), Bool.and_false]
        · rw [q.1, Bool.true_and])
      unfold cpS
      by_cases t : tB (σ 1 1) (nI c) = true
      · rw [if_pos t, ec]; exact h2c
      · rw [if_neg t]
        have z : ∀ q, q < 5 → bN (decide (D q = c + 1)) = 0 := fun q hq => by
          rw [decide_eq_false (fun e => ?_)]; rfl
          rcases hp q hq with r | r
          · omega
          · rw [e, Nat.add_sub_cancel] at r; exact t r.2
        unfold cD cn5
        rw [z 0 (by decide), z 1 (by decide), z 2 (by decide), z 3 (by decide), z 4 (by decide)]
        exact Nat.le_refl _
    · rintro ⟨h1, h2⟩
      have ec : ∀ c, cn5 (fun i => peS σ i && decide (D i = c + 1)) = cD D c := fun c => cn5_cong (fun i hi => by
        rcases h1 i hi with q | q
        · rw [q, decide_eq_false (by omega), Bool.and_false]
        · rw [q, Bool.true_and])
      refine ⟨fun p hp5 => ?_, fun c hc => ?_⟩
      · simp only [B1, Bool.or_eq_true, Bool.and_eq_true, decide_eq_true_eq]
        by_cases d0 : D p = 0
        · exact Or.inl d0
        · refine Or.inr ⟨(h1 p hp5).resolve_left d0, ?_⟩
          have hd := hD p hp5
          have hcp := h2 (D p - 1) (by omega)
          have pos : 1 ≤ cD D (D p - 1) := by
            have hz : cD (fun _ => 0) (D p - 1) = 0 := cD_z (fun _ _ => rfl)
            have hu := cD_up (D := fun _ => 0) (p := p) (x := D p) (c := D p - 1) hp5 rfl
            rw [hz, decide_eq_true (show D p = D p - 1 + 1 by omega)] at hu
            have hm : cD (uN' (fun _ => 0) p (D p)) (D p - 1) ≤ cD D (D p - 1) := cn5_mono (fun q hq => by
              show bN (decide ((if q = p then D p else 0) = D p - 1 + 1)) ≤ bN (decide (D q = D p - 1 + 1))
              by_cases a : q = p
              · subst a; rw [if_pos rfl]; exact Nat.le_refl _
              · rw [if_neg a, decide_eq_false (by omega)]; exact Nat.zero_le _)
            rw [hu] at hm
            exact hm
          unfold cpS at hcp
          by_cases t : tB (σ 1 1) (nI (D p - 1)) = true
          · exact t
          · rw [if_neg t] at hcp; omega
      · refine decide_eq_true ?_
        rw [ec]
        have := h2 c hc
        unfold cpS at this
        split at this
        · exact this
        · omega
  rw [← fin]
  unfold m_X7_isWay
  refine lp2_z (fun o => o = some (zI (al B1 5 && al B2 5), u)) (fun i a v => v = u ∧ a = zI (al B1 i)) 5 ?_ ?_ (e_F_lt (by omega)) ⟨rfl, rfl⟩
  · rintro H a v ⟨rfl, rfl⟩
    simp only [d_X7_isWay_4, le5, if_true]
    refine lp2_z (fun o => o = some (zI (al B1 5 && al B2 5), v)) (fun i a t => t = v ∧ a = zI (al B1 5 && al B2 i)) 5 ?_ ?_ (e_F_lt (by omega)) ⟨rfl, by simp [al]⟩
    · rintro H2 a t ⟨rfl, rfl⟩
      simp only [d_X7_isWay_64, le5, if_true, p_rzz]
    · rintro H2 i a t hi ⟨rfl, rfl⟩ kk
      obtain ⟨h, hh, eh⟩ : ∃ h, h ≤ 1 ∧ t 105 i = nI h ∧ h = (if σ 12 i = 1 then 1 else 0) := by
        have e105 : t 105 i = σ 12 i := by rw [hr.2.1 105 (by omega) (by omega)]; exact (b5 i hi).2.2.2.2.2.2.2.2.2.2
        rcases w1.2.2.2.2.2.2.2.2.1 i hi with q | q
        · simp only [Nat.reduceAdd] at q
          exact ⟨0, by omega, by rw [e105, q]; rfl, by rw [q]; rfl⟩
        · simp only [Nat.reduceAdd] at q
          exact ⟨1, by omega, by rw [e105, q]; rfl, by rw [q]; rfl⟩
      obtain ⟨eh1, eh2⟩ := eh
      have emn : cn5 (fun j => tB (t 100 0) (nI j) && decide (t 114 j = nI i)) = cn5 (fun j => peS σ j && decide (D j = i + 1)) := cn5_cong (fun j hj => by
        rw [u0]
        show (tB (σ 1 0) (nI j) && _) = (tB (σ 1 0) (nI j) && _)
        congr 1
        exact decide_eq_decide.mpr ((oD_5 hD ho hj).2 i hi))
      have e1h : (1 : Int32) + nI h = nI (1 + h) := nI_ad 1 h
      have hl := cn5_le (fun j => peS σ j && decide (D j = i + 1))
      have lt : (nI (1 + h) < nI (cn5 (fun j => peS σ j && decide (D j = i + 1)))) ↔ 1 + h < cn5 (fun j => peS σ j && decide (D j = i + 1)) := nI_ltI (by omega) (by omega)
      simp only [d_X7_isWay_64, ge5 hi, if_false, zI_0, q_many, p_cI, p_gd (in5 hi), ix5 hi, eh1, e1h, emn, lt, b_X7_isWay_94, x_s]
      cases c1 : (al B1 5 && al B2 i)
      · have hF : (al B1 5 && al B2 5) = false := by
          cases x1 : al B1 5
          · rfl
          · rw [x1, Bool.true_and] at c1
            have mono : ∀ j, i ≤ j → al B2 j = false := by
              intro j hj
              induction j with
              | zero => have : i = 0 := by omega
                        subst this; exact c1
              | succ j ih =>
                by_cases q : i ≤ j
                · simp only [al, ih q, Bool.false_and]
                · have : i = j + 1 := by omega
                  subst this; exact c1
            rw [mono 5 (by omega), Bool.and_false]
        simp only [if_true, zI_f, p_rz0, hF]
      · simp only [Bool.true_eq_false, if_false]
        by_cases q : 1 + h < cn5 (fun j => peS σ j && decide (D j = i + 1))
        · rw [if_pos q]
          refine kk _ _ ⟨rfl, ?_⟩
          have : B2 i = false := decide_eq_false (by rw [← eh2]; omega)
          simp only [al, this, Bool.and_false, zI_f]
        · rw [if_neg q]
          refine kk _ _ ⟨rfl, ?_⟩
          have : B2 i = true := decide_eq_true (by rw [← eh2]; omega)
          rw [Bool.and_eq_true] at c1
          show (1 : Int32) = zI (al B1 5 && (al B2 i && B2 i))
          rw [c1.1, c1.2, this]; rfl
  · rintro H i a v hi ⟨rfl, rfl⟩ kk
    obtain ⟨o1, o2⟩ := oD_5 hD ho hi
    have step : ∀ b : Bool, b = al B1 (i + 1) → H (zI b) (nI (i + 1)) v = some (zI (al B1 5 && al B2 5), v) := fun b hb => kk _ _ ⟨rfl, by rw [hb]⟩
    simp only [d_X7_isWay_4, ge5 hi, if_false, zI_0, p_gd (in5 hi), ix5 hi, o1, q_has, u0, u1, p_cI, p_ifz, b_X7_isWay_54, b_X7_isWay_50, b_X7_isWay_55, x_s]
    cases c1 : al B1 i
    · simp only [if_true]
      exact step false (by simp only [al, c1, Bool.false_and])
    · simp only [Bool.true_eq_false, if_false]
      by_cases d0 : D i = 0
      · rw [if_pos d0]
        exact step true (by simp only [al, c1, B1, d0, decide_true, Bool.true_or, Bool.and_self])
      · rw [if_neg d0]
        have hd := hD i hi
        have e114 : v 114 i = nI (D i - 1) := (o2 (D i - 1) (by omega)).mpr (by omega)
        rw [e114]
        cases t1 : tB (σ 1 0) (nI i)
        · simp only [if_true]
          exact step false (by simp only [al, c1, B1, d0, decide_false, Bool.false_or, peS, t1, Bool.false_and, Bool.and_false])
        · simp only [Bool.true_eq_false, if_false]
          cases t2 : tB (σ 1 1) (nI (D i - 1))
          · simp only [if_true]
            exact step false (by simp only [al, c1, B1, d0, decide_false, Bool.false_or, peS, t1, t2, Bool.and_false])
          · simp only [Bool.true_eq_false, if_false]
            exact step true (by show true = (al B1 i && (decide (D i = 0) || (tB (σ 1 0) (nI i) && tB (σ 1 1) (nI (D i - 1))))); rw [c1, t1, t2, Bool.and_self, Bool.or_true, Bool.and_self])
theorem q_refSeat {σ u : Sg} {D : Nat → Nat} {p : Nat} (hI : Inv σ) (hD : ∀ q, q < 5 → D q < 6) (hr : rF σ u) (ho : oD D u) (hp : p < 5) : m_X7_seatOf (nI p) u = some (nI (sK σ D p), u) := by
  obtain ⟨w1, ⟨a1, a2, a3, a4, b5, a6⟩, w3, w4⟩ := id hI
  rw [q_seatS (fun i hi => by rw [ho i hi]; exact code_ok (dI_ok (hD i hi))) hp, hr.1 0 (by decide), a1, hr.2.2.1]
  congr 2
  refine congrArg nI (seatW_cong hp (fun i hi => hr.2.2.2 i hi) (fun i hi => ?_) (fun i hi => ?_))
  · rw [hr.2.1 105 (by omega) (by omega)]; exact (b5 i hi).2.2.2.2.2.2.2.2.2.2
  · rw [ho i hi]; exact mc_mc (dI_ok (hD i hi))
