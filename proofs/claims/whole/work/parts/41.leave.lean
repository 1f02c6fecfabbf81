theorem m1_ix : Int32.toNatClampNeg (-1) = 0 := by decide
def gqC (w ow : Nat → Int32) (p i q : Nat) : Bool := !decide (w q = -1) && (decide ((w q).toNatClampNeg < i) && decide (ow (w q).toNatClampNeg = nI p))
theorem gq_c {w ow : Nat → Int32} {p i q c : Nat} (hc : c < 5) (h : w q = nI c) : gqC w ow p i q = (decide (c < i) && decide (ow c = nI p)) := by
  have h1 : ¬ nI c = -1 := fun e => m1_c hc e.symm
  simp [gqC, h, h1, ix5 hc]
theorem gq_n {w ow : Nat → Int32} {p i q : Nat} (h : w q = -1) : gqC w ow p i q = false := by simp [gqC, h]
def lM (C : Int32) (ow : Nat → Int32) (p i : Nat) : Nat := mk5 (fun c => tB C (nI c) && !(decide (c < i) && decide (ow c = nI p)))
theorem lM_0 {C : Int32} {ow : Nat → Int32} {p m : Nat} (hm : m < 32) (e : C = nI m) : C = nI (lM C ow p 0) := by
  rw [e]
  refine (tB_all m hm).trans ?_
  congr 1
  exact mk5_cong (fun i hi => by simp)
theorem lM_same {C : Int32} {ow : Nat → Int32} {p i : Nat} (h : tB C (nI i) = false ∨ ¬ ow i = nI p) : lM C ow p (i + 1) = lM C ow p i := by
  refine mk5_cong (fun c hc => ?_)
  by_cases e : c = i
  · subst e
    rcases h with h | h <;> simp [h]
  · by_cases h2 : c < i
    · simp [h2, show c < i + 1 by omega]
    · simp [h2, show ¬ c < i + 1 by omega]
theorem lM_cl {C : Int32} {ow : Nat → Int32} {p i : Nat} (hi : i < 5) (h : ow i = nI p) : nI (lM C ow p i) &&& (jsl 1 (nI i) ^^^ (-1)) = nI (lM C ow p (i + 1)) := by
  have h1 := cl_all (lM C ow p i) (mk5_lt _) i hi
  rw [h1]
  congr 1
  refine mk5_cong (fun c hc => ?_)
  have := tB_mk5 (fun c => tB C (nI c) && !(decide (c < i) && decide (ow c = nI p))) hc
  show (tB (nI (lM C ow p i)) (nI c) && _) = _
  unfold lM
  rw [this]
  by_cases e : c = i
  · subst e; simp [h]
  · by_cases h2 : c < i
    · simp [e, h2, show c < i + 1 by omega]
    · simp [e, h2, show ¬ c < i + 1 by omega]
theorem lM_t {C : Int32} {ow : Nat → Int32} {p i : Nat} (hi : i < 5) : tB (nI (lM C ow p i)) (nI i) = tB C (nI i) := by
  unfold lM
  rw [tB_mk5 _ hi]
  simp
theorem q_depart {k p : Nat} {σ : Sg} (hp : p < 5) (ht : tB (σ k 0) (nI p) = true) (hm : ∃ m, m < 32 ∧ σ k 1 = nI m) (hw : ∀ q, q < 5 → σ (k + 1) q = -1 ∨ ∃ c, c < 5 ∧ σ (k + 1) q = nI c ∧ tB (σ k 1) (nI c) = true) :
    ∃ s, m_X4_depart k (nI p) σ = some s ∧ (∀ y, y ≠ k → y ≠ k + 1 → s y = σ y) ∧ s k 0 = σ k 0 &&& (jsl 1 (nI p) ^^^ (-1)) ∧ s k 1 = nI (lM (σ k 1) (σ (k + 8)) p 5) ∧ (∀ j, 2 ≤ j → s k j = σ k j) ∧ ∀ q, q < 5 → s (k + 1) q = if q = p then -1 else if gqC (σ (k + 1)) (σ (k + 8)) p 5 q then -1 else σ (k + 1) q := by
  obtain ⟨m, hm, em⟩ := hm
  unfold m_X4_depart
  simp only [q_hasPerson, hB_nI hp, ht, p_cI, p_ifz, if_true]
  refine lp1_z (fun o => ∃ s : Sg, o = some s ∧ (∀ y, y ≠ k → y ≠ k + 1 → s y = σ y) ∧ s k 0 = σ k 0 &&& (jsl 1 (nI p) ^^^ (-1)) ∧ s k 1 = nI (lM (σ k 1) (σ (k + 8)) p 5) ∧ (∀ j, 2 ≤ j → s k j = σ k j) ∧ ∀ q, q < 5 → s (k + 1) q = if q = p then -1 else if gqC (σ (k + 1)) (σ (k + 8)) p 5 q then -1 else σ (k + 1) q)
    (fun i s => (∀ y, y ≠ k → y ≠ k + 1 → s y = σ y) ∧ (∀ j, j ≠ 1 → s k j = σ k j) ∧ s k 1 = nI (lM (σ k 1) (σ (k + 8)) p i) ∧ ∀ q, q < 5 → s (k + 1) q = if gqC (σ (k + 1)) (σ (k + 8)) p i q then -1 else σ (k + 1) q) 5 ?_ ?_ (e_F_lt (by omega)) ⟨fun _ _ _ => rfl, fun _ _ => rfl, lM_0 hm em, fun q hq => by simp [gqC]⟩
  · rintro H s ⟨g1, g2, g3, g4⟩
    simp only [d_X4_depart_11, le5, if_true, p_wr (in5 hp), ix5 hp, p_lt]
    refine ⟨_, rfl, fun y h1 h2 => by simp [k_up, h1, h2, g1 y h1 h2], ?_, ?_, fun j hj => ?_, fun q hq => ?_⟩
    · simp [k_up, upd, g2 0 (by decide)]
    · simp [k_up, upd, g3]
    · simp [k_up, upd, show j ≠ 0 by omega, g2 j (by omega)]
    · by_cases e : q = p
      · subst e; simp [k_up, upd]
      · simp [k_up, upd, e, g4 q hq]
  · rintro H i s hi ⟨g1, g2, g3, g4⟩ kk
    have e8 : s (k + 8) = σ (k + 8) := g1 (k + 8) (by omega) (by omega)
    simp only [d_X4_depart_11, ge5 hi, if_false, q_hasCoat, hB_nI hi, p_cI, p_ifz, p_gd (in5 hi), ix5 hi, x_s, g3, lM_t hi, e8]
    cases tc : tB (σ k 1) (nI i)
    · simp only [Bool.false_eq_true, if_false]
      refine kk _ ⟨g1, g2, by rw [lM_same (Or.inl tc)]; exact g3, fun q hq => ?_⟩
      rw [g4 q hq]
      rcases hw q hq with h | ⟨c, h1, h2, h3⟩
      · rw [gq_n h, gq_n h]
      · rw [gq_c h1 h2, gq_c h1 h2]
        have : c ≠ i := fun e => by subst e; rw [tc] at h3; cases h3
        by_cases h4 : c < i
        · simp [h4, show c < i + 1 by omega]
        · simp [h4, show ¬ c < i + 1 by omega]
    · simp only [if_true]
      by_cases eo : σ (k + 8) i = nI p
      · simp only [eo, if_true]
        obtain ⟨u, u0, u1, u2⟩ := q_undress (k := k) (x := nI i) (σ := s)
        simp only [u0, p_cV, p_lt]
        refine kk _ ⟨fun y h1 h2 => by simp [k_up, h1, u1 y h2, g1 y h1 h2], fun j hj => by simp [k_up, upd, hj, u1 k (by omega), g2 j hj], ?_, fun q hq => ?_⟩
        · simp only [k_up, upd, if_true, u1 k (by omega), g3]
          exact lM_cl hi eo
        · have : k_up u k 1 (u k 1 &&& (jsl 1 (nI i) ^^^ -1)) (k + 1) q = u (k + 1) q := by simp [k_up]
          rw [this, u2 q hq, g4 q hq]
          rcases hw q hq with h | ⟨c, h1, h2, h3⟩
          · simp [gq_n h, h, m1_c hi]
          · rw [gq_c h1 h2, gq_c h1 h2, h2]
            by_cases e : c = i
            · subst e; simp [eo]
            · have hne : ¬ nI c = nI i := fun q => e ((nI_inj5 h1 hi).mp q)
              by_cases h4 : c < i
              · by_cases h5 : σ (k + 8) c = nI p <;> simp [h4, h5, hne, show c < i + 1 by omega, m1_c hi]
              · simp [h4, hne, show ¬ c < i + 1 by omega]
      · simp only [eo, if_false]
        refine kk _ ⟨g1, g2, by rw [lM_same (Or.inr eo)]; exact g3, fun q hq => ?_⟩
        rw [g4 q hq]
        rcases hw q hq with h | ⟨c, h1, h2, h3⟩
        · rw [gq_n h, gq_n h]
        · rw [gq_c h1 h2, gq_c h1 h2]
          by_cases e : c = i
          · subst e; simp [eo]
          · by_cases h4 : c < i
            · simp [h4, show c < i + 1 by omega]
            · simp [h4, show ¬ c < i + 1 by omega]
def gqM (o ow : Nat → Int32) (p i q : Nat) : Bool := decide ((o q).toNatClampNeg < i) && decide (ow (o q).toNatClampNeg = nI p)
theorem gqM_c {o ow : Nat → Int32} {p i q c : Nat} (hc : c ≤ 5) (h : o q = nI c) : gqM o ow p i q = (decide (c < i) && decide (ow c = nI p)) := by
  simp [gqM, h, x_ix (show c < 2 ^ 31 by omega)]
theorem q_leaveM {p : Nat} {σ : Sg} (hp : p < 5) (ht : tB (σ 100 0) (nI p) = true) (hm : ∃ m, m < 32 ∧ σ 100 1 = nI m) (hw : ∀ q, q < 5 → ∃ c, c ≤ 5 ∧ σ 106 q = nI c ∧ (c < 5 → tB (σ 100 1) (nI c) = true)) :
    ∃ s, m_X7_leave (nI p) σ = some (btI (σ 100 0 &&& (jsl 1 (nI p) ^^^ (-1))), s) ∧ (∀ y, y ≠ 100 → y ≠ 106 → s y = σ y) ∧ s 100 0 = σ 100 0 &&& (jsl 1 (nI p) ^^^ (-1)) ∧ s 100 1 = nI (lM (σ 100 1) (σ 102) p 5) ∧ (∀ j, 2 ≤ j → s 100 j = σ 100 j) ∧ ∀ q, q < 5 → s 106 q = if q = p then 5 else if gqM (σ 106) (σ 102) p 5 q then 5 else σ 106 q := by
  obtain ⟨m, hm, em⟩ := hm
  unfold m_X7_leave
  simp only [q_isThere, hB_nI hp, ht, p_cI, p_ifz, if_true]
  refine lp1_z (fun o => ∃ s : Sg, o = some (btI (σ 100 0 &&& (jsl 1 (nI p) ^^^ (-1))), s) ∧ (∀ y, y ≠ 100 → y ≠ 106 → s y = σ y) ∧ s 100 0 = σ 100 0 &&& (jsl 1 (nI p) ^^^ (-1)) ∧ s 100 1 = nI (lM (σ 100 1) (σ 102) p 5) ∧ (∀ j, 2 ≤ j → s 100 j = σ 100 j) ∧ ∀ q, q < 5 → s 106 q = if q = p then 5 else if gqM (σ 106) (σ 102) p 5 q then 5 else σ 106 q)
    (fun i s => (∀ y, y ≠ 100 → y ≠ 106 → s y = σ y) ∧ (∀ j, j ≠ 1 → s 100 j = σ 100 j) ∧ s 100 1 = nI (lM (σ 100 1) (σ 102) p i) ∧ ∀ q, q < 5 → s 106 q = if gqM (σ 106) (σ 102) p i q then 5 else σ 106 q) 5 ?_ ?_ (e_F_lt (by omega)) ⟨fun _ _ _ => rfl, fun _ _ => rfl, lM_0 hm em, fun q hq => by simp [gqM]⟩
  · rintro H s ⟨g1, g2, g3, g4⟩
    simp only [d_X7_leave_12, le5, if_true, p_wr (in5 hp), ix5 hp, p_lt, q_bits, p_cI]
    refine ⟨_, by congr 2; simp [k_up, upd, g2 0 (by decide)], fun y h1 h2 => by simp [k_up, h1, h2, g1 y h1 h2], ?_, ?_, fun j hj => ?_, fun q hq => ?_⟩
    · simp [k_up, upd, g2 0 (by decide)]
    · simp [k_up, upd, g3]
    · simp [k_up, upd, show j ≠ 0 by omega, g2 j (by omega)]
    · by_cases e : q = p
      · subst e; simp [k_up, upd]
      · simp [k_up, upd, e, g4 q hq]
  · rintro H i s hi ⟨g1, g2, g3, g4⟩ kk
    have e8 : s 102 = σ 102 := g1 102 (by omega) (by omega)
    simp only [d_X7_leave_12, ge5 hi, if_false, q_has, p_cI, p_ifz, p_gd (in5 hi), ix5 hi, x_s, g3, lM_t hi, e8]
    cases tc : tB (σ 100 1) (nI i)
    · simp only [Bool.false_eq_true, if_false]
      refine kk _ ⟨g1, g2, by rw [lM_same (Or.inl tc)]; exact g3, fun q hq => ?_⟩
      rw [g4 q hq]
      obtain ⟨c, h1, h2, h3⟩ := hw q hq
      rw [gqM_c h1 h2, gqM_c h1 h2]
      have : c ≠ i := fun e => by subst e; rw [h3 hi] at tc; cases tc
      by_cases h4 : c < i
      · simp [h4, show c < i + 1 by omega]
      · simp [h4, show ¬ c < i + 1 by omega]
    · simp only [if_true]
      by_cases eo : σ 102 i = nI p
      · simp only [eo, if_true]
        obtain ⟨u, u0, u1, u2⟩ := q_undressM (x := nI i) (σ := s)
        simp only [u0, p_cV, p_lt]
        refine kk _ ⟨fun y h1 h2 => by simp [k_up, h1, u1 y h2, g1 y h1 h2], fun j hj => by simp [k_up, upd, hj, u1 100 (by omega), g2 j hj], ?_, fun q hq => ?_⟩
        · simp only [k_up, upd, if_true, u1 100 (by omega), g3]
          exact lM_cl hi eo
        · have : k_up u 100 1 (u 100 1 &&& (jsl 1 (nI i) ^^^ -1)) 106 q = u 106 q := by simp [k_up]
          rw [this, u2 q hq, g4 q hq]
          obtain ⟨c, h1, h2, h3⟩ := hw q hq
          rw [gqM_c h1 h2, gqM_c h1 h2, h2]
          have h5i : ¬ (5 : Int32) = nI i := fun q => by have := (nI_eq (a := 5) (b := i) (by decide) (by omega)).mp q; omega
          by_cases e : c = i
          · subst e; simp [eo]
          · have hne : ¬ nI c = nI i := fun q => e ((nI_eq (by omega) (by omega)).mp q)
            by_cases h4 : c < i
            · by_cases h5 : σ 102 c = nI p <;> simp [h4, h5, hne, show c < i + 1 by omega, h5i]
            · simp [h4, hne, show ¬ c < i + 1 by omega]
      · simp only [eo, if_false]
        refine kk _ ⟨g1, g2, by rw [lM_same (Or.inr eo)]; exact g3, fun q hq => ?_⟩
        rw [g4 q hq]
        obtain ⟨c, h1, h2, h3⟩ := hw q hq
        rw [gqM_c h1 h2, gqM_c h1 h2]
        by_cases e : c = i
        · subst e; simp [eo]
        · by_cases h4 : c < i
          · simp [h4, show c < i + 1 by omega]
          · simp [h4, show ¬ c < i + 1 by omega]
theorem mc_n : mc (-1) = 5 := by decide
theorem op_leave (x : Int32) : SimI (m_X6_leave x) (m_X7_leave x) := by
  intro σ hI
  obtain ⟨w1, w2, w3, w4⟩ := id hI
  obtain ⟨a1, a2, a3, a4, a5, a6⟩ := id w2
  obtain ⟨⟨m, hm, em⟩, ⟨mC, hmC, emC⟩, v3, v4, v5, v6, v7, v8, v9, v10, v11⟩ := id w1
  unfold m_X6_leave
  simp only [q_hasPerson, p_cI, p_ifz]
  cases hx : hB (σ 1 0) x
  · exact ⟨_, _, σ, rfl, by unfold m_X7_leave; simp [q_isThere, p_cI, p_ifz, a1, hx], hI⟩
  · obtain ⟨p, hp, rfl⟩ := hB_ix hx
    have ht : tB (σ 1 0) (nI p) = true := by rw [← hB_nI hp]; exact hx
    simp only [if_true]
    obtain ⟨s, g0, g1, g2, g3, g4, g5⟩ := q_depart (k := 1) (σ := σ) hp ht ⟨mC, hmC, emC⟩ (fun q hq => by
      rcases v4 q hq with h | ⟨c, h1, h2, h3, h4⟩
      · exact Or.inl h
      · exact Or.inr ⟨c, h1, h2, h3⟩)
    have e100 : s 100 = σ 100 := g1 100 (by decide) (by decide)
    have e102 : s 102 = σ 102 := g1 102 (by decide) (by decide)
    have e106 : s 106 = σ 106 := g1 106 (by decide) (by decide)
    have hom : ∀ q, q < 5 → ∃ c, c ≤ 5 ∧ σ 106 q = nI c ∧ (c < 5 → tB (σ 1 1) (nI c) = true) := fun q hq => by
      rw [(a5 q hq).1]
      rcases v4 q hq with h | ⟨c, h1, h2, h3, h4⟩
      · have h' : σ 2 q = -1 := h
        exact ⟨5, by omega, by rw [h']; rfl, fun h => by omega⟩
      · have h' : σ 2 q = nI c := h2
        exact ⟨c, by omega, by rw [h']; exact (mc_c h1).mpr rfl, fun _ => h3⟩
    obtain ⟨t, t0, t1, t2, t3, t4, t5⟩ := q_leaveM (σ := s) hp (by rw [e100, a1]; exact ht) (by rw [e100, a2]; exact ⟨mC, hmC, emC⟩) (by rw [e100, e106, a2]; exact hom)
    obtain ⟨m', hm', em'⟩ := cl_mask hm hp
    refine ⟨bcI (s 1 0), s, t, by rw [g0]; simp only [p_cV, q_bitCount, p_cI], ?_, ?_⟩
    · rw [t0, e100, a1, g2, em, em', bc_bt hm']
    · have u0 : t 1 0 = σ 1 0 &&& (jsl 1 (nI p) ^^^ (-1)) := by rw [t1 1 (by decide) (by decide)]; exact g2
      have u1 : t 1 1 = nI (lM (σ 1 1) (σ 9) p 5) := by rw [t1 1 (by decide) (by decide)]; exact g3
      have uj : ∀ j, 2 ≤ j → t 1 j = σ 1 j := fun j hj => by rw [t1 1 (by decide) (by decide)]; exact g4 j hj
      have uw : ∀ q, q < 5 → t 2 q = if q = p then -1 else if gqC (σ 2) (σ 9) p 5 q then -1 else σ 2 q := fun q hq => by rw [t1 2 (by decide) (by decide)]; exact g5 q hq
      have ro : ∀ y, y ≠ 1 → y ≠ 2 → y ≠ 100 → y ≠ 106 → t y = σ y := fun y h1 h2 h3 h4 => by rw [t1 y h3 h4]; exact g1 y h1 h2
      have tcl : ∀ j, j < 5 → tB (σ 1 0 &&& (jsl 1 (nI p) ^^^ (-1))) (nI j) = (tB (σ 1 0) (nI j) && !decide (j = p)) := fun j hj => by rw [em]; exact tB_cl hm hp hj
      have tlm : ∀ c, c < 5 → tB (nI (lM (σ 1 1) (σ 9) p 5)) (nI c) = (tB (σ 1 1) (nI c) && !decide (σ 9 c = nI p)) := fun c hc => by
        unfold lM
        rw [tB_mk5 _ hc]; simp [hc]
      have gq5 : ∀ q, q < 5 → gqC (σ 2) (σ 9) p 5 q = gqM (σ 106) (σ 102) p 5 q := fun q hq => by
        rcases v4 q hq with h | ⟨c, h1, h2, h3, h4⟩
        · have h' : σ 2 q = -1 := h
          have h5 : σ 106 q = nI 5 := by rw [(a5 q hq).1, h']; rfl
          rw [gq_n h', gqM_c (Nat.le_refl 5) h5]; simp
        · have h' : σ 2 q = nI c := h2
          have h5 : σ 106 q = nI c := by rw [(a5 q hq).1, h']; exact (mc_c h1).mpr rfl
          rw [gq_c h1 h', gqM_c (by omega) h5, (a5 c h1).2.2.2.2.2.2.2.1]
      refine ⟨?_, ?_, w3.ext (ro 58 (by decide) (by decide) (by decide) (by decide)) (ro 59 (by decide) (by decide) (by decide) (by decide)) (ro 113 (by decide) (by decide) (by decide) (by decide)) (by rw [t4 16 (by decide), e100]), w4.ext (ro 121 (by decide) (by decide) (by decide) (by decide)) (ro 122 (by decide) (by decide) (by decide) (by decide)) (fun y c1 c2 => ro y (by omega) (by omega) (by omega) (by omega))⟩
      · unfold Wf
        simp only [Nat.reduceAdd]
        rw [u0, u1, uj 3 (by decide), ro 8 (by decide) (by decide) (by decide) (by decide), ro 9 (by decide) (by decide) (by decide) (by decide), ro 10 (by decide) (by decide) (by decide) (by decide), ro 11 (by decide) (by decide) (by decide) (by decide), ro 12 (by decide) (by decide) (by decide) (by decide), ro 14 (by decide) (by decide) (by decide) (by decide)]
        refine ⟨⟨m', hm', by rw [em, em']⟩, ⟨_, mk5_lt _, rfl⟩, v3, fun q hq => ?_, fun c hc => ?_, v6, v7, v8, v9, fun c hc => ?_, v11⟩
        · rw [uw q hq]
          by_cases e : q = p
          · simp [e]
          · simp only [e, if_false]
            rcases v4 q hq with h | ⟨c, h1, h2, h3, h4⟩
            · have h' : σ 2 q = -1 := h
              simp [h']
            · have h' : σ 2 q = nI c := h2
              rw [gq_c h1 h']
              by_cases e2 : σ 9 c = nI p
              · simp [e2, h1]
              · simp only [e2, decide_false, Bool.and_false, Bool.false_eq_true, if_false]
                exact Or.inr ⟨c, h1, h', by rw [tlm c h1, h3]; simp [e2], by rw [tcl q hq, h4]; simp [e]⟩
        · obtain ⟨o, h1, h2, h3⟩ := v5 c hc
          have h2' : σ 9 c = nI o := h2
          refine ⟨o, h1, h2, fun h => ?_⟩
          rw [tlm c hc] at h
          simp only [Bool.and_eq_true, Bool.not_eq_true', decide_eq_false_iff_not] at h
          rw [tcl o h1, h3 h.1]
          have : o ≠ p := fun e => h.2 (by rw [h2', e])
          simp [this]
        · have hle : cn5 (fun i => decide (t 2 i = nI c)) ≤ cn5 (fun i => decide (σ 2 i = nI c)) := by
            have key : ∀ i, i < 5 → bN (decide (t 2 i = nI c)) ≤ bN (decide (σ 2 i = nI c)) := fun i hi => by
              rw [uw i hi]
              by_cases e : i = p
              · simp [e, m1_c hc, bN]
              · by_cases e2 : gqC (σ 2) (σ 9) p 5 i = true
                · simp [e, e2, m1_c hc, bN]
                · simp [e, e2]
            have k0 := key 0 (by decide); have k1 := key 1 (by decide); have k2 := key 2 (by decide); have k3 := key 3 (by decide); have k4 := key 4 (by decide)
            simp only [cn5]
            omega
          exact Nat.le_trans hle (v10 c hc)
      · refine ⟨by rw [t2, e100, a1, u0], by rw [t3, e100, e102, a2, u1]; congr 1; unfold lM; exact mk5_cong (fun c hc => by rw [(a5 c hc).2.2.2.2.2.2.2.1]), by rw [t4 7 (by decide), e100, uj 2 (by decide)]; exact a3, by rw [t4 14 (by decide), e100, uj 3 (by decide)]; exact a4, fun r hr => ?_, fun r hr => by rw [ro 112 (by decide) (by decide) (by decide) (by decide), ro 13 (by decide) (by decide) (by decide) (by decide), ro 14 (by decide) (by decide) (by decide) (by decide)]; exact a6 r hr⟩
        obtain ⟨b1, b2, b3, b4, b5, b6, b7, b8, b9, b10, b11⟩ := a5 r hr
        rw [t5 r hr, e106, e102, uw r hr, gq5 r hr]
        simp only [ro 107 (by decide) (by decide) (by decide) (by decide), ro 108 (by decide) (by decide) (by decide) (by decide), ro 109 (by decide) (by decide) (by decide) (by decide), ro 110 (by decide) (by decide) (by decide) (by decide), ro 111 (by decide) (by decide) (by decide) (by decide), ro 101 (by decide) (by decide) (by decide) (by decide), ro 102 (by decide) (by decide) (by decide) (by decide), ro 103 (by decide) (by decide) (by decide) (by decide), ro 104 (by decide) (by decide) (by decide) (by decide), ro 105 (by decide) (by decide) (by decide) (by decide), ro 3 (by decide) (by decide) (by decide) (by decide), ro 4 (by decide) (by decide) (by decide) (by decide), ro 5 (by decide) (by decide) (by decide) (by decide), ro 6 (by decide) (by decide) (by decide) (by decide), ro 7 (by decide) (by decide) (by decide) (by decide), ro 8 (by decide) (by decide) (by decide) (by decide), ro 9 (by decide) (by decide) (by decide) (by decide), ro 10 (by decide) (by decide) (by decide) (by decide), ro 11 (by decide) (by decide) (by decide) (by decide), ro 12 (by decide) (by decide) (by decide) (by decide)]
        refine ⟨?_, b2, b3, b4, b5, b6, b7, b8, b9, b10, b11⟩
        by_cases e : r = p
        · simp [e, mc_n]
        · by_cases e2 : gqM (σ 106) (σ 102) p 5 r = true
          · simp [e, e2, mc_n]
          · simp [e, e2, b1]
