theorem mc_c {w : Int32} {c : Nat} (hc : c < 5) : mc w = nI c ↔ w = nI c := by
  unfold mc
  by_cases h : w = -1
  · subst h
    have h5 : ¬ (5 : Int32) = nI c := fun h => by
      have := (nI_eq (a := 5) (b := c) (by decide) (by omega)).mp h
      omega
    have h1 : ¬ (-1 : Int32) = nI c := by
      have : c = 0 ∨ c = 1 ∨ c = 2 ∨ c = 3 ∨ c = 4 := by omega
      rcases this with rfl | rfl | rfl | rfl | rfl <;> decide
    simp [h5, h1]
  · simp [h]
theorem m1_c {c : Nat} (hc : c < 5) : ¬ (-1 : Int32) = nI c := by
  have : c = 0 ∨ c = 1 ∨ c = 2 ∨ c = 3 ∨ c = 4 := by omega
  rcases this with rfl | rfl | rfl | rfl | rfl <;> decide
theorem nI_inj5 {a b : Nat} (ha : a < 5) (hb : b < 5) : nI a = nI b ↔ a = b := nI_eq (by omega) (by omega)
theorem q_undress {k : Nat} {x : Int32} {σ : Sg} : ∃ s, m_X4_undress k x σ = some s ∧ (∀ c, c ≠ k + 1 → s c = σ c) ∧ ∀ p, p < 5 → s (k + 1) p = if σ (k + 1) p = x then -1 else σ (k + 1) p := by
  unfold m_X4_undress
  refine lp1_wp (fun o => ∃ s : Sg, o = some s ∧ (∀ c, c ≠ k + 1 → s c = σ c) ∧ ∀ p, p < 5 → s (k + 1) p = if σ (k + 1) p = x then -1 else σ (k + 1) p) (fun i s => (∀ c, c ≠ k + 1 → s c = σ c) ∧ (∀ p, p < i → s (k + 1) p = if σ (k + 1) p = x then -1 else σ (k + 1) p) ∧ ∀ p, i ≤ p → s (k + 1) p = σ (k + 1) p) 5 ?_ ?_ e_F 0 σ (by omega) (e_F_lt (by omega)) ⟨fun _ _ => rfl, fun p hp => by omega, fun p _ => rfl⟩
  · rintro H s ⟨g1, g2, g3⟩
    simp only [d_X4_undress_2, le5, if_true]
    exact ⟨s, rfl, g1, g2⟩
  · rintro H i s hi ⟨g1, g2, g3⟩ kk
    simp only [d_X4_undress_2, ge5 hi, if_false, p_gd (in5 hi), ix5 hi, p_wr (in5 hi), x_s, g3 i (Nat.le_refl _)]
    by_cases e : σ (k + 1) i = x
    · simp only [e, if_true]
      refine kk _ ⟨fun c hc => by simp [k_up, hc, g1 c hc], fun p hp => ?_, fun p hp => ?_⟩
      · by_cases ep : p = i
        · subst ep; simp [k_up, upd, e]
        · simp [k_up, upd, ep]; exact g2 p (by omega)
      · simp [k_up, upd, show p ≠ i by omega]; exact g3 p (by omega)
    · simp only [e, if_false]
      refine kk _ ⟨g1, fun p hp => ?_, fun p hp => g3 p (by omega)⟩
      by_cases ep : p = i
      · subst ep; simp [e, g3 p (Nat.le_refl _)]
      · exact g2 p (by omega)
theorem q_undressM {x : Int32} {σ : Sg} : ∃ s, m_X7_undress x σ = some s ∧ (∀ c, c ≠ 106 → s c = σ c) ∧ ∀ p, p < 5 → s 106 p = if σ 106 p = x then 5 else σ 106 p := by
  unfold m_X7_undress
  refine lp1_wp (fun o => ∃ s : Sg, o = some s ∧ (∀ c, c ≠ 106 → s c = σ c) ∧ ∀ p, p < 5 → s 106 p = if σ 106 p = x then 5 else σ 106 p) (fun i s => (∀ c, c ≠ 106 → s c = σ c) ∧ (∀ p, p < i → s 106 p = if σ 106 p = x then 5 else σ 106 p) ∧ ∀ p, i ≤ p → s 106 p = σ 106 p) 5 ?_ ?_ e_F 0 σ (by omega) (e_F_lt (by omega)) ⟨fun _ _ => rfl, fun p hp => by omega, fun p _ => rfl⟩
  · rintro H s ⟨g1, g2, g3⟩
    simp only [d_X7_undress_2, le5, if_true]
    exact ⟨s, rfl, g1, g2⟩
  · rintro H i s hi ⟨g1, g2, g3⟩ kk
    simp only [d_X7_undress_2, ge5 hi, if_false, p_gd (in5 hi), ix5 hi, b_X7_undress_32, p_gd (arr_of ka_106).1, (arr_of ka_106).2, p_wr (in5 hi), x_s, g3 i (Nat.le_refl _)]
    by_cases e : σ 106 i = x
    · simp only [e, if_true]
      refine kk _ ⟨fun c hc => by simp [k_up, hc, g1 c hc], fun p hp => ?_, fun p hp => ?_⟩
      · by_cases ep : p = i
        · subst ep; simp [k_up, upd, e]
        · simp [k_up, upd, ep]; exact g2 p (by omega)
      · simp [k_up, upd, show p ≠ i by omega]; exact g3 p (by omega)
    · simp only [e, if_false]
      refine kk _ ⟨fun c hc => by simp [k_up, hc, g1 c hc], fun p hp => ?_, fun p hp => ?_⟩
      · by_cases ep : p = i
        · subst ep; simp [k_up, upd, e]
        · simp [k_up, upd, ep]; exact g2 p (by omega)
      · simp [k_up, upd, show p ≠ i by omega]; exact g3 p (by omega)
/-- the number of bits, told both ways -/
theorem bc_bt {m : Nat} (h : m < 32) : bcI (nI m) = btI (nI m) := bc_all m (by omega)
theorem tB_or {m p j : Nat} (hm : m < 32) (hp : p < 5) (hj : j < 5) : tB (nI m ||| jsl 1 (nI p)) (nI j) = (tB (nI m) (nI j) || decide (j = p)) := by
  rw [or_all m hm p hp, tB_mk5 _ hj]
theorem tB_cl {m p j : Nat} (hm : m < 32) (hp : p < 5) (hj : j < 5) : tB (nI m &&& (jsl 1 (nI p) ^^^ (-1))) (nI j) = (tB (nI m) (nI j) && !decide (j = p)) := by
  rw [cl_all m hm p hp, tB_mk5 _ hj]
theorem or_mask {m p : Nat} (hm : m < 32) (hp : p < 5) : ∃ m', m' < 32 ∧ nI m ||| jsl 1 (nI p) = nI m' := ⟨_, mk5_lt _, or_all m hm p hp⟩
theorem cl_mask {m p : Nat} (hm : m < 32) (hp : p < 5) : ∃ m', m' < 32 ∧ nI m &&& (jsl 1 (nI p) ^^^ (-1)) = nI m' := ⟨_, mk5_lt _, cl_all m hm p hp⟩
theorem q_welcome {k p : Nat} {σ : Sg} (hp : p < 5) : ∃ s, m_X4_welcome k (nI p) σ = some s ∧ s k = upd (σ k) 0 (σ k 0 ||| jsl 1 (nI p)) ∧ s (k + 1) = upd (σ (k + 1)) p (-1) ∧ (∀ j, 2 ≤ j → j ≤ 6 → s (k + j) = upd (σ (k + j)) p 0) ∧ ∀ c, c < k ∨ k + 6 < c → s c = σ c := by
  unfold m_X4_welcome
  simp only [q_within, p_cI, p_ifz, inB_nI hp, if_true, p_lt, p_wr (in5 hp), ix5 hp]
  refine ⟨_, rfl, by simp [k_up], by simp [k_up], fun j h1 h2 => ?_, fun c hc => ?_⟩
  · have : j = 2 ∨ j = 3 ∨ j = 4 ∨ j = 5 ∨ j = 6 := by omega
    rcases this with rfl | rfl | rfl | rfl | rfl <;> simp [k_up]
  · simp [k_up, show c ≠ k by omega, show c ≠ k + 1 by omega, show c ≠ k + 2 by omega, show c ≠ k + 3 by omega, show c ≠ k + 4 by omega, show c ≠ k + 5 by omega, show c ≠ k + 6 by omega]
theorem q_personM {p : Nat} {σ : Sg} (hp : p < 5) (ht : tB (σ 100 0) (nI p) = false) : ∃ s, m_X7_person (nI p) σ = some (btI (σ 100 0 ||| jsl 1 (nI p)), s) ∧ s 100 = upd (σ 100) 0 (σ 100 0 ||| jsl 1 (nI p)) ∧ s 106 = upd (σ 106) p 5 ∧ (∀ j, 107 ≤ j → j ≤ 111 → s j = upd (σ j) p 0) ∧ ∀ c, c < 100 ∨ (101 ≤ c ∧ c ≤ 105) ∨ 112 ≤ c → s c = σ c := by
  unfold m_X7_person
  simp only [q_in, q_isThere, p_cI, p_ifz, inB_nI hp, hB_nI hp, ht, if_true, p_lt, p_wr (in5 hp), ix5 hp, Bool.false_eq_true, if_false, q_bits]
  refine ⟨_, rfl, by simp [k_up], by simp [k_up], fun j h1 h2 => ?_, fun c hc => ?_⟩
  · have : j = 107 ∨ j = 108 ∨ j = 109 ∨ j = 110 ∨ j = 111 := by omega
    rcases this with rfl | rfl | rfl | rfl | rfl <;> simp [k_up]
  · simp [k_up, show c ≠ 100 by omega, show c ≠ 106 by omega, show c ≠ 107 by omega, show c ≠ 108 by omega, show c ≠ 109 by omega, show c ≠ 110 by omega, show c ≠ 111 by omega]
theorem upd_s {f : Nat → Int32} {i : Nat} {v : Int32} : upd f i v i = v := by simp [upd]
theorem upd_n {f : Nat → Int32} {i j : Nat} {v : Int32} (h : j ≠ i) : upd f i v j = f j := by simp [upd, h]
theorem upd_id {f : Nat → Int32} {i : Nat} {v : Int32} (h : f i = v) : upd f i v = f := by
  funext j
  by_cases e : j = i
  · subst e; simp [upd, h]
  · simp [upd, e]
theorem op_person (x : Int32) : SimI (m_X6_person x) (m_X7_person x) := by
  intro σ hI
  obtain ⟨w1, w2, w3, w4⟩ := id hI
  obtain ⟨a1, a2, a3, a4, a5, a6⟩ := id w2
  obtain ⟨⟨m, hm, em⟩, v2, v3, v4, v5, v6, v7, v8, v9, v10, v11⟩ := id w1
  unfold m_X6_person
  simp only [q_within, q_hasPerson, p_cI, p_ifz]
  cases hx : inB x 0 4
  · exact ⟨_, _, σ, rfl, by unfold m_X7_person; simp [q_in, p_cI, p_ifz, hx], hI⟩
  · obtain ⟨p, hp4, rfl⟩ := inB_ix (n := 4) (by decide) hx
    have hp : p < 5 := by omega
    simp only [if_true, hB_nI hp]
    cases ht : tB (σ 1 0) (nI p)
    · simp only [Bool.false_eq_true, if_false]
      obtain ⟨s, g0, g1, g2, g3, g4⟩ := q_welcome (k := 1) (σ := σ) hp
      have e100 : s 100 = σ 100 := g4 100 (by omega)
      obtain ⟨t, t0, t1, t2, t3, t4⟩ := q_personM (σ := s) hp (by rw [e100, a1]; exact ht)
      obtain ⟨m', hm', em'⟩ := or_mask hm hp
      refine ⟨bcI (s 1 0), s, t, by rw [g0]; simp only [p_cV, q_bitCount, p_cI], ?_, ?_⟩
      · rw [t0, e100, a1, g1, upd_s, em, em', bc_bt hm']
      · have r1 : t 1 = upd (σ 1) 0 (σ 1 0 ||| jsl 1 (nI p)) := by rw [t4 1 (by omega), g1]
        have wp : σ 2 p = -1 := by
          rcases v4 p hp with h | ⟨c, -, -, -, h⟩
          · exact h
          · rw [ht] at h; cases h
        have r2 : t 2 = σ 2 := by rw [t4 2 (by omega)]; exact g2.trans (upd_id wp)
        have rj : ∀ j, 2 ≤ j → j ≤ 6 → t (1 + j) = upd (σ (1 + j)) p 0 := fun j h1 h2 => by rw [t4 (1 + j) (by omega)]; exact g3 j h1 h2
        have ro : ∀ c, 7 < c → c < 100 → t c = σ c := fun c h1 h2 => by rw [t4 c (by omega)]; exact g4 c (by omega)
        have rh : ∀ c, (101 ≤ c ∧ c ≤ 105) ∨ 112 ≤ c → t c = σ c := fun c h => by rw [t4 c (by omega)]; exact g4 c (by omega)
        have s100 : t 100 = upd (σ 100) 0 (σ 1 0 ||| jsl 1 (nI p)) := by rw [t1, e100, a1]
        have s106 : t 106 = upd (σ 106) p 5 := by rw [t2, g4 106 (by omega)]
        have sj : ∀ j, 107 ≤ j → j ≤ 111 → t j = upd (σ j) p 0 := fun j h1 h2 => by rw [t3 j h1 h2, g4 j (by omega)]
        have tor : ∀ j, j < 5 → tB (σ 1 0 ||| jsl 1 (nI p)) (nI j) = (tB (σ 1 0) (nI j) || decide (j = p)) := fun j hj => by rw [em]; exact tB_or hm hp hj
        have u0 : t 1 0 = σ 1 0 ||| jsl 1 (nI p) := by rw [r1]; exact upd_s
        have u1 : t 1 1 = σ 1 1 := by rw [r1]; exact upd_n (by decide)
        have u2 : t 1 2 = σ 1 2 := by rw [r1]; exact upd_n (by decide)
        have u3 : t 1 3 = σ 1 3 := by rw [r1]; exact upd_n (by decide)
        refine ⟨?_, ?_, w3.ext (ro 58 (by omega) (by omega)) (ro 59 (by omega) (by omega)) (rh 113 (by omega)) (by rw [s100]; exact upd_n (by decide)), w4.ext (rh 121 (by omega)) (rh 122 (by omega)) (fun c c1 c2 => ro c (by omega) (by omega))⟩
        · unfold Wf
          simp only [Nat.reduceAdd]
          rw [u0, u1, u3, r2, ro 8 (by omega) (by omega), ro 9 (by omega) (by omega), ro 10 (by omega) (by omega), ro 11 (by omega) (by omega), ro 12 (by omega) (by omega), ro 14 (by omega) (by omega)]
          refine ⟨⟨m', hm', by rw [em, em']⟩, v2, v3, fun q hq => ?_, fun c hc => ?_, v6, v7, v8, v9, v10, v11⟩
          · rcases v4 q hq with h | ⟨c, h1, h2, h3, h4⟩
            · exact Or.inl h
            · exact Or.inr ⟨c, h1, h2, h3, by rw [tor q hq, h4]; rfl⟩
          · obtain ⟨o, h1, h2, h3⟩ := v5 c hc
            exact ⟨o, h1, h2, fun h => by rw [tor o h1, h3 h]; rfl⟩
        · refine ⟨by rw [s100, u0]; exact upd_s, by rw [s100, u1, upd_n (by decide)]; exact a2, by rw [s100, u2, upd_n (by decide)]; exact a3, by rw [s100, u3, upd_n (by decide)]; exact a4, fun r hr => ?_, fun r hr => by rw [rh 112 (by omega), ro 13 (by omega) (by omega), ro 14 (by omega) (by omega)]; exact a6 r hr⟩
          obtain ⟨b1, b2, b3, b4, b5, b6, b7, b8, b9, b10, b11⟩ := a5 r hr
          have c3 := rj 2 (by omega) (by omega); have c4 := rj 3 (by omega) (by omega); have c5 := rj 4 (by omega) (by omega); have c6 := rj 5 (by omega) (by omega); have c7 := rj 6 (by omega) (by omega)
          simp only [Nat.reduceAdd] at c3 c4 c5 c6 c7
          rw [s106, r2, sj 107 (by omega) (by omega), sj 108 (by omega) (by omega), sj 109 (by omega) (by omega), sj 110 (by omega) (by omega), sj 111 (by omega) (by omega), c3, c4, c5, c6, c7, rh 101 (by omega), rh 102 (by omega), rh 103 (by omega), rh 104 (by omega), rh 105 (by omega), ro 8 (by omega) (by omega), ro 9 (by omega) (by omega), ro 10 (by omega) (by omega), ro 11 (by omega) (by omega), ro 12 (by omega) (by omega)]
          by_cases e : r = p
          · subst e
            have m5 : mc (-1) = 5 := by decide
            simp only [upd_s, wp, m5, b7, b8, b9, b10, b11, and_self]
          · simp only [upd_n e, b1, b2, b3, b4, b5, b6, b7, b8, b9, b10, b11, and_self]
    · exact ⟨_, _, σ, rfl, by unfold m_X7_person; simp [q_in, q_isThere, p_cI, p_ifz, hx, hB_nI hp, a1, ht], hI⟩
