theorem seatN_cong {P : Int32} {v v' : Nat → Int32} {r : Nat} (h : ∀ x, x < 5 → tB P (nI x) = true → v x = v' x) (hr : r < 5) (tr : tB P (nI r) = true) : seatN P v r = seatN P v' r := by
  unfold seatN
  refine cn5_cong (fun x hx => ?_)
  cases t : tB P (nI x)
  · simp
  · simp only [Bool.true_and, ah, h x hx t, h r hr tr]
theorem wv_cong {st st' ha ha' : Nat → Int32} {cap x : Int32} (h1 : ∀ i, i < 5 → st i = st' i) (h2 : ∀ i, i < 5 → ha i = ha' i) : wv st ha cap x = wv st' ha' cap x := by
  unfold wv
  cases h : inB x 0 4
  · simp
  · obtain ⟨i, hi, rfl⟩ := inB_ix (n := 4) (by decide) h
    simp only [if_true, ix5 (show i < 5 by omega), h1 i (by omega), h2 i (by omega)]
def tvl (σ : Sg) (k p : Nat) : Int32 := if tB (σ k 0) (nI p) then wv (σ (k + 7)) (σ (k + 11)) (σ k 2) (σ (k + 1) p) else 0
def laid (σ : Sg) (k : Nat) (s : Sg) : Prop := (∀ c, c ≠ 61 → c ≠ 62 → c ≠ 63 → s c = σ c) ∧ (∀ c, c < 5 → s 61 c = wv (σ (k + 7)) (σ (k + 11)) (σ k 2) (nI c)) ∧ (∀ p, p < 5 → s 62 p = tvl σ k p) ∧ ∀ p, p < 5 → s 63 p = if tB (σ k 0) (nI p) then nI (seatN (σ k 0) (tvl σ k) p) else -6
theorem q_lay {k : Nat} {σ : Sg} (hk : k_tw k) : ∃ s, m_X3_lay k σ = some s ∧ laid σ k s := by
  have hk' : k ≤ 43 ∨ 66 ≤ k := by unfold k_tw at hk; omega
  unfold m_X3_lay
  refine lp1_wp (fun o => ∃ s, o = some s ∧ laid σ k s) (fun i s => (∀ c, c ≠ 61 → s c = σ c) ∧ ∀ c, c < i → s 61 c = wv (σ (k + 7)) (σ (k + 11)) (σ k 2) (nI c)) 5 ?_ ?_ e_F 0 σ (by omega) (e_F_lt (by omega)) ⟨fun _ _ => rfl, fun c hc => by omega⟩
  · rintro H s ⟨g1, g2⟩
    simp only [d_X3_lay_2, le5, if_true]
    obtain ⟨t, h1, h2, h3, h4⟩ := q_sit (k := k) (σ := s) (by omega)
    have e0 : s k = σ k := g1 k (by omega)
    have e1 : s (k + 1) = σ (k + 1) := g1 _ (by omega)
    have etv : ∀ p, p < 5 → tv s k p = tvl σ k p := by
      intro p hp
      simp only [tv, tvl, e0, e1]
      by_cases t : tB (σ k 0) (nI p) = true
      · simp only [t, if_true]
        cases q : inB (σ (k + 1) p) 0 4
        · simp [wv, q]
        · obtain ⟨i, hi, e⟩ := inB_ix (n := 4) (by decide) q
          rw [e]
          simp only [if_true, ix5 (show i < 5 by omega)]
          exact g2 i (by omega)
      · simp [t]
    rw [h1]
    refine ⟨t, rfl, fun c c1 c2 c3 => ?_, fun c hc => ?_, fun p hp => ?_, fun p hp => ?_⟩
    · rw [h2 c c2 c3, g1 c c1]
    · rw [h2 61 (by decide) (by decide)]; exact g2 c hc
    · rw [h3 p hp, etv p hp]
    · rw [h4 p hp, e0]
      by_cases t : tB (σ k 0) (nI p) = true
      · simp only [t, if_true]
        rw [seatN_cong (fun x hx _ => etv x hx) hp t]
      · simp [t]
  · rintro H i s hi ⟨g1, g2⟩ kk
    simp only [d_X3_lay_2, ge5 hi, if_false, q_worthOf, p_cI, p_wr (in5 hi), ix5 hi, x_s]
    refine kk _ ⟨fun c c1 => by simp [k_up, c1, g1 c c1], fun c hc => ?_⟩
    by_cases e : c = i
    · subst e
      simp only [k_up, upd, if_true]
      rw [g1 (k + 7) (by omega), g1 (k + 11) (by omega), g1 k (by omega)]
    · simp only [k_up, upd, e, if_true, if_false]
      exact g2 c (by omega)
/-! ===== a town becomes another ===== -/
def rng (j r : Nat) : Bool := (j == 0 && decide (r < 4)) || (decide (1 ≤ j) && decide (j ≤ 11) && decide (r < 5)) || (decide (12 ≤ j) && decide (j ≤ 13) && decide (r < 6))
def bec (σ : Sg) (a b : Nat) (s : Sg) : Prop := (∀ c, c < a ∨ a + 14 ≤ c → s c = σ c) ∧ ∀ j r, j < 14 → rng j r = true → s (a + j) r = σ (b + j) r
theorem j14 {j : Nat} (h : j < 14) : j = 0 ∨ j = 1 ∨ j = 2 ∨ j = 3 ∨ j = 4 ∨ j = 5 ∨ j = 6 ∨ j = 7 ∨ j = 8 ∨ j = 9 ∨ j = 10 ∨ j = 11 ∨ j = 12 ∨ j = 13 := by omega
theorem q_become {a b : Nat} {σ : Sg} (hd : a + 14 ≤ b ∨ b + 14 ≤ a) : ∃ s, m_X4_become a b σ = some s ∧ bec σ a b s := by
  unfold m_X4_become
  simp only [p_lt]
  refine lp1_wp (fun o => ∃ s, o = some s ∧ bec σ a b s) (fun i s => (∀ c, c < a ∨ a + 14 ≤ c → s c = σ c) ∧ (∀ r, r < 4 → s a r = σ b r) ∧ ∀ j r, 1 ≤ j → j ≤ 6 → r < i → s (a + j) r = σ (b + j) r) 5 ?_ ?_ e_F 0 _ (by omega) (e_F_lt (by omega)) ⟨fun c hc => ?_, fun r hr => ?_, fun j r h1 h2 h3 => by omega⟩
  · rintro H s ⟨g1, g2, g3⟩
    simp only [d_X4_become_34, le5, if_true]
    refine lp1_wp (fun o => ∃ s, o = some s ∧ bec σ a b s) (fun i s => (∀ c, c < a ∨ a + 14 ≤ c → s c = σ c) ∧ (∀ r, r < 4 → s a r = σ b r) ∧ (∀ j r, 1 ≤ j → j ≤ 6 → r < 5 → s (a + j) r = σ (b + j) r) ∧ ∀ j r, 7 ≤ j → j ≤ 11 → r < i → s (a + j) r = σ (b + j) r) 5 ?_ ?_ e_F 0 s (by omega) (e_F_lt (by omega)) ⟨g1, g2, g3, fun j r h1 h2 h3 => by omega⟩
    · rintro H s ⟨g1, g2, g3, g4⟩
      simp only [d_X4_become_119, le5, if_true]
      refine lp1_wp (fun o => ∃ s, o = some s ∧ bec σ a b s) (fun i s => (∀ c, c < a ∨ a + 14 ≤ c → s c = σ c) ∧ (∀ r, r < 4 → s a r = σ b r) ∧ (∀ j r, 1 ≤ j → j ≤ 11 → r < 5 → s (a + j) r = σ (b + j) r) ∧ ∀ j r, 12 ≤ j → j ≤ 13 → r < i → s (a + j) r = σ (b + j) r) 6 ?_ ?_ e_F 0 s (by omega) (e_F_lt (by omega)) ⟨g1, g2, fun j r h1 h2 h3 => ?_, fun j r h1 h2 h3 => by omega⟩
      · rintro H s ⟨g1, g2, g3, g4⟩
        simp only [d_X4_become_192, le6, if_true]
        refine ⟨s, rfl, g1, fun j r hj hr => ?_⟩
        simp only [rng, Bool.or_eq_true, Bool.and_eq_true, decide_eq_true_eq, beq_iff_eq] at hr
        rcases hr with (⟨rfl, h⟩ | ⟨⟨h1, h2⟩, h3⟩) | ⟨⟨h1, h2⟩, h3⟩
        · exact g2 r h
        · exact g3 j r h1 h2 h3
        · exact g4 j r h1 h2 h3
      · rintro H i s hi ⟨g1, g2, g3, g4⟩ kk
        simp only [d_X4_become_192, ge6 hi, if_false, p_gd (in6 hi), p_wr (in6 hi), ix6 hi, x_s]
        have e12 : s (b + 12) i = σ (b + 12) i := by rw [g1 _ (by omega)]
        have e13 : s (b + 13) i = σ (b + 13) i := by rw [g1 _ (by omega)]
        refine kk _ ⟨fun c hc => ?_, fun r hr => ?_, fun j r h1 h2 h3 => ?_, fun j r h1 h2 h3 => ?_⟩
        · simp [k_up, show c ≠ a + 12 by omega, show c ≠ a + 13 by omega, g1 c hc]
        · simp [k_up, g2 r hr]
        · simp [k_up, show j ≠ 12 by omega, show j ≠ 13 by omega, g3 j r h1 h2 h3]
        · have : j = 12 ∨ j = 13 := by omega
          by_cases e : r = i
          · subst e
            rcases this with rfl | rfl <;> simp [k_up, upd, show b + 13 ≠ a + 12 by omega, e12, e13]
          · rcases this with rfl | rfl <;> simp [k_up, upd, e] <;> exact g4 _ r (by decide) (by decide) (by omega)
      · by_cases h : j ≤ 6
        · exact g3 j r h1 h h3
        · exact g4 j r (by omega) h2 h3
    · rintro H i s hi ⟨g1, g2, g3, g4⟩ kk
      simp only [d_X4_become_119, ge5 hi, if_false, p_gd (in5 hi), p_wr (in5 hi), ix5 hi, x_s]
      have eb : ∀ j, j < 14 → s (b + j) i = σ (b + j) i := fun j hj => by rw [g1 _ (by omega)]
      refine kk _ ⟨fun c hc => ?_, fun r hr => ?_, fun j r h1 h2 h3 => ?_, fun j r h1 h2 h3 => ?_⟩
      · simp [k_up, show c ≠ a + 7 by omega, show c ≠ a + 8 by omega, show c ≠ a + 9 by omega, show c ≠ a + 10 by omega, show c ≠ a + 11 by omega, g1 c hc]
      · simp [k_up, g2 r hr]
      · simp [k_up, show j ≠ 7 by omega, show j ≠ 8 by omega, show j ≠ 9 by omega, show j ≠ 10 by omega, show j ≠ 11 by omega, g3 j r h1 h2 h3]
      · have : j = 7 ∨ j = 8 ∨ j = 9 ∨ j = 10 ∨ j = 11 := by omega
        have n1 : ∀ x y : Nat, 7 ≤ x → x ≤ 11 → y ≤ 13 → b + x ≠ a + y := by omega
        by_cases e : r = i
        · subst e
          rcases this with rfl | rfl | rfl | rfl | rfl <;> simp [k_up, upd, n1, eb]
        · rcases this with rfl | rfl | rfl | rfl | rfl <;> simp [k_up, upd, e] <;> exact g4 _ r (by decide) (by decide) (by omega)
  · rintro H i s hi ⟨g1, g2, g3⟩ kk
    simp only [d_X4_become_34, ge5 hi, if_false, p_gd (in5 hi), p_wr (in5 hi), ix5 hi, x_s]
    have eb : ∀ j, j < 14 → s (b + j) i = σ (b + j) i := fun j hj => by rw [g1 _ (by omega)]
    refine kk _ ⟨fun c hc => ?_, fun r hr => ?_, fun j r h1 h2 h3 => ?_⟩
    · simp [k_up, show c ≠ a + 1 by omega, show c ≠ a + 2 by omega, show c ≠ a + 3 by omega, show c ≠ a + 4 by omega, show c ≠ a + 5 by omega, show c ≠ a + 6 by omega, g1 c hc]
    · simp [k_up, g2 r hr]
    · have : j = 1 ∨ j = 2 ∨ j = 3 ∨ j = 4 ∨ j = 5 ∨ j = 6 := by omega
      have n1 : ∀ x y : Nat, 1 ≤ x → x ≤ 6 → y ≤ 13 → b + x ≠ a + y := by omega
      by_cases e : r = i
      · subst e
        rcases this with rfl | rfl | rfl | rfl | rfl | rfl <;> simp [k_up, upd, n1, eb]
      · rcases this with rfl | rfl | rfl | rfl | rfl | rfl <;> simp [k_up, upd, e] <;> exact g3 _ r (by decide) (by decide) (by omega)
  · simp [k_up, show c ≠ a by omega]
  · have h4 : r = 0 ∨ r = 1 ∨ r = 2 ∨ r = 3 := by omega
    have hne : b ≠ a := by omega
    rcases h4 with rfl | rfl | rfl | rfl <;> simp [k_up, upd, hne]
