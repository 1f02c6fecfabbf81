theorem tB_0 : ∀ i, i < 32 → ∀ p, p < 5 → ((jsr (nI i) (nI p) &&& 1 = 0) ↔ tB (nI i) (nI p) = false) := by decide +kernel
def shB (σ : Sg) (p i : Nat) : Bool := decide (nI i &&& (σ 1 0 ^^^ (-1)) = 0) && !tB (nI i) (nI p)
def shM (p i : Nat) : Nat := mk5 (fun c => tB (nI i) (nI c) || decide (c = p))
def shc (i : Nat) : Nat := cn5 (fun c => tB (nI i) (nI c))
def shV (σ : Sg) (p i : Nat) : Int64 := (fI (nI (shc i))).toInt64 * (fI (nI (cn5 (fun c => tB (σ 1 0) (nI c))) - nI (shc i) - 1)).toInt64 * (wl (σ 1 1) (σ 9) (σ 8) (shM p i) - wl (σ 1 1) (σ 9) (σ 8) i).toInt64
def shS (σ : Sg) (p : Nat) : Nat → Int64
  | 0 => 0
  | i + 1 => if shB σ p i = true then shS σ p i + shV σ p i else shS σ p i
theorem op_share (x y : Int32) : SimJ (m_X6_share x y) (m_X7_share x y) := by
  intro σ hI
  obtain ⟨w1, w2, w3, w4⟩ := id hI
  obtain ⟨a1, a2, a3, a4, a5, a6⟩ := id w2
  obtain ⟨m, hm, em⟩ := w1.1
  have hN : bcI (σ 1 0) = nI (cn5 (fun c => tB (σ 1 0) (nI c))) := bc_P hm em
  have hNt : btI (σ 1 0) = nI (cn5 (fun c => tB (σ 1 0) (nI c))) := by rw [← hN, em]; exact (bc_bt hm).symm
  unfold m_X6_share m_X7_share
  simp only [q_hasPerson, q_isThere, q_within, q_in, p_cI, p_ifz]
  cases hx : hB (σ 1 0) x
  · exact ⟨_, _, σ, rfl, by simp only [a1, hx, Bool.false_eq_true, if_false], hI⟩
  · obtain ⟨p, hp, rfl⟩ := hB_ix hx
    simp only [if_true]
    cases hy : inB y 0 1
    · exact ⟨_, _, σ, rfl, by simp only [a1, hx, if_true, Bool.false_eq_true, if_false], hI⟩
    · simp only [if_true, q_bitCount, p_cI, hN]
      obtain ⟨f1, f2⟩ := fI_s (nI (cn5 (fun c => tB (σ 1 0) (nI c))))
      obtain ⟨d, d1, d2⟩ := eu_ok 7 (shS σ p 32) _ f1
      have d3 := d2 (Or.inr f2)
      have hc5 : cn5 (fun c => tB (σ 1 0) (nI c)) < 6 := Nat.lt_succ_of_le (cn5_le _)
      have ho := q_orders (x := nI (cn5 (fun c => tB (σ 1 0) (nI c)))) (σ := σ) (Or.inr (decide_eq_true ⟨nI_pos' (by omega), nI_le (b := 5) (by omega) (by decide)⟩))
      have bi : ∀ i, i < 32 → bcI (nI i) = nI (shc i) := fun i hi => bc_P hi rfl
      have ti : ∀ i, i < 32 → btI (nI i) = nI (shc i) := fun i hi => by rw [← bi i hi]; exact (bc_bt hi).symm
      have oi : ∀ i, i < 32 → nI i ||| jsl 1 (nI p) = nI (shM p i) := fun i hi => or_all i hi p hp
      have sc : ∀ i, shc i < 6 := fun i => Nat.lt_succ_of_le (cn5_le _)
      refine ⟨(if y = 0 then shS σ p 32 else (fI (nI (cn5 (fun c => tB (σ 1 0) (nI c))))).toInt64) / d, σ, σ, ?_, ?_, hI⟩
      · refine lp3_z (fun o => o = some ((if y = 0 then shS σ p 32 else (fI (nI (cn5 (fun c => tB (σ 1 0) (nI c))))).toInt64) / d, σ)) (fun i a b u => u = σ ∧ a = nI (cn5 (fun c => tB (σ 1 0) (nI c))) ∧ b = shS σ p i) 32 ?_ ?_ (e_F_lt (by omega)) ⟨rfl, rfl, rfl⟩
        · rintro H a b u ⟨rfl, rfl, rfl⟩
          simp only [d_X6_share_44, le32, if_true, q_factorial, p_cJ, q_partOf (show 2 * 7 < 100 by decide) d1 d3]
        · rintro H i a b u hi ⟨rfl, rfl, rfl⟩ kk
          simp only [d_X6_share_44, ge32 hi, if_false, q_isLeague, p_cI, p_ifz, tB_0 i hi p hp, oi i hi, q_wlC (mk5_lt _) w1.2.2.2.2.2.1, q_wlC hi w1.2.2.2.2.2.1, p_lt, q_bitCount, bi i hi, m_X6_rowsWithAhead, q_factorial, p_cJ, x_s, shM, Nat.reduceAdd]
          by_cases q1 : nI i &&& (u 1 0 ^^^ (-1)) = 0
          · cases q2 : tB (nI i) (nI p)
            · simp only [q1, decide_true, if_true]
              exact kk _ _ _ ⟨rfl, rfl, by simp only [shS, shB, q1, q2, decide_true, Bool.not_false, Bool.and_self, if_true, shV, shM]⟩
            · simp only [q1, decide_true, if_true, Bool.true_eq_false, if_false]
              exact kk _ _ _ ⟨rfl, rfl, by simp only [shS, shB, q2, Bool.not_true, Bool.and_false, Bool.false_eq_true, if_false]⟩
          · simp only [q1, decide_false, Bool.false_eq_true, if_false]
            exact kk _ _ _ ⟨rfl, rfl, by simp only [shS, shB, q1, decide_false, Bool.false_and, Bool.false_eq_true, if_false]⟩
      · simp only [a1, hx, if_true, q_bits, p_cI, hNt]
        refine lp3_z (fun o => o = some ((if y = 0 then shS σ p 32 else (fI (nI (cn5 (fun c => tB (σ 1 0) (nI c))))).toInt64) / d, σ)) (fun i a b u => u = σ ∧ a = nI (cn5 (fun c => tB (σ 1 0) (nI c))) ∧ b = shS σ p i) 32 ?_ ?_ (e_F_lt (by omega)) ⟨rfl, rfl, rfl⟩
        · rintro H a b u ⟨rfl, rfl, rfl⟩
          simp only [d_X7_share_39, le32, if_true, ho, p_cI, p_lt]
          rw [q_cdM 14 e_F _ _ d (e_F_lt (by omega)) d1]
          simp only [ho, p_cI, d3, if_false]
          by_cases q : y = 0 <;> simp only [q, if_true, if_false]
        · rintro H i a b u hi ⟨rfl, rfl, rfl⟩ kk
          have o1 := q_orders (x := nI (shc i)) (σ := u) (Or.inr (decide_eq_true ⟨nI_pos' (by have := sc i; omega), nI_le (b := 5) (by have := sc i; omega) (by decide)⟩))
          have o2 := q_orders (x := nI (cn5 (fun c => tB (u 1 0) (nI c))) - nI (shc i) - 1) (σ := u) (ord_ok _ hc5 _ (sc i))
          simp only [d_X7_share_39, ge32 hi, if_false, a1, q_has, p_cI, p_ifz, q_bits, ti i hi, o1, o2, p_lt, oi i hi, q_wlM (m := shM p i) (mk5_lt _), q_wlM hi, wl_inv hI, fI_mul, x_s]
          by_cases q1 : nI i &&& (u 1 0 ^^^ (-1)) = 0
          · cases q2 : tB (nI i) (nI p)
            · simp only [q1, if_true, Bool.false_eq_true, if_false]
              exact kk _ _ _ ⟨rfl, rfl, by simp only [shS, shB, q1, q2, decide_true, Bool.not_false, Bool.and_self, if_true, shV]⟩
            · simp only [q1, if_true]
              exact kk _ _ _ ⟨rfl, rfl, by simp only [shS, shB, q2, Bool.not_true, Bool.and_false, Bool.false_eq_true, if_false]⟩
          · simp only [q1, if_false]
            exact kk _ _ _ ⟨rfl, rfl, by simp only [shS, shB, q1, decide_false, Bool.false_and, Bool.false_eq_true, if_false]⟩
