theorem inB_1 {x : Int32} : inB x 0 1 = true ↔ x = 0 ∨ x = 1 := by
  constructor
  · intro h
    obtain ⟨i, hi, rfl⟩ := inB_ix (n := 1) (by decide) h
    have : i = 0 ∨ i = 1 := by omega
    rcases this with rfl | rfl
    · exact Or.inl rfl
    · exact Or.inr rfl
  · rintro (rfl | rfl) <;> decide
theorem inB_2 {x : Int32} : inB x 0 2 = true ↔ x = 0 ∨ x = 1 ∨ x = 2 := by
  constructor
  · intro h
    obtain ⟨i, hi, rfl⟩ := inB_ix (n := 2) (by decide) h
    have : i = 0 ∨ i = 1 ∨ i = 2 := by omega
    rcases this with rfl | rfl | rfl
    · exact Or.inl rfl
    · exact Or.inr (Or.inl rfl)
    · exact Or.inr (Or.inr rfl)
  · rintro (rfl | rfl | rfl) <;> decide
theorem inB_f {x a b : Int32} (h : ¬ inB x a b = true) : inB x a b = false := by simpa using h
theorem arr_of {k n : Nat} (h : k < 123 ∧ k_kd k = 8 ∧ k_ln k = n) : k_ar k = true ∧ k_ln k = n := ⟨decide_eq_true ⟨h.1, h.2.1⟩, h.2.2⟩
/-- a change of a row of the town's that its order does not look at, told to both -/
theorem inv_free {σ : Sg} {a b p : Nat} {v : Int32} (hI : Inv σ) (hp : p < 5) (hab : (a = 6 ∧ b = 110) ∨ (a = 7 ∧ b = 111) ∨ (a = 3 ∧ b = 107) ∨ (a = 4 ∧ b = 108) ∨ (a = 5 ∧ b = 109)) : Inv (k_up (k_up σ a p v) b p v) := by
  obtain ⟨w1, w2, w3, w4⟩ := hI
  refine ⟨?_, ?_, w3.ext (by simp [k_up, show 58 ≠ a by omega, show 58 ≠ b by omega]) (by simp [k_up, show 59 ≠ a by omega, show 59 ≠ b by omega]) (by simp [k_up, show 113 ≠ a by omega, show 113 ≠ b by omega]) (by simp [k_up, show 100 ≠ a by omega, show 100 ≠ b by omega]), w4.ext (by simp [k_up, show 121 ≠ a by omega, show 121 ≠ b by omega]) (by simp [k_up, show 122 ≠ a by omega, show 122 ≠ b by omega]) (fun c c1 c2 => by simp [k_up, show c ≠ a by omega, show c ≠ b by omega])⟩
  · unfold Wf at w1 ⊢
    rcases hab with ⟨rfl, rfl⟩ | ⟨rfl, rfl⟩ | ⟨rfl, rfl⟩ | ⟨rfl, rfl⟩ | ⟨rfl, rfl⟩ <;> simpa [k_up] using w1
  · obtain ⟨a1, a2, a3, a4, a5, a6⟩ := w2
    have key : ∀ x y : Nat, x ≠ a → x ≠ b → k_up (k_up σ a p v) b p v x y = σ x y := fun x y h1 h2 => by simp [k_up, h1, h2]
    refine ⟨?_, ?_, ?_, ?_, fun r hr => ?_, fun r hr => ?_⟩
    · rw [key _ _ (by omega) (by omega), key _ _ (by omega) (by omega)]; exact a1
    · rw [key _ _ (by omega) (by omega), key _ _ (by omega) (by omega)]; exact a2
    · rw [key _ _ (by omega) (by omega), key _ _ (by omega) (by omega)]; exact a3
    · rw [key _ _ (by omega) (by omega), key _ _ (by omega) (by omega)]; exact a4
    · obtain ⟨b1, b2, b3, b4, b5, b6, b7, b8, b9, b10, b11⟩ := a5 r hr
      by_cases e : r = p
      · subst e
        rcases hab with ⟨rfl, rfl⟩ | ⟨rfl, rfl⟩ | ⟨rfl, rfl⟩ | ⟨rfl, rfl⟩ | ⟨rfl, rfl⟩ <;> simp [k_up, upd, b1, b2, b3, b4, b5, b6, b7, b8, b9, b10, b11]
      · rcases hab with ⟨rfl, rfl⟩ | ⟨rfl, rfl⟩ | ⟨rfl, rfl⟩ | ⟨rfl, rfl⟩ | ⟨rfl, rfl⟩ <;> simp [k_up, upd, e, b1, b2, b3, b4, b5, b6, b7, b8, b9, b10, b11]
    · rw [key _ _ (by omega) (by omega), key _ _ (by omega) (by omega), key _ _ (by omega) (by omega), key _ _ (by omega) (by omega)]; exact a6 r hr
theorem op_give (x y z : Int32) : SimI (m_X6_give x y z) (m_X7_give x y z) := by
  intro σ hI
  obtain ⟨w1, w2, w3, w4⟩ := id hI
  obtain ⟨a1, a2, a3, a4, a5, a6⟩ := id w2
  unfold m_X6_give m_X7_give
  simp only [q_hasPerson, q_isThere, p_cI, p_ifz, q_within, q_in]
  cases hx : hB (σ 1 0) x
  · exact ⟨_, _, σ, rfl, by simp [a1, hx], hI⟩
  · obtain ⟨p, hp, rfl⟩ := hB_ix hx
    by_cases h0 : y = 0
    · subst h0
      have e1 : inB 0 0 1 = true := by decide
      simp only [e1, if_true, b_X6_give_33, q_within, p_cI, p_ifz, b_X6_give_63]
      cases hz : inB z 0 999
      · refine ⟨_, _, σ, rfl, ?_, hI⟩
        simp [a1, hx, hz, b_X7_give_44, zI]
      · refine ⟨σ 6 p, k_up σ 6 p z, k_up (k_up σ 6 p z) 110 p z, ?_, ?_, inv_free hI hp (Or.inl ⟨rfl, rfl⟩)⟩
        · simp only [if_true, p_gd (arr_of ka_6).1, (arr_of ka_6).2, p_gd (in5 hp), p_wr (in5 hp), p_lt, ix5 hp]
        · have h1 : ¬ (1 : Int32) = 0 := by decide
          have h2 : k_up σ 6 p z 100 0 = σ 1 0 := by simp [k_up, a1]
          have h01 : ¬ (0 : Int32) = 1 := by decide
          simp only [h2, hx, hz, if_true, b_X7_give_44, zI_t, h1, if_false, p_gd (in5 hp), b_X7_give_73, b_X7_give_94, b_X7_give_115, p_gd (arr_of ka_110).1, (arr_of ka_110).2, p_gd (arr_of ka_111).1, (arr_of ka_111).2, p_wr (in5 hp), ix5 hp, h01]
          congr 1
          refine Prod.ext ?_ ?_
          · simp [k_up]; exact (a5 p hp).2.2.2.2.1
          · funext c
            by_cases e : c = 111
            · subst e; funext r; by_cases er : r = p <;> simp [k_up, upd, er]
            · simp [k_up, e]
    · by_cases h1' : y = 1
      · subst h1'
        have e1 : inB 1 0 1 = true := by decide
        have h10 : ¬ (1 : Int32) = 0 := by decide
        simp only [e1, if_true, h10, if_false, b_X6_give_33, q_within, p_cI, p_ifz, b_X6_give_63]
        cases hz : inB z 0 2
        · refine ⟨_, _, σ, rfl, ?_, hI⟩
          simp [a1, hx, hz, b_X7_give_43, b_X7_give_44]
        · refine ⟨σ 7 p, k_up σ 7 p z, k_up (k_up σ 7 p z) 111 p z, ?_, ?_, inv_free hI hp (Or.inr (Or.inl ⟨rfl, rfl⟩))⟩
          · simp only [if_true, p_gd (arr_of ka_7).1, (arr_of ka_7).2, p_gd (in5 hp), p_wr (in5 hp), p_lt, ix5 hp]
          · have h2 : k_up σ 7 p z 100 0 = σ 1 0 := by simp [k_up, a1]
            simp only [h2, hx, hz, if_true, b_X7_give_44, h10, if_false, p_gd (in5 hp), b_X7_give_73, b_X7_give_94, b_X7_give_115, p_gd (arr_of ka_110).1, (arr_of ka_110).2, p_gd (arr_of ka_111).1, (arr_of ka_111).2, p_wr (in5 hp), ix5 hp]
            congr 1
            refine Prod.ext ?_ ?_
            · simp [k_up]; exact (a5 p hp).2.2.2.2.2.1
            · funext c
              by_cases e : c = 110
              · subst e; funext r; by_cases er : r = p <;> simp [k_up, upd, er]
              · simp [k_up, e]
      · have e1 : inB y 0 1 = false := inB_f (fun h => by rcases inB_1.mp h with h | h; exact h0 h; exact h1' h)
        refine ⟨_, _, σ, by simp only [e1, if_true, if_false, Bool.false_eq_true]; rfl, ?_, hI⟩
        simp [a1, hx, h0, h1', b_X7_give_43, b_X7_give_44]
theorem op_say (x : Int32) : SimI (m_X6_say x) (m_X7_say x) := by
  intro σ hI
  obtain ⟨w1, w2, w3, w4⟩ := id hI
  obtain ⟨⟨n, hn, e1, e2⟩, e3⟩ := id w3
  unfold m_X6_say m_X7_say
  simp only [q_in, p_cI, p_ifz]
  have hin : inB x 33 126 = decide (33 ≤ x ∧ x ≤ 126) := rfl
  by_cases h1 : x < 33
  · refine ⟨_, _, σ, by simp only [h1, if_true]; rfl, ?_, hI⟩
    have : ¬ 33 ≤ x := i_nle.mpr h1
    simp [hin, this]
  · have h1' : 33 ≤ x := i_nlt.mp h1
    by_cases h2 : x ≤ 126
    · simp only [h1, h2, if_true, if_false, m_X1_add, q_within, p_cI, p_ifz]
      by_cases h60 : n = 60
      · subst h60
        have hf : inB (nI 60) 0 59 = false := by decide
        refine ⟨-4, σ, σ, ?_, ?_, hI⟩
        · simp [e1, hf, p_rz0, p_cI]
        · have : (nI 60 : Int32) = 60 := rfl
          simp [hin, h1', h2, e2, this]
      · have hn' : n < 60 := by omega
        have ht : inB (nI n) 0 59 = true := by
          unfold inB
          exact decide_eq_true ⟨nI_pos' (by omega), by have := nI_le (a := n) (b := 59) (by omega) (by decide); exact this⟩
        have hi : k_in (nI n) 60 = true := x_in hn' (by decide)
        have hix : Int32.toNatClampNeg (nI n) = n := x_ix (by omega)
        have hne : ¬ (nI n = 60) := by
          intro h
          have := (nI_eq (a := n) (b := 60) (by omega) (by decide)).mp h
          omega
        refine ⟨nI (n + 1), k_up (k_up σ 59 n x) 58 1 (nI (n + 1)), k_up (k_up (k_up (k_up σ 59 n x) 58 1 (nI (n + 1))) 113 n x) 100 16 (nI (n + 1)), ?_, ?_, ?_⟩
        · simp only [e1, ht, if_true, p_wr hi, hix, p_lt, p_rz1, p_cI]
          have h10 : ¬ (1 : Int32) = 0 := by decide
          simp only [h10, if_false]
          have : k_up σ 59 n x 58 1 = nI n := by simp [k_up, e1]
          rw [this, x_s]
          simp [k_up, upd]
        · have q1 : k_up (k_up σ 59 n x) 58 1 (nI (n + 1)) 100 16 = nI n := by simp [k_up, e2]
          simp only [hin, h1', h2, and_self, decide_true, if_true, q1, hne, if_false, p_wr hi, hix, p_lt]
          have q2 : k_up (k_up (k_up σ 59 n x) 58 1 (nI (n + 1))) 113 n x 100 16 = nI n := by simp [k_up, e2]
          rw [q2, x_s]
          simp [k_up, upd]
        · refine ⟨w1.ext (fun c a b => by simp [k_up, show c ≠ 100 by omega, show c ≠ 113 by omega, show c ≠ 58 by omega, show c ≠ 59 by omega]), w2.ext (fun c a b => by simp [k_up, show c ≠ 100 by omega, show c ≠ 113 by omega, show c ≠ 58 by omega, show c ≠ 59 by omega]) (fun c a b => by simp [k_up, show c ≠ 100 by omega, show c ≠ 113 by omega, show c ≠ 58 by omega, show c ≠ 59 by omega]) (by simp [k_up, upd]) (by simp [k_up, upd]) (by simp [k_up, upd]) (by simp [k_up, upd]), ⟨⟨n + 1, by omega, by simp [k_up, upd], by simp [k_up, upd]⟩, fun i hi => ?_⟩, w4.ext (by simp [k_up]) (by simp [k_up]) (fun c a b => by simp [k_up, show c ≠ 100 by omega, show c ≠ 113 by omega, show c ≠ 58 by omega, show c ≠ 59 by omega])⟩
          by_cases e : i = n
          · subst e; simp [k_up, upd]
          · simp [k_up, upd, e]; exact e3 i hi
    · refine ⟨_, _, σ, by simp only [h1, h2, if_true, if_false]; rfl, ?_, hI⟩
      simp [hin, h2]
