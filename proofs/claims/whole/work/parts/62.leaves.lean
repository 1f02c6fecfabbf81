theorem q_isLeague {σ : Sg} {k : Nat} {x : Int32} : m_X4_isLeague k x σ = some (zI (decide (x &&& (σ k 0 ^^^ (-1)) = 0)), σ) := by
  unfold m_X4_isLeague
  by_cases h : x &&& (σ k 0 ^^^ (-1)) = 0
  · simp only [h, if_true, p_rz1, decide_true, zI_t]
  · simp only [h, if_false, p_rz0, decide_false, zI_f]
theorem sub_31 {x : Int32} {m : Nat} (hm : m < 32) (h : x &&& (nI m ^^^ (-1)) = 0) : ∃ j, j < 32 ∧ x = nI j := by
  have hb : x.toBitVec &&& ((nI m).toBitVec ^^^ (-1 : Int32).toBitVec) = 0 := by
    have := congrArg Int32.toBitVec h
    rw [Int32.toBitVec_and, Int32.toBitVec_xor] at this
    exact this
  have h1 : (-1 : Int32).toBitVec = BitVec.allOnes 32 := by decide
  rw [h1, BitVec.xor_allOnes] at hb
  have h2 : x.toBitVec = x.toBitVec &&& (nI m).toBitVec := by
    apply BitVec.eq_of_getLsbD_eq
    intro i hi
    have := congrArg (fun v => v.getLsbD i) hb
    simp only [BitVec.getLsbD_and, BitVec.getLsbD_not, hi, decide_true, Bool.true_and] at this
    rw [BitVec.getLsbD_and]
    have z : (0 : BitVec 32).getLsbD i = false := by simp
    rw [z] at this
    revert this
    cases x.toBitVec.getLsbD i <;> cases (nI m).toBitVec.getLsbD i <;> simp
  have h3 : x.toBitVec.toNat ≤ m := by
    rw [h2, BitVec.toNat_and]
    refine Nat.le_trans Nat.and_le_right ?_
    rw [nI_bv, BitVec.toNat_ofNat]
    exact Nat.mod_le _ _
  refine ⟨x.toBitVec.toNat, by omega, ?_⟩
  apply Int32.toBitVec_inj.mp
  rw [nI_bv]
  simp
theorem in_31 {j : Nat} (hj : j < 32) : inB (nI j) 0 31 = true := decide_eq_true ⟨nI_pos' (by omega), nI_le (b := 31) (by omega) (by decide)⟩
theorem q_areThere {σ : Sg} {x : Int32} {m : Nat} (hm : m < 32) (e : σ 100 0 = nI m) : m_X7_areThere x σ = some (zI (decide (x &&& (σ 100 0 ^^^ (-1)) = 0)), σ) := by
  unfold m_X7_areThere
  simp only [q_in, p_cI, p_ifz]
  by_cases h : x &&& (σ 100 0 ^^^ (-1)) = 0
  · have h' := h
    rw [e] at h'
    obtain ⟨j, hj, rfl⟩ := sub_31 hm h'
    simp only [in_31 hj, if_true, h, p_rz1, decide_true, zI_t]
  · simp only [h, if_false, p_rz0, decide_false, zI_f, ite_self]
theorem wl_inv {σ : Sg} (hI : Inv σ) (m : Nat) : wl (σ 100 1) (σ 102) (σ 101) m = wl (σ 1 1) (σ 9) (σ 8) m := by
  obtain ⟨w1, ⟨a1, a2, a3, a4, a5, a6⟩, w3, w4⟩ := hI
  rw [a2]
  exact wl_cong (fun c hc => (a5 c hc).2.2.2.2.2.2.2.1) (fun c hc => (a5 c hc).2.2.2.2.2.2.1)
theorem op_league (x : Int32) : SimI (m_X6_league x) (m_X7_league x) := by
  intro σ hI
  obtain ⟨w1, w2, w3, w4⟩ := id hI
  have a1 := w2.1
  obtain ⟨m, hm, em⟩ := w1.1
  unfold m_X6_league m_X7_league
  simp only [q_isLeague, p_cI, p_ifz]
  by_cases h : x &&& (σ 1 0 ^^^ (-1)) = 0
  · have h' := h
    rw [em] at h'
    obtain ⟨j, hj, rfl⟩ := sub_31 hm h'
    refine ⟨wl (σ 1 1) (σ 9) (σ 8) j, σ, σ, ?_, ?_, hI⟩
    · simp only [h, decide_true, if_true, q_wlC hj w1.2.2.2.2.2.1, p_cI]
    · simp only [q_areThere hm (a1.trans em), a1, h, decide_true, if_true, q_wlM hj, p_cI, wl_inv hI, p_ifz]
  · refine ⟨-2, σ, σ, ?_, ?_, hI⟩
    · simp only [h, decide_false, Bool.false_eq_true, if_false]
    · simp only [q_areThere hm (a1.trans em), p_cI, a1, h, decide_false, Bool.false_eq_true, if_false, p_ifz]
theorem q_giftsC {σ : Sg} {k : Nat} {x : Int32} : m_X4_giftsOfLeague k x σ = some (smI (fun i => tB x (nI i)) (σ (k + 5)) 5, σ) := by
  unfold m_X4_giftsOfLeague smI
  refine lp2_accz (fun i a => if tB x (nI i) = true then a + σ (k + 5) i else a) 5 (fun a => some (a, σ)) (fun H a => by simp only [d_X4_giftsOfLeague_4, le5, if_true]) (fun H i a hi => ?_) (e_F_lt (by decide))
  simp only [d_X4_giftsOfLeague_4, ge5 hi, if_false, tB_iff, p_gd (in5 hi), ix5 hi, p_lt, x_s]
  by_cases h : tB x (nI i) = true <;> simp only [h, if_true, if_false, Bool.false_eq_true]
theorem q_giftsM {x1 a b x : Int32} {σ : Sg} {K : Int32 → Int32 → Int32 → Int32 → Sg → Option (Int32 × Sg)} : e_lp5 (d_X7_leaves_33 x1 K) e_F a b x 0 0 σ = K a b x (smI (fun i => tB x (nI i)) (σ 110) 5) σ := by
  refine lp5_z (fun o => o = K a b x (smI (fun i => tB x (nI i)) (σ 110) 5) σ) (fun i a' b' c' d' u => u = σ ∧ a' = a ∧ b' = b ∧ c' = x ∧ d' = smI (fun i => tB x (nI i)) (σ 110) i) 5 ?_ ?_ (e_F_lt (by omega)) ⟨rfl, rfl, rfl, rfl, rfl⟩
  · rintro H a' b' c' d' u ⟨rfl, rfl, rfl, rfl, rfl⟩
    simp only [d_X7_leaves_33, le5, if_true]
  · rintro H i a' b' c' d' u hi ⟨rfl, rfl, rfl, rfl, rfl⟩ kk
    have a0 : ∀ y : Int32, y + 0 = y := fun y => by simp
    simp only [d_X7_leaves_33, ge5 hi, if_false, q_has, p_cI, p_ifz, p_gd (in5 hi), ix5 hi, b_X7_leaves_62, p_lt, x_s, a0]
    by_cases h : tB c' (nI i) = true
    · rw [if_pos h]; exact kk _ _ _ _ _ ⟨rfl, rfl, rfl, rfl, by rw [smI_s, if_pos h]⟩
    · rw [if_neg h]; exact kk _ _ _ _ _ ⟨rfl, rfl, rfl, rfl, by rw [smI_s, if_neg h]⟩
def lv (b : Nat → Bool) : Nat → Nat × Int32
  | 0 => (0, -6)
  | i + 1 => if 1 ≤ i ∧ b i = true then ((lv b i).1 + 1, if (lv b i).1 = 0 then nI i else (lv b i).2) else lv b i
theorem lv_t {b : Nat → Bool} {i : Nat} (hi : 1 ≤ i) (h : b i = true) : lv b (i + 1) = ((lv b i).1 + 1, if (lv b i).1 = 0 then nI i else (lv b i).2) := by
  simp only [lv, hi, h, and_self, if_true]
theorem lv_f {b : Nat → Bool} {i : Nat} (h : b i = false) : lv b (i + 1) = lv b i := by
  simp only [lv, h, Bool.false_eq_true, and_false, if_false]
theorem lv_ok {b : Nat → Bool} : ∀ i, i < 100 → (lv b i).1 ≤ i ∧ ((lv b i).2 = -6 ↔ (lv b i).1 = 0)
  | 0, _ => ⟨by simp [lv], by simp [lv]⟩
  | i + 1, hi => by
    obtain ⟨h1, h2⟩ := lv_ok (b := b) i (by omega)
    by_cases q : 1 ≤ i ∧ b i = true
    · rw [lv_t q.1 q.2]
      refine ⟨by show (lv b i).1 + 1 ≤ i + 1; omega, ?_⟩
      show (if (lv b i).1 = 0 then nI i else (lv b i).2) = -6 ↔ (lv b i).1 + 1 = 0
      by_cases z : (lv b i).1 = 0
      · rw [if_pos z]
        exact ⟨fun e => absurd e (nI_n6 (by omega)), fun e => by omega⟩
      · rw [if_neg z]
        exact ⟨fun e => absurd (h2.mp e) z, fun e => by omega⟩
    · have : lv b (i + 1) = lv b i := by simp only [lv, q, if_false]
      rw [this]
      exact ⟨by omega, h2⟩
theorem ge32 {i : Nat} (h : i < 32) : ¬ (32 : Int32) ≤ nI i := x_ge (n := 32) h (by decide)
theorem le32 : (32 : Int32) ≤ nI 32 := by decide
def lvb (σ : Sg) (j : Nat) : Bool := decide (nI j &&& (σ 1 0 ^^^ (-1)) = 0) && !decide (wl (σ 1 1) (σ 9) (σ 8) j ≤ smI (fun i => tB (nI j) (nI i)) (σ 6) 5)
theorem op_leaves (x : Int32) : SimI (m_X6_leaves x) (m_X7_leaves x) := by
  intro σ hI
  obtain ⟨w1, w2, w3, w4⟩ := id hI
  obtain ⟨a1, a2, a3, a4, a5, a6⟩ := id w2
  unfold m_X6_leaves m_X7_leaves
  simp only [q_within, q_in, p_cI, p_ifz]
  by_cases hx : inB x 0 1 = true
  · simp only [hx, if_true]
    have hC : e_lp3 (d_X6_leaves_19 x (fun x2q9 x3q9 σ9 => (if x = 0 then some (x2q9, σ9) else some (x3q9, σ9)))) e_F 0 (-6) 1 σ = some (if x = 0 then nI (lv (lvb σ) 32).1 else (lv (lvb σ) 32).2, σ) := by
      refine lp3_wp (fun o => o = some (if x = 0 then nI (lv (lvb σ) 32).1 else (lv (lvb σ) 32).2, σ)) (fun i a b u => 1 ≤ i ∧ u = σ ∧ a = nI (lv (lvb σ) i).1 ∧ b = (lv (lvb σ) i).2) 32 ?_ ?_ e_F 1 0 (-6) σ (by omega) (e_F_lt (by omega)) ⟨by omega, rfl, rfl, rfl⟩
      · rintro H a b u ⟨-, rfl, rfl, rfl⟩
        simp only [d_X6_leaves_19, le32, if_true]
        by_cases q : x = 0 <;> simp only [q, if_true, if_false]
      · rintro H i a b u hi ⟨h1, rfl, rfl, rfl⟩ kk
        obtain ⟨o1, o2⟩ := lv_ok (b := lvb u) i (by omega)
        simp only [d_X6_leaves_19, ge32 hi, if_false, q_isLeague, p_cI, p_ifz, q_wlC hi w1.2.2.2.2.2.1, q_giftsC, b_X6_leaves_74, x_s, o2, Nat.reduceAdd]
        by_cases q1 : nI i &&& (u 1 0 ^^^ (-1)) = 0
        · by_cases q2 : wl (u 1 1) (u 9) (u 8) i ≤ smI (fun j => tB (nI i) (nI j)) (u 6) 5
          · simp only [q1, decide_true, if_true, q2]
            exact kk _ _ _ ⟨by omega, rfl, by rw [lv_f (by simp only [lvb, q2, decide_true, Bool.not_true, Bool.and_false])], by rw [lv_f (by simp only [lvb, q2, decide_true, Bool.not_true, Bool.and_false])]⟩
          · have bt : lvb u i = true := by simp only [lvb, q1, q2, decide_true, decide_false, Bool.not_false, Bool.and_self]
            simp only [q1, decide_true, if_true, q2, if_false]
            by_cases z : (lv (lvb u) i).1 = 0
            · rw [if_pos z]
              exact kk _ _ _ ⟨by omega, rfl, by rw [lv_t h1 bt], by rw [lv_t h1 bt]; simp only [z, if_true]⟩
            · rw [if_neg z]
              exact kk _ _ _ ⟨by omega, rfl, by rw [lv_t h1 bt], by rw [lv_t h1 bt]; simp only [z, if_false]⟩
        · simp only [q1, decide_false, Bool.false_eq_true, if_false]
          exact kk _ _ _ ⟨by omega, rfl, by rw [lv_f (by simp only [lvb, q1, decide_false, Bool.false_and])], by rw [lv_f (by simp only [lvb, q1, decide_false, Bool.false_and])]⟩
    have hM : e_lp3 (d_X7_leaves_20 x (fun x2q9 x3q9 σ9 => (if x = 0 then some (x2q9, σ9) else some (x3q9, σ9)))) e_F 0 (-6) 1 σ = some (if x = 0 then nI (lv (lvb σ) 32).1 else (lv (lvb σ) 32).2, σ) := by
      have eg : ∀ i, smI (fun j => tB (nI i) (nI j)) (σ 110) 5 = smI (fun j => tB (nI i) (nI j)) (σ 6) 5 := fun i => smI_cong 5 (fun _ _ => rfl) (fun j hj => (a5 j hj).2.2.2.2.1)
      refine lp3_wp (fun o => o = some (if x = 0 then nI (lv (lvb σ) 32).1 else (lv (lvb σ) 32).2, σ)) (fun i a b u => 1 ≤ i ∧ u = σ ∧ a = nI (lv (lvb σ) i).1 ∧ b = (lv (lvb σ) i).2) 32 ?_ ?_ e_F 1 0 (-6) σ (by omega) (e_F_lt (by omega)) ⟨by omega, rfl, rfl, rfl⟩
      · rintro H a b u ⟨-, rfl, rfl, rfl⟩
        simp only [d_X7_leaves_20, le32, if_true]
        by_cases q : x = 0 <;> simp only [q, if_true, if_false]
      · rintro H i a b u hi ⟨h1, rfl, rfl, rfl⟩ kk
        obtain ⟨o1, o2⟩ := lv_ok (b := lvb u) i (by omega)
        have o3 : (nI (lv (lvb u) i).1 = 0) ↔ (lv (lvb u) i).1 = 0 := nI_eq (b := 0) (by omega) (by decide)
        simp only [d_X7_leaves_20, ge32 hi, if_false, q_giftsM, a1, q_wlM hi, wl_inv hI, p_cI, eg, o3, b_X7_leaves_104, x_s]
        by_cases q1 : nI i &&& (u 1 0 ^^^ (-1)) = 0
        · by_cases q2 : wl (u 1 1) (u 9) (u 8) i ≤ smI (fun j => tB (nI i) (nI j)) (u 6) 5
          · simp only [q1, if_true, q2]
            exact kk _ _ _ ⟨by omega, rfl, by rw [lv_f (by simp only [lvb, q2, decide_true, Bool.not_true, Bool.and_false])], by rw [lv_f (by simp only [lvb, q2, decide_true, Bool.not_true, Bool.and_false])]⟩
          · have bt : lvb u i = true := by simp only [lvb, q1, q2, decide_true, decide_false, Bool.not_false, Bool.and_self]
            simp only [q1, if_true, q2, if_false]
            by_cases z : (lv (lvb u) i).1 = 0
            · rw [if_pos z]
              exact kk _ _ _ ⟨by omega, rfl, by rw [lv_t h1 bt], by rw [lv_t h1 bt]; simp only [z, if_true]⟩
            · rw [if_neg z]
              exact kk _ _ _ ⟨by omega, rfl, by rw [lv_t h1 bt], by rw [lv_t h1 bt]; simp only [z, if_false]⟩
        · simp only [q1, if_false]
          exact kk _ _ _ ⟨by omega, rfl, by rw [lv_f (by simp only [lvb, q1, decide_false, Bool.false_and])], by rw [lv_f (by simp only [lvb, q1, decide_false, Bool.false_and])]⟩
    exact ⟨_, σ, σ, hC, hM, hI⟩
  · exact ⟨-2, σ, σ, by simp only [hx, Bool.false_eq_true, if_false], by simp only [hx, Bool.false_eq_true, if_false], hI⟩
