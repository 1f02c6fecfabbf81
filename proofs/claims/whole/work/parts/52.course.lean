/-! ===== the reference's course ===== -/
def pck (b : Nat → Bool) (q : Nat → Nat) : Nat → Nat
  | 0 => 0
  | i + 1 => pck b q i + (if b i = true then q i * 16 ^ i else 0)
theorem pck_lt {b : Nat → Bool} {q : Nat → Nat} (h : ∀ i, q i ≤ 5) : ∀ i, pck b q i < 16 ^ i
  | 0 => Nat.zero_lt_one
  | i + 1 => by
    have ih := pck_lt (b := b) h i
    have hq := h i
    have h2 : q i * 16 ^ i ≤ 5 * 16 ^ i := Nat.mul_le_mul_right _ hq
    simp only [pck, Nat.pow_succ]
    split <;> omega
theorem pck_or {b : Nat → Bool} {q : Nat → Nat} (h : ∀ i, q i ≤ 5) {i : Nat} (hi : i < 5) (hb : b i = true) : nI (pck b q i) ||| jsl (nI (q i)) (4 * nI i) = nI (pck b q (i + 1)) := by
  have e4 : (4 : Int32) * nI i = nI (4 * i) := (Int32.ofNat_mul 4 i).symm
  rw [e4, jsl_nI (by omega), nI_or]
  congr 1
  have e16 : 2 ^ (4 * i) = 16 ^ i := by rw [Nat.pow_mul]
  have hl := pck_lt (b := b) h i
  rw [← e16] at hl
  rw [Nat.or_comm, Nat.mul_comm, ← Nat.two_pow_add_eq_or_of_lt hl]
  simp only [pck, hb, if_true, e16]
  rw [Nat.mul_comm (q i)]
  omega
theorem pck_f {b : Nat → Bool} {q : Nat → Nat} {i : Nat} (hb : b i = false) : nI (pck b q i) ||| 0 = nI (pck b q (i + 1)) := by
  simp [pck, hb]
theorem pck_at {b : Nat → Bool} {q : Nat → Nat} (h : ∀ i, q i ≤ 5) {i : Nat} (hi : i < 5) (hb : b i = true) : jsr (nI (pck b q 5)) (4 * nI i) &&& 15 = nI (q i) := by
  have e4 : (4 : Int32) * nI i = nI (4 * i) := (Int32.ofNat_mul 4 i).symm
  have hl := pck_lt (b := b) h 5
  have e15 : (15 : Int32) = nI 15 := rfl
  rw [e4, jsr_nI (by omega) (by omega), e15, nI_and]
  congr 1
  have := Nat.and_two_pow_sub_one_eq_mod (pck b q 5 / 2 ^ (4 * i)) 4
  simp only [Nat.reducePow, Nat.reduceSub] at this
  rw [this]
  have h0 := h 0; have h1 := h 1; have h2 := h 2; have h3 := h 3; have h4 := h 4
  have h5 : i = 0 ∨ i = 1 ∨ i = 2 ∨ i = 3 ∨ i = 4 := by omega
  have gz : ∀ j, (if b j = true then q j * 16 ^ j else 0) = (if b j = true then q j else 0) * 16 ^ j := fun j => by split <;> simp
  have gl : ∀ j, (if b j = true then q j else 0) ≤ 5 := fun j => by split; exact h j; omega
  have g0 := gl 0; have g1 := gl 1; have g2 := gl 2; have g3 := gl 3; have g4 := gl 4
  have gi : (if b i = true then q i else 0) = q i := by simp [hb]
  simp only [pck, gz]
  rw [← gi]
  rcases h5 with rfl | rfl | rfl | rfl | rfl
  all_goals
    simp only [Nat.reduceMul, Nat.reducePow]
    omega
def wbf (P : Int32) (w : Nat → Int32) : Nat → Nat → Bool
  | 0, _ => false
  | i + 1, c => wbf P w i c || (tB P (nI i) && decide (w i = nI c))
theorem mk5_z (b : Nat → Bool) : nI (mk5 b) = 0 ↔ (b 0 || b 1 || b 2 || b 3 || b 4) = false := by
  simp only [mk5, bN]
  cases b 0 <;> cases b 1 <;> cases b 2 <;> cases b 3 <;> cases b 4 <;> decide
theorem wbf_5 {σ : Sg} (w : Wf σ 15) {c : Nat} (hc : c < 5) : wbf (σ 15 0) (σ 16) 5 c = wnb (σ 15 1) (σ 16) c := by
  have hp : ∀ p, p < 5 → (tB (σ 15 0) (nI p) && decide (σ 16 p = nI c)) = decide (σ 16 p = nI c) := fun p hp => by
    by_cases e : σ 16 p = nI c
    · rcases w.2.2.2.1 p hp with q | ⟨c', h1, h2, h3, h4⟩
      · simp only [Nat.reduceAdd] at q
        rw [e] at q
        exact absurd q.symm (m1_c hc)
      · simp [h4]
    · simp [e]
  have hcc : ∀ p, p < 5 → σ 16 p = nI c → tB (σ 15 1) (nI c) = true := fun p hp e => by
    rcases w.2.2.2.1 p hp with q | ⟨c', h1, h2, h3, h4⟩
    · simp only [Nat.reduceAdd] at q
      rw [e] at q
      exact absurd q.symm (m1_c hc)
    · simp only [Nat.reduceAdd] at h2
      rw [e] at h2
      rw [h2]; exact h3
  have e1 : wbf (σ 15 0) (σ 16) 5 c = (decide (σ 16 0 = nI c) || decide (σ 16 1 = nI c) || decide (σ 16 2 = nI c) || decide (σ 16 3 = nI c) || decide (σ 16 4 = nI c)) := by
    simp only [wbf, hp 0 (by decide), hp 1 (by decide), hp 2 (by decide), hp 3 (by decide), hp 4 (by decide), Bool.false_or]
  have e2 : decide (nI (mk5 (fun i => decide (σ 16 i = nI c))) = 0) = !(decide (σ 16 0 = nI c) || decide (σ 16 1 = nI c) || decide (σ 16 2 = nI c) || decide (σ 16 3 = nI c) || decide (σ 16 4 = nI c)) := by
    have z := mk5_z (fun i => decide (σ 16 i = nI c))
    by_cases q : nI (mk5 (fun i => decide (σ 16 i = nI c))) = 0
    · rw [decide_eq_true q, z.mp q]; rfl
    · rw [decide_eq_false q, show (decide (σ 16 0 = nI c) || decide (σ 16 1 = nI c) || decide (σ 16 2 = nI c) || decide (σ 16 3 = nI c) || decide (σ 16 4 = nI c)) = true from by
        cases e : (decide (σ 16 0 = nI c) || decide (σ 16 1 = nI c) || decide (σ 16 2 = nI c) || decide (σ 16 3 = nI c) || decide (σ 16 4 = nI c))
        · exact absurd (z.mpr e) q
        · rfl]
      rfl
  rw [e1]
  unfold wnb
  rw [e2, Bool.not_not]
  by_cases h : tB (σ 15 1) (nI c) = true
  · rw [h]; rfl
  · have hn : ∀ p, p < 5 → decide (σ 16 p = nI c) = false := fun p hp => decide_eq_false (fun e => h (hcc p hp e))
    rw [hn 0 (by decide), hn 1 (by decide), hn 2 (by decide), hn 3 (by decide), hn 4 (by decide)]
    simp
theorem wbf_or {P : Int32} {w : Nat → Int32} {i c : Nat} (hi : tB P (nI i) = true) (hc : c < 5) (e : w i = nI c) : nI (mk5 (wbf P w i)) ||| jsl 1 (nI c) = nI (mk5 (wbf P w (i + 1))) := by
  rw [or_all _ (mk5_lt _) c hc]
  congr 1
  refine mk5_cong (fun j hj => ?_)
  rw [tB_mk5 _ hj]
  simp only [wbf, hi, Bool.true_and, e]
  congr 1
  by_cases q : j = c
  · subst q; simp
  · have : ¬ nI c = nI j := fun h => q ((nI_inj5 hj hc).mp h.symm)
    simp [q, this]
theorem wbf_n {P : Int32} {w : Nat → Int32} {i : Nat} (h : tB P (nI i) = false ∨ w i = -1) : mk5 (wbf P w (i + 1)) = mk5 (wbf P w i) := by
  refine mk5_cong (fun j hj => ?_)
  rcases h with h | h
  · simp [wbf, h]
  · have : ¬ (-1 : Int32) = nI j := m1_c hj
    simp [wbf, h, this]
