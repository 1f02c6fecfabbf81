/-! ===== loops that count up, as equations ===== -/
theorem lp2_acc {α A : Type} {f : (A → Int32 → Sg → Option α) → A → Int32 → Sg → Option α} {σ : Sg} (g : Nat → A → A) (N : Nat) (K : A → Option α)
    (hend : ∀ H a, f H a (nI N) σ = K a) (hstep : ∀ H i a, i < N → f H a (nI i) σ = H (g i a) (nI (i + 1)) σ) {n : Nat} (hn : N < n) (a : A) : e_lp2 f n a (nI 0) σ = K (fo g a N) := by
  have h := lp2_wp (f := f) (fun o => o = K (fo g a N)) (fun i b s => b = fo g a i ∧ s = σ) N (fun H b s h => by rw [h.2, hend, h.1])
    (fun H i b s hi h k => by rw [h.2, hstep H i b hi]; exact k _ _ ⟨by rw [h.1]; rfl, rfl⟩) n 0 a σ (Nat.zero_le _) (by omega) ⟨rfl, rfl⟩
  exact h
theorem lp1_st {α : Type} {f : (Int32 → Sg → Option α) → Int32 → Sg → Option α} (g : Nat → Sg → Sg) (N : Nat) (K : Sg → Option α) (I : Nat → Sg → Prop)
    (hend : ∀ H s, f H (nI N) s = K s) (hstep : ∀ H i s, i < N → I i s → f H (nI i) s = H (nI (i + 1)) (g i s) ∧ I (i + 1) (g i s)) {n : Nat} (hn : N < n) (σ : Sg) (h0 : I 0 σ) : e_lp1 f n (nI 0) σ = K (fo g σ N) := by
  have h := lp1_wp (f := f) (fun o => o = K (fo g σ N)) (fun i s => s = fo g σ i ∧ I i s) N (fun H s h => by rw [hend, h.1])
    (fun H i s hi h k => by rw [(hstep H i s hi h.2).1]; exact k _ ⟨by rw [h.1]; rfl, (hstep H i s hi h.2).2⟩) n 0 σ (Nat.zero_le _) (by omega) ⟨rfl, h0⟩
  exact h
theorem l_ge {N i : Nat} (hN : N < 2 ^ 31) (h : i < N) : ¬ (OfNat.ofNat N : Int32) ≤ nI i := x_ge h hN
theorem l_le {N : Nat} : (OfNat.ofNat N : Int32) ≤ nI N := by rw [x_lit]; exact Int32.le_refl _
theorem ge5 {i : Nat} (h : i < 5) : ¬ (5 : Int32) ≤ nI i := x_ge (n := 5) h (by decide)
theorem le5 : (5 : Int32) ≤ nI 5 := by decide
theorem ge6 {i : Nat} (h : i < 6) : ¬ (6 : Int32) ≤ nI i := x_ge (n := 6) h (by decide)
theorem le6 : (6 : Int32) ≤ nI 6 := by decide
theorem in5 {i : Nat} (h : i < 5) : k_in (nI i) 5 = true := x_in h (by decide)
theorem in6 {i : Nat} (h : i < 6) : k_in (nI i) 6 = true := x_in h (by decide)
theorem ix5 {i : Nat} (h : i < 5) : Int32.toNatClampNeg (nI i) = i := x_ix (by omega)
theorem ix6 {i : Nat} (h : i < 6) : Int32.toNatClampNeg (nI i) = i := x_ix (by omega)
/-! ===== five bits ===== -/
def bN (b : Bool) : Nat := if b then 1 else 0
def mk5 (b : Nat → Bool) : Nat := bN (b 0) + 2 * bN (b 1) + 4 * bN (b 2) + 8 * bN (b 3) + 16 * bN (b 4)
def cn5 (b : Nat → Bool) : Nat := bN (b 0) + bN (b 1) + bN (b 2) + bN (b 3) + bN (b 4)
theorem mk5_lt (b : Nat → Bool) : mk5 b < 32 := by
  unfold mk5 bN
  cases b 0 <;> cases b 1 <;> cases b 2 <;> cases b 3 <;> cases b 4 <;> decide
theorem cn5_le (b : Nat → Bool) : cn5 b ≤ 5 := by
  unfold cn5 bN
  cases b 0 <;> cases b 1 <;> cases b 2 <;> cases b 3 <;> cases b 4 <;> decide
theorem mk5_cong {a b : Nat → Bool} (h : ∀ i, i < 5 → a i = b i) : mk5 a = mk5 b := by
  unfold mk5
  rw [h 0 (by decide), h 1 (by decide), h 2 (by decide), h 3 (by decide), h 4 (by decide)]
theorem cn5_cong {a b : Nat → Bool} (h : ∀ i, i < 5 → a i = b i) : cn5 a = cn5 b := by
  unfold cn5
  rw [h 0 (by decide), h 1 (by decide), h 2 (by decide), h 3 (by decide), h 4 (by decide)]
theorem fo_or5 (b : Nat → Bool) : fo (fun i a => if b i then a ||| jsl 1 (nI i) else a) 0 5 = nI (mk5 b) := by
  simp only [fo, mk5, bN]
  cases b 0 <;> cases b 1 <;> cases b 2 <;> cases b 3 <;> cases b 4 <;> decide
theorem fo_or5' (b : Nat → Bool) : fo (fun i a => a ||| (if b i then jsl 1 (nI i) else 0)) 0 5 = nI (mk5 b) := by
  simp only [fo, mk5, bN]
  cases b 0 <;> cases b 1 <;> cases b 2 <;> cases b 3 <;> cases b 4 <;> decide
theorem fo_cn5 (b : Nat → Bool) : fo (fun i a => a + (if b i then 1 else 0)) (0 : Int32) 5 = nI (cn5 b) := by
  simp only [fo, cn5, bN]
  cases b 0 <;> cases b 1 <;> cases b 2 <;> cases b 3 <;> cases b 4 <;> decide
def bcI (x0 : Int32) : Int32 :=
  (fun v1 => (fun v2 => (fun v3 => (fun v4 => (fun v5 => v5 &&& 63) (v4 + jus v4 16)) (v3 + jus v3 8)) ((v2 + jus v2 4) &&& 252645135)) ((v1 &&& 858993459) + (jus v1 2 &&& 858993459))) (x0 - (jus x0 1 &&& 1431655765))
theorem q_bitCount {x : Int32} {σ : Sg} : m_J6_bitCount_0f7a4 x σ = some (bcI x, σ) := rfl
def btI (x : Int32) : Int32 := fo (fun i a => a + (jsr x (nI i) &&& 1)) 0 6
theorem q_bits {x : Int32} {σ : Sg} : m_X7_bits x σ = some (btI x, σ) := by
  unfold m_X7_bits btI
  exact lp2_acc (fun i a => a + (jsr x (nI i) &&& 1)) 6 (fun a => some (a, σ)) (fun H a => by simp only [d_X7_bits_4, le6, if_true]) (fun H i a hi => by simp only [d_X7_bits_4, ge6 hi, if_false, p_lt, x_s]) (e_F_lt (by decide)) 0
theorem bc_all : ∀ m, m < 64 → bcI (nI m) = btI (nI m) := by decide +kernel
theorem bc_mk5 (b : Nat → Bool) : bcI (nI (mk5 b)) = nI (cn5 b) := by
  simp only [mk5, cn5, bN]
  cases b 0 <;> cases b 1 <;> cases b 2 <;> cases b 3 <;> cases b 4 <;> decide +kernel
theorem bt_mk5 (b : Nat → Bool) : btI (nI (mk5 b)) = nI (cn5 b) := by
  rw [← bc_all _ (Nat.lt_of_lt_of_le (mk5_lt b) (by decide)), bc_mk5]
theorem tB_mk5 (b : Nat → Bool) {i : Nat} (hi : i < 5) : tB (nI (mk5 b)) (nI i) = b i := by
  have : i = 0 ∨ i = 1 ∨ i = 2 ∨ i = 3 ∨ i = 4 := by omega
  simp only [mk5, bN]
  rcases this with rfl | rfl | rfl | rfl | rfl <;> cases b 0 <;> cases b 1 <;> cases b 2 <;> cases b 3 <;> cases b 4 <;> decide +kernel
theorem tB_all : ∀ m, m < 32 → nI m = nI (mk5 (fun i => tB (nI m) (nI i))) := by decide +kernel
/-- a row of five truths under a mask -/
theorem mask_of {m : Nat} (h : m < 32) : ∃ b : Nat → Bool, nI m = nI (mk5 b) := ⟨_, tB_all m h⟩
theorem or_all : ∀ m, m < 32 → ∀ i, i < 5 → nI m ||| jsl 1 (nI i) = nI (mk5 (fun j => tB (nI m) (nI j) || decide (j = i))) := by decide +kernel
theorem cl_all : ∀ m, m < 32 → ∀ i, i < 5 → nI m &&& (jsl 1 (nI i) ^^^ (-1)) = nI (mk5 (fun j => tB (nI m) (nI j) && !decide (j = i))) := by decide +kernel
