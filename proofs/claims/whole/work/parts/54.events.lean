theorem dD_ff {b : Nat → Bool} {o : Nat → Nat} {x d : Nat → Int32} (h : ∀ i, b i = false) : ∀ i, dD b o x d i = d
  | 0 => rfl
  | i + 1 => by rw [dD_f (h i)]; exact dD_ff h i
theorem dD_b {b b' : Nat → Bool} {o : Nat → Nat} {x d : Nat → Int32} (h : ∀ i, b i = b' i) : dD b o x d = dD b' o x d := by
  rw [show b = b' from funext h]
theorem own_lt {σ : Sg} (w : Wf σ 15) {i : Nat} (hi : i < 5) (h : cnd (σ 15 0) (σ 16) (σ 23) i = true) : own (σ 16) (σ 23) i < 5 := by
  rcases wear_ok w i hi with e | ⟨c, hc, e⟩
  · simp only [Nat.reduceAdd] at e
    simp [cnd, e] at h
  · simp only [Nat.reduceAdd] at e
    obtain ⟨o, ho, eo, -⟩ := w.2.2.2.2.1 c hc
    simp only [Nat.reduceAdd] at eo
    simp only [own, e, ix5 hc, eo, ix5 ho]
    exact ho
theorem st1_ok {b : Nat → Bool} {st : Nat → Int32} {c : Nat} (h : ∃ n, n < 100 ∧ st c = nI n) : ∃ n, n < 100 ∧ st1 b st c = nI n := by
  obtain ⟨n, hn, e⟩ := h
  unfold st1
  split
  · rename_i q
    have : n ≠ 0 := fun z => by
      subst z
      rw [e] at q
      exact absurd q.2 (by decide)
    exact ⟨n - 1, by omega, by rw [e]; exact nI_sub (b := 1) (by omega)⟩
  · exact ⟨n, hn, e⟩
theorem Wf.st {σ s : Sg} (w : Wf σ 15) (h : ∀ c, c = 15 ∨ c = 16 ∨ (23 ≤ c ∧ c ≤ 28) → s c = σ c) (h2 : ∀ c, c < 5 → ∃ n, n < 100 ∧ s 22 c = nI n) : Wf s 15 := by
  unfold Wf at w ⊢
  rw [h 15 (by omega), h (15 + 1) (by omega), h (15 + 8) (by omega), h (15 + 9) (by omega), h (15 + 10) (by omega), h (15 + 11) (by omega), h (15 + 13) (by omega)]
  obtain ⟨w1, w2, w3, w4, w5, w6, w7⟩ := w
  exact ⟨w1, w2, w3, w4, w5, h2, w7⟩
theorem ev_dine {σ τ : Sg} (w : Wf σ 15) (h : NX σ 15 τ) : ∃ s t, m_X4_dine 15 σ = some s ∧ m_X7_course 0 τ = some t ∧ NX s 15 t ∧ Wf s 15 ∧ fD σ s ∧ fMo τ t := by
  obtain ⟨s, s1, s2, s3, s4, s5, s6⟩ := q_dine w
  obtain ⟨t, t1, t2, t3, t4, t5, t6⟩ := q_course w h (Or.inl ⟨rfl, rfl⟩)
  obtain ⟨n1, n2, n3, n4⟩ := h
  have ee : ∀ b : Nat → Bool, ∀ i, (decide ((0 : Int32) = 0) && b i) = b i := fun b i => by simp
  refine ⟨s, t, s1, t1, ⟨?_, ?_, ?_, fun i hi => ⟨?_, ?_, ?_, ?_, ?_, ?_, ?_⟩⟩, ?_, s2, t2⟩
  · rw [t2 100 (by decide) (by decide) (by decide) (by decide), s2 15 (by decide) (by decide) (by decide) (by decide) (by decide) (by decide) (by decide)]; exact n1
  · rw [t2 100 (by decide) (by decide) (by decide) (by decide), s2 15 (by decide) (by decide) (by decide) (by decide) (by decide) (by decide) (by decide)]; exact n2
  · rw [t2 100 (by decide) (by decide) (by decide) (by decide), s2 15 (by decide) (by decide) (by decide) (by decide) (by decide) (by decide) (by decide)]; exact n3
  · rw [t2 114 (by decide) (by decide) (by decide) (by decide), s2 (15 + 1) (by decide) (by decide) (by decide) (by decide) (by decide) (by decide) (by decide)]; exact (n4 i hi).1
  · rw [t3, show s (15 + 2) = s 17 from rfl, s3]
    exact dD_cong (fun r hr => (n4 r hr).2.1) (fun i hi _ => hi) 5 (Nat.le_refl 5) i hi
  · rw [t4, show s (15 + 3) = s 18 from rfl, s4, dD_b (ee _)]
    exact dD_cong (fun r hr => (n4 r hr).2.2.1) (fun i hi _ => hi) 5 (Nat.le_refl 5) i hi
  · rw [t5, show s (15 + 4) = s 19 from rfl, s5, dD_b (ee _)]
    exact dD_cong (fun r hr => (n4 r hr).2.2.2.1) (fun i hi q => own_lt w hi q) 5 (Nat.le_refl 5) i hi
  · rw [t6 i hi, show s (15 + 7) = s 22 from rfl, s6 i hi]
    have e := (n4 i hi).2.2.2.2.1
    simp only [Nat.reduceAdd] at e
    rw [show (fun c => decide ((0 : Int32) = 0) && wnb (σ 15 1) (σ 16) c) = wnb (σ 15 1) (σ 16) from funext (ee _)]
    unfold st1
    rw [e]
  · rw [t2 102 (by decide) (by decide) (by decide) (by decide), s2 (15 + 8) (by decide) (by decide) (by decide) (by decide) (by decide) (by decide) (by decide)]; exact (n4 i hi).2.2.2.2.2.1
  · rw [t2 105 (by decide) (by decide) (by decide) (by decide), s2 (15 + 11) (by decide) (by decide) (by decide) (by decide) (by decide) (by decide) (by decide)]; exact (n4 i hi).2.2.2.2.2.2
  · exact w.st (fun c hc => s2 c (by omega) (by omega) (by omega) (by omega) (by omega) (by omega) (by omega)) (fun c hc => by rw [s6 c hc]; exact st1_ok (w.2.2.2.2.2.1 c hc))
theorem ev_fast {σ τ : Sg} (w : Wf σ 15) (h : NX σ 15 τ) : ∃ s t, m_X4_fast 15 σ = some s ∧ m_X7_course 1 τ = some t ∧ NX s 15 t ∧ Wf s 15 ∧ fD σ s ∧ fMo τ t := by
  obtain ⟨s, s1, s2, s3⟩ := q_fast (σ := σ)
  obtain ⟨t, t1, t2, t3, t4, t5, t6⟩ := q_course w h (Or.inr ⟨rfl, rfl⟩)
  obtain ⟨n1, n2, n3, n4⟩ := h
  have n10 : ¬ (1 : Int32) = 0 := by decide
  have ee : ∀ b : Nat → Bool, ∀ i, (decide ((1 : Int32) = 0) && b i) = false := fun b i => by simp [n10]
  refine ⟨s, t, s1, t1, ⟨?_, ?_, ?_, fun i hi => ⟨?_, ?_, ?_, ?_, ?_, ?_, ?_⟩⟩, ?_, fun c a _ _ _ _ _ _ => s2 c a, t2⟩
  · rw [t2 100 (by decide) (by decide) (by decide) (by decide), s2 15 (by decide)]; exact n1
  · rw [t2 100 (by decide) (by decide) (by decide) (by decide), s2 15 (by decide)]; exact n2
  · rw [t2 100 (by decide) (by decide) (by decide) (by decide), s2 15 (by decide)]; exact n3
  · rw [t2 114 (by decide) (by decide) (by decide) (by decide), s2 (15 + 1) (by decide)]; exact (n4 i hi).1
  · rw [t3, show s (15 + 2) = s 17 from rfl, s3]
    exact dD_cong (fun r hr => (n4 r hr).2.1) (fun i hi _ => hi) 5 (Nat.le_refl 5) i hi
  · rw [t4, dD_ff (ee _), s2 (15 + 3) (by decide)]; exact (n4 i hi).2.2.1
  · rw [t5, dD_ff (ee _), s2 (15 + 4) (by decide)]; exact (n4 i hi).2.2.2.1
  · rw [t6 i hi, s2 (15 + 7) (by decide)]
    simp only [st1, ee, Bool.false_eq_true, false_and, if_false]
    exact (n4 i hi).2.2.2.2.1
  · rw [t2 102 (by decide) (by decide) (by decide) (by decide), s2 (15 + 8) (by decide)]; exact (n4 i hi).2.2.2.2.2.1
  · rw [t2 105 (by decide) (by decide) (by decide) (by decide), s2 (15 + 11) (by decide)]; exact (n4 i hi).2.2.2.2.2.2
  · exact w.st (fun c hc => s2 c (by omega)) (fun c hc => by rw [s2 22 (by decide)]; exact w.2.2.2.2.2.1 c hc)
/-! ===== coats that change hands ===== -/
theorem Wf.wr {σ : Sg} {f : Nat → Int32} (w : Wf σ 15) (h1 : ∀ p, p < 5 → f p = -1 ∨ ∃ c, c < 5 ∧ f p = nI c ∧ tB (σ 15 1) (nI c) = true ∧ tB (σ 15 0) (nI p) = true)
    (h2 : ∀ c, c < 5 → cn5 (fun i => decide (f i = nI c)) ≤ 1 + (if σ 26 c = 1 then 1 else 0)) : Wf (rw1 σ 16 f) 15 := by
  unfold Wf at w ⊢
  simp only [Nat.reduceAdd] at w ⊢
  simp (disch := decide) only [rw1_ne, rw1_eq]
  obtain ⟨w1, w2, w3, w4, w5, w6, w7, w8, w9, w10, w11⟩ := w
  exact ⟨w1, w2, w3, h1, w5, w6, w7, w8, w9, h2, w11⟩
theorem NX.wr {σ τ : Sg} {f g : Nat → Int32} (h : NX σ 15 τ) (hf : ∀ i, i < 5 → g i = mc (f i)) : NX (rw1 σ 16 f) 15 (rw1 τ 114 g) := by
  unfold NX at h ⊢
  simp only [Nat.reduceAdd] at h ⊢
  simp (disch := decide) only [rw1_ne, rw1_eq]
  obtain ⟨n1, n2, n3, n4⟩ := h
  exact ⟨n1, n2, n3, fun i hi => ⟨hf i hi, (n4 i hi).2⟩⟩
def wyT (P : Int32) (w : Nat → Int32) (p : Nat) : Int32 := if tB P (nI p) = true then (if w p = -1 then 2 else 0) else 1
def wyL (P : Int32) (w : Nat → Int32) (p q c : Nat) : Int32 := if tB P (nI p) = true then (if tB P (nI q) = true then (if p = q then 1 else if w p = nI c then (if w q = -1 then 0 else 3) else 2) else 1) else 1
def wyP (P C : Int32) (w ow ha : Nat → Int32) (p c : Nat) : Int32 := if tB P (nI p) = true then (if w p = -1 then (if tB C (nI c) = true then (if ow c = nI p then (if nI (cn5 (fun i => decide (w i = nI c))) ≤ ha c then 0 else 5) else 4) else 4) else 3) else 1
theorem q_takeOff {σ : Sg} {p : Nat} (hp : p < 5) : m_X4_takeOff 15 (nI p) σ = some (wyT (σ 15 0) (σ 16) p, if wyT (σ 15 0) (σ 16) p = 0 then rw1 σ 16 (upd (σ 16) p (-1)) else σ) := by
  unfold m_X4_takeOff m_X4_whyNotTakeOff wyT
  simp only [q_hasPerson, hB_tB hp, p_cI, p_ifz, p_gd (in5 hp), p_wr (in5 hp), ix5 hp, Nat.reduceAdd]
  have n20 : ¬ (2 : Int32) = 0 := by decide
  have n10 : ¬ (1 : Int32) = 0 := by decide
  by_cases h : tB (σ 15 0) (nI p) = true
  · by_cases e : σ 16 p = -1
    · simp only [h, e, if_true, p_cI, n20, if_false]
    · simp only [h, e, if_true, p_cI, if_false, up_rw]
  · simp only [h, Bool.false_eq_true, if_false, p_cI, n10]
theorem q_lend {σ : Sg} {p q c : Nat} (hp : p < 5) (hq : q < 5) : m_X4_lend 15 (nI p) (nI q) (nI c) σ = some (wyL (σ 15 0) (σ 16) p q c, if wyL (σ 15 0) (σ 16) p q c = 0 then rw1 σ 16 (upd (upd (σ 16) p (-1)) q (nI c)) else σ) := by
  unfold m_X4_lend m_X4_whyNotLend wyL
  simp only [q_hasPerson, hB_tB hp, hB_tB hq, p_cI, p_ifz, p_gd (in5 hp), p_gd (in5 hq), p_wr (in5 hp), p_wr (in5 hq), ix5 hp, ix5 hq, Nat.reduceAdd, nI_inj5 hp hq]
  have n20 : ¬ (2 : Int32) = 0 := by decide
  have n10 : ¬ (1 : Int32) = 0 := by decide
  have n30 : ¬ (3 : Int32) = 0 := by decide
  by_cases h : tB (σ 15 0) (nI p) = true
  · by_cases h2 : tB (σ 15 0) (nI q) = true
    · by_cases e : p = q
      · simp only [h2, e, if_true, p_cI, n10, if_false]
      · by_cases e2 : σ 16 p = nI c
        · by_cases e3 : σ 16 q = -1
          · simp only [h, h2, e, e2, e3, if_true, p_cI, if_false, up_rw, rw1_eq, rw1_rw1]
          · simp only [h, h2, e, e2, e3, if_true, p_cI, if_false, n30]
        · simp only [h, h2, e, e2, if_true, p_cI, if_false, n20]
    · simp only [h, h2, Bool.false_eq_true, if_true, if_false, p_cI, n10]
  · simp only [h, Bool.false_eq_true, if_false, p_cI, n10]
theorem le_1 {n h : Nat} (hn : n ≤ 5) (hh : h ≤ 1) : (1 + nI h ≤ nI n) ↔ ¬ nI n ≤ nI h := by
  have : (1 : Int32) + nI h = nI (1 + h) := nI_ad 1 h
  rw [this, nI_leI (by omega) (by omega), nI_leI (by omega) (by omega)]
  omega
theorem ha_ok {x : Int32} (h : x = 0 ∨ x = 1) : ∃ n, n ≤ 1 ∧ x = nI n := by
  rcases h with rfl | rfl
  · exact ⟨0, by omega, rfl⟩
  · exact ⟨1, by omega, rfl⟩
theorem q_putOn {σ : Sg} {p c : Nat} (hp : p < 5) (hc : c < 5) (hh : σ 26 c = 0 ∨ σ 26 c = 1) : m_X4_putOn 15 (nI p) (nI c) σ = some (wyP (σ 15 0) (σ 15 1) (σ 16) (σ 23) (σ 26) p c, if wyP (σ 15 0) (σ 15 1) (σ 16) (σ 23) (σ 26) p c = 0 then rw1 σ 16 (upd (σ 16) p (nI c)) else σ) := by
  unfold m_X4_putOn m_X4_whyNotPutOn wyP
  obtain ⟨n, hn, en⟩ := ha_ok hh
  have hl := le_1 (n := cn5 (fun i => decide (σ 16 i = nI c))) (cn5_le _) hn
  simp only [q_hasPerson, q_hasCoat, hB_tB hp, hB_tB hc, p_cI, p_ifz, p_gd (in5 hp), p_gd (in5 hc), p_wr (in5 hp), ix5 hp, ix5 hc, Nat.reduceAdd, q_wearers, q_bitCount, bc_mk5, en, hl]
  have n50 : ¬ (5 : Int32) = 0 := by decide
  have n10 : ¬ (1 : Int32) = 0 := by decide
  have n30 : ¬ (3 : Int32) = 0 := by decide
  have n40 : ¬ (4 : Int32) = 0 := by decide
  by_cases h : tB (σ 15 0) (nI p) = true
  · by_cases e : σ 16 p = -1
    · by_cases h2 : tB (σ 15 1) (nI c) = true
      · by_cases e2 : σ 23 c = nI p
        · by_cases e3 : nI (cn5 (fun i => decide (σ 16 i = nI c))) ≤ nI n
          · simp only [h, e, h2, e2, e3, if_true, p_cI, not_true, if_false, up_rw]
          · simp only [h, e, h2, e2, e3, if_true, p_cI, not_false_eq_true, if_false, n50]
        · simp only [h, e, h2, e2, if_true, if_false, p_cI, n40]
      · simp only [h, e, h2, Bool.false_eq_true, if_true, if_false, p_cI, n40]
    · simp only [h, e, if_true, if_false, p_cI, n30]
  · simp only [h, Bool.false_eq_true, if_false, p_cI, n10]
