/-! ===== what holds between the calls ===== -/
def Wf (σ : Sg) (k : Nat) : Prop :=
  (∃ m, m < 32 ∧ σ k 0 = nI m) ∧ (∃ m, m < 32 ∧ σ k 1 = nI m) ∧ (∃ n, n ≤ 6 ∧ σ k 3 = nI n) ∧
  (∀ p, p < 5 → σ (k + 1) p = -1 ∨ ∃ c, c < 5 ∧ σ (k + 1) p = nI c ∧ tB (σ k 1) (nI c) = true ∧ tB (σ k 0) (nI p) = true) ∧
  (∀ c, c < 5 → ∃ o, o < 5 ∧ σ (k + 8) c = nI o ∧ (tB (σ k 1) (nI c) = true → tB (σ k 0) (nI o) = true)) ∧
  (∀ c, c < 5 → ∃ n, n < 100 ∧ σ (k + 7) c = nI n) ∧ (∀ c, c < 5 → ∃ n, n < 100 ∧ σ (k + 9) c = nI n) ∧ (∀ c, c < 5 → ∃ n, n ≤ 10 ∧ σ (k + 10) c = nI n) ∧
  (∀ c, c < 5 → σ (k + 11) c = 0 ∨ σ (k + 11) c = 1) ∧
  (∀ c, c < 5 → cn5 (fun i => decide (σ (k + 1) i = nI c)) ≤ 1 + (if σ (k + 11) c = 1 then 1 else 0)) ∧
  (∀ r, r < 6 → ∃ n, n < 5 ∧ σ (k + 13) r = nI n)
def RlM (σ : Sg) : Prop := σ 100 0 = σ 1 0 ∧ σ 100 1 = σ 1 1 ∧ σ 100 7 = σ 1 2 ∧ σ 100 14 = σ 1 3 ∧
  (∀ r, r < 5 → σ 106 r = mc (σ 2 r) ∧ σ 107 r = σ 3 r ∧ σ 108 r = σ 4 r ∧ σ 109 r = σ 5 r ∧ σ 110 r = σ 6 r ∧ σ 111 r = σ 7 r ∧ σ 101 r = σ 8 r ∧ σ 102 r = σ 9 r ∧ σ 103 r = σ 10 r ∧ σ 104 r = σ 11 r ∧ σ 105 r = σ 12 r) ∧
  ∀ r, r < 6 → σ 112 (2 * r) = σ 13 r ∧ σ 112 (2 * r + 1) = σ 14 r
def RlI (σ : Sg) (n : Nat) : Prop := σ 121 (100 * n + 70) = σ (29 + 14 * n) 0 ∧ σ 121 (100 * n + 71) = σ (29 + 14 * n) 1 ∧ σ 121 (100 * n + 72) = σ (29 + 14 * n) 2 ∧ σ 121 (100 * n + 73) = σ (29 + 14 * n) 3 ∧
  (∀ r, r < 5 → σ 121 (100 * n + 25 + r) = mc (σ (29 + 14 * n + 1) r) ∧ σ 121 (100 * n + 30 + r) = σ (29 + 14 * n + 2) r ∧ σ 121 (100 * n + 35 + r) = σ (29 + 14 * n + 3) r ∧ σ 121 (100 * n + 40 + r) = σ (29 + 14 * n + 4) r ∧ σ 121 (100 * n + 45 + r) = σ (29 + 14 * n + 5) r ∧ σ 121 (100 * n + 50 + r) = σ (29 + 14 * n + 6) r ∧ σ 121 (100 * n + r) = σ (29 + 14 * n + 7) r ∧ σ 121 (100 * n + 5 + r) = σ (29 + 14 * n + 8) r ∧ σ 121 (100 * n + 10 + r) = σ (29 + 14 * n + 9) r ∧ σ 121 (100 * n + 15 + r) = σ (29 + 14 * n + 10) r ∧ σ 121 (100 * n + 20 + r) = σ (29 + 14 * n + 11) r) ∧
  ∀ r, r < 6 → σ 121 (100 * n + 55 + 2 * r) = σ (29 + 14 * n + 12) r ∧ σ 121 (100 * n + 55 + (2 * r + 1)) = σ (29 + 14 * n + 13) r
def Pd (σ : Sg) : Prop := (∃ n, n ≤ 60 ∧ σ 58 1 = nI n ∧ σ 100 16 = nI n) ∧ ∀ i, i < 60 → σ 113 i = σ 59 i
def Im (σ : Sg) : Prop := ∀ n, n < 2 → σ 122 n = σ 57 n ∧ (σ 57 n = 0 ∨ (σ 57 n = 1 ∧ Wf σ (29 + 14 * n) ∧ RlI σ n))
def Inv (σ : Sg) : Prop := Wf σ 1 ∧ RlM σ ∧ Pd σ ∧ Im σ
theorem Wf.ext {σ s : Sg} {k : Nat} (h : ∀ c, k ≤ c → c ≤ k + 13 → s c = σ c) (w : Wf σ k) : Wf s k := by
  unfold Wf at w ⊢
  rw [h k (by omega) (by omega), h (k + 1) (by omega) (by omega), h (k + 7) (by omega) (by omega), h (k + 8) (by omega) (by omega), h (k + 9) (by omega) (by omega), h (k + 10) (by omega) (by omega), h (k + 11) (by omega) (by omega), h (k + 13) (by omega) (by omega)]
  exact w
theorem RlI.ext {σ s : Sg} {n : Nat} (h1 : s 121 = σ 121) (h : ∀ c, 29 + 14 * n ≤ c → c ≤ 29 + 14 * n + 13 → s c = σ c) (w : RlI σ n) : RlI s n := by
  unfold RlI at w ⊢
  have h' : ∀ j, j ≤ 13 → s (29 + 14 * n + j) = σ (29 + 14 * n + j) := fun j hj => h _ (by omega) (by omega)
  have h0 : s (29 + 14 * n) = σ (29 + 14 * n) := h _ (by omega) (by omega)
  simp only [h1, h0, h' 1 (by decide), h' 2 (by decide), h' 3 (by decide), h' 4 (by decide), h' 5 (by decide), h' 6 (by decide), h' 7 (by decide), h' 8 (by decide), h' 9 (by decide), h' 10 (by decide), h' 11 (by decide), h' 12 (by decide), h' 13 (by decide)]
  exact w
theorem Im.ext {σ s : Sg} (h1 : s 121 = σ 121) (h2 : s 122 = σ 122) (h : ∀ c, 29 ≤ c → c ≤ 57 → s c = σ c) (w : Im σ) : Im s := by
  intro n hn
  obtain ⟨a, b⟩ := w n hn
  rw [h2, h 57 (by decide) (by decide)]
  refine ⟨a, ?_⟩
  rcases b with b | ⟨b1, b2, b3⟩
  · exact Or.inl b
  · exact Or.inr ⟨b1, b2.ext (fun c c1 c2 => h c (by omega) (by omega)), b3.ext h1 (fun c c1 c2 => h c (by omega) (by omega))⟩
theorem Pd.ext {σ s : Sg} (h1 : s 58 = σ 58) (h2 : s 59 = σ 59) (h3 : s 113 = σ 113) (h4 : s 100 16 = σ 100 16) (w : Pd σ) : Pd s := by
  unfold Pd at w ⊢
  rw [h1, h2, h3, h4]
  exact w
theorem RlM.ext {σ s : Sg} (h : ∀ c, 1 ≤ c → c ≤ 14 → s c = σ c) (h' : ∀ c, 101 ≤ c → c ≤ 112 → s c = σ c) (h0 : s 100 0 = σ 100 0) (h1 : s 100 1 = σ 100 1) (h2 : s 100 7 = σ 100 7) (h3 : s 100 14 = σ 100 14) (w : RlM σ) : RlM s := by
  unfold RlM at w ⊢
  rw [h0, h1, h2, h3, h 1 (by decide) (by decide), h 2 (by decide) (by decide), h 3 (by decide) (by decide), h 4 (by decide) (by decide), h 5 (by decide) (by decide), h 6 (by decide) (by decide), h 7 (by decide) (by decide), h 8 (by decide) (by decide), h 9 (by decide) (by decide), h 10 (by decide) (by decide), h 11 (by decide) (by decide), h 12 (by decide) (by decide), h 13 (by decide) (by decide), h 14 (by decide) (by decide),
    h' 101 (by decide) (by decide), h' 102 (by decide) (by decide), h' 103 (by decide) (by decide), h' 104 (by decide) (by decide), h' 105 (by decide) (by decide), h' 106 (by decide) (by decide), h' 107 (by decide) (by decide), h' 108 (by decide) (by decide), h' 109 (by decide) (by decide), h' 110 (by decide) (by decide), h' 111 (by decide) (by decide), h' 112 (by decide) (by decide)]
  exact w
/-- the kept rows are the same -/
def Ps (σ s : Sg) : Prop := (∀ c, (1 ≤ c ∧ c ≤ 14) ∨ (29 ≤ c ∧ c ≤ 59) ∨ (101 ≤ c ∧ c ≤ 113) ∨ c = 121 ∨ c = 122 → s c = σ c) ∧ s 100 0 = σ 100 0 ∧ s 100 1 = σ 100 1 ∧ s 100 7 = σ 100 7 ∧ s 100 14 = σ 100 14 ∧ s 100 16 = σ 100 16
theorem Ps.rf (σ : Sg) : Ps σ σ := ⟨fun _ _ => rfl, rfl, rfl, rfl, rfl, rfl⟩
theorem Ps.tr {a b c : Sg} (h : Ps a b) (g : Ps b c) : Ps a c := by
  obtain ⟨h0, h1, h2, h3, h4, h5⟩ := h
  obtain ⟨g0, g1, g2, g3, g4, g5⟩ := g
  exact ⟨fun c hc => (g0 c hc).trans (h0 c hc), g1.trans h1, g2.trans h2, g3.trans h3, g4.trans h4, g5.trans h5⟩
theorem Inv.ps {σ s : Sg} (h : Ps σ s) (w : Inv σ) : Inv s := by
  obtain ⟨h0, h1, h2, h3, h4, h5⟩ := h
  obtain ⟨w1, w2, w3, w4⟩ := w
  exact ⟨w1.ext (fun c a b => h0 c (by omega)), w2.ext (fun c a b => h0 c (by omega)) (fun c a b => h0 c (by omega)) h1 h2 h3 h4, w3.ext (h0 58 (by omega)) (h0 59 (by omega)) (h0 113 (by omega)) h5, w4.ext (h0 121 (by omega)) (h0 122 (by omega)) (fun c a b => h0 c (by omega))⟩
def SimI (f g : Sg → Option (Int32 × Sg)) : Prop := ∀ σ, Inv σ → ∃ r s1 s2, f σ = some (r, s1) ∧ g s1 = some (r, s2) ∧ Inv s2
def SimJ (f g : Sg → Option (Int64 × Sg)) : Prop := ∀ σ, Inv σ → ∃ r s1 s2, f σ = some (r, s1) ∧ g s1 = some (r, s2) ∧ Inv s2
/-! ===== the calls that only set a number ===== -/
theorem s_isCap {x : Int32} {σ : Sg} : m_X6_isCap x σ = some (zI (inB x 1 99), σ) := by
  unfold m_X6_isCap inB
  by_cases h1 : x < 1
  · have : ¬ 1 ≤ x := by rw [i_nle]; exact h1
    simp [h1, this, e_rz, zI]
  · have h1' : 1 ≤ x := i_nlt.mp h1
    by_cases h2 : 99 < x
    · have : ¬ x ≤ 99 := by rw [i_nle]; exact h2
      simp [h1, h2, this, e_rz, zI]
    · have h2' : x ≤ 99 := i_nlt.mp h2
      simp [h1, h1', h2, h2', e_rz, zI]
theorem op_cap (x : Int32) : SimI (m_X6_cap x) (m_X7_cap x) := by
  intro σ hI
  obtain ⟨w1, w2, w3, w4⟩ := id hI
  unfold m_X6_cap m_X7_cap
  simp only [s_isCap, q_in, p_cI, p_ifz, p_lt]
  cases inB x 1 99
  · exact ⟨_, _, _, rfl, rfl, hI⟩
  · refine ⟨_, _, k_up (k_up σ 1 2 x) 100 7 x, rfl, ?_, ?_⟩
    · simp [k_up, w2.2.2.1]
    · refine ⟨?_, ?_, w3.ext (by simp [k_up]) (by simp [k_up]) (by simp [k_up]) (by simp [k_up, upd]), w4.ext (by simp [k_up]) (by simp [k_up]) (fun c a b => by simp [k_up, show c ≠ 100 by omega, show c ≠ 1 by omega])⟩
      · unfold Wf at w1 ⊢
        simpa [k_up, upd] using w1
      · unfold RlM at w2 ⊢
        simpa [k_up, upd] using ⟨w2.1, w2.2.1, w2.2.2.2⟩
theorem op_wipe : SimI m_X6_wipe m_X7_wipe := by
  intro σ hI
  obtain ⟨w1, w2, w3, w4⟩ := id hI
  unfold m_X6_wipe m_X7_wipe m_X1_clear
  simp only [p_cI, p_lt]
  obtain ⟨⟨n, hn, e1, e2⟩, e3⟩ := w3
  refine ⟨_, _, k_up (k_up σ 58 1 0) 100 16 0, rfl, ?_, ?_⟩
  · simp [k_up, e1, e2]
  · refine ⟨w1.ext (fun c a b => by simp [k_up, show c ≠ 100 by omega, show c ≠ 58 by omega]), w2.ext (fun c a b => by simp [k_up, show c ≠ 100 by omega, show c ≠ 58 by omega]) (fun c a b => by simp [k_up, show c ≠ 100 by omega, show c ≠ 58 by omega]) (by simp [k_up, upd]) (by simp [k_up, upd]) (by simp [k_up, upd]) (by simp [k_up, upd]), ⟨⟨0, by omega, by simp [k_up, upd]; rfl, by simp [k_up, upd]; rfl⟩, fun i hi => by simpa [k_up] using e3 i hi⟩, w4.ext (by simp [k_up]) (by simp [k_up]) (fun c a b => by simp [k_up, show c ≠ 100 by omega, show c ≠ 58 by omega])⟩
theorem op_forget : SimI m_X6_forget m_X7_forget := by
  intro σ hI
  obtain ⟨w1, w2, w3, w4⟩ := id hI
  unfold m_X6_forget m_X7_forget
  simp only [p_lt]
  refine ⟨_, _, k_up (k_up σ 1 3 0) 100 14 0, rfl, ?_, ?_⟩
  · simp [k_up, w2.2.2.2.1]
  · refine ⟨?_, ?_, w3.ext (by simp [k_up]) (by simp [k_up]) (by simp [k_up]) (by simp [k_up, upd]), w4.ext (by simp [k_up]) (by simp [k_up]) (fun c a b => by simp [k_up, show c ≠ 100 by omega, show c ≠ 1 by omega])⟩
    · unfold Wf at w1 ⊢
      obtain ⟨a1, a2, a3, a4⟩ := w1
      refine ⟨by simpa [k_up, upd] using a1, by simpa [k_up, upd] using a2, ⟨0, by omega, by simp [k_up, upd]; rfl⟩, ?_⟩
      simpa [k_up, upd] using a4
    · unfold RlM at w2 ⊢
      simpa [k_up, upd] using ⟨w2.1, w2.2.1, w2.2.2.1, w2.2.2.2.2⟩
