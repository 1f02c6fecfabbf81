/-! ===== one event of a feast, on both sides ===== -/
def fF (σ s : Sg) : Prop := ∀ c, c ≠ 16 → c ≠ 17 → c ≠ 18 → c ≠ 19 → c ≠ 22 → c ≠ 61 → c ≠ 62 → c ≠ 63 → c ≠ 64 → s c = σ c
def fG (τ t : Sg) : Prop := (∀ c, c < 100 ∨ (101 ≤ c ∧ c ≤ 113) ∨ 119 ≤ c → t c = τ c) ∧ ∀ j, j ≠ 24 → j ≠ 25 → t 100 j = τ 100 j
theorem fF.tr {a b c : Sg} (h : fF a b) (g : fF b c) : fF a c := fun x h1 h2 h3 h4 h5 h6 h7 h8 h9 => (g x h1 h2 h3 h4 h5 h6 h7 h8 h9).trans (h x h1 h2 h3 h4 h5 h6 h7 h8 h9)
theorem fG.tr {a b c : Sg} (h : fG a b) (g : fG b c) : fG a c := ⟨fun x hx => (g.1 x hx).trans (h.1 x hx), fun j h1 h2 => (g.2 j h1 h2).trans (h.2 j h1 h2)⟩
theorem fF.cS {σ s : Sg} (h : fF σ s) : cS σ s := fun c hc => h c (by omega) (by omega) (by omega) (by omega) (by omega) (by omega) (by omega) (by omega) (by omega)
theorem fG.mS {τ t : Sg} (h : fG τ t) : mS τ t := ⟨fun c hc => h.1 c (by omega), fun j hj => h.2 j (by omega) (by omega)⟩
theorem fG.up {τ t : Sg} {j : Nat} {v : Int32} (h : fG τ t) (hj : j = 24 ∨ j = 25) : fG τ (k_up t 100 j v) := ⟨fun c hc => by rw [up_rw, rw1_ne (by omega)]; exact h.1 c hc, fun i h1 h2 => by rw [up_rw, rw1_eq, upd_n (by omega)]; exact h.2 i h1 h2⟩
theorem fF.up {σ s : Sg} {j : Nat} {v : Int32} (h : fF σ s) : fF σ (k_up s 64 j v) := fun c h1 h2 h3 h4 h5 h6 h7 h8 h9 => by rw [up_rw, rw1_ne h9]; exact h c h1 h2 h3 h4 h5 h6 h7 h8 h9
theorem NX.up {σ τ : Sg} {a b : Nat} {x : Int32} (h : NX σ 15 τ) (hb : b = 24 ∨ b = 25) : NX σ 15 (k_up τ 100 b x) := by
  unfold NX at h ⊢
  simp only [up_rw, rw1_eq]
  simp (disch := omega) only [upd_n]
  simp (disch := decide) only [rw1_ne]
  exact h
theorem NX.up64 {σ τ : Sg} {a : Nat} {x : Int32} (h : NX σ 15 τ) : NX (k_up σ 64 a x) 15 τ := by
  unfold NX at h ⊢
  simp only [up_rw, Nat.reduceAdd] at h ⊢
  simp (disch := decide) only [rw1_ne]
  exact h
theorem Wf.up64 {σ : Sg} {a : Nat} {x : Int32} (h : Wf σ 15) : Wf (k_up σ 64 a x) 15 := h.ext (fun c _ _ => by rw [up_rw, rw1_ne (by omega)])
theorem per_ix {x : Int32} (h : inB x 65 69 = true) : ∃ p, p < 5 ∧ x - 65 = nI p ∧ x = nI (65 + p) := by
  have h' := of_decide_eq_true h
  have a := Int32.le_iff_toInt_le.mp h'.1
  have b := Int32.le_iff_toInt_le.mp h'.2
  have e0 : (0 : Int32).toInt = 0 := by decide
  have e1 : (65 : Int32).toInt = 65 := by decide
  have e2 : (69 : Int32).toInt = 69 := by decide
  obtain ⟨j, hj, rfl⟩ := nI_of2 (M := 69) (n := 69) (by decide) (by rw [Int32.lt_iff_toInt_lt, e0]; omega) h'.2
  have hj2 : 65 ≤ j := by rw [nI_toInt (by omega)] at a; omega
  exact ⟨j - 65, by omega, nI_sub (a := j) (b := 65) hj2, by congr 1; omega⟩
theorem coat_ix {x : Int32} (h : inB x 97 101 = true) : ∃ c, c < 5 ∧ x - 97 = nI c ∧ x = nI (97 + c) := by
  have h' := of_decide_eq_true h
  have a := Int32.le_iff_toInt_le.mp h'.1
  have b := Int32.le_iff_toInt_le.mp h'.2
  have e0 : (0 : Int32).toInt = 0 := by decide
  have e1 : (97 : Int32).toInt = 97 := by decide
  have e2 : (101 : Int32).toInt = 101 := by decide
  obtain ⟨j, hj, rfl⟩ := nI_of2 (M := 101) (n := 101) (by decide) (by rw [Int32.lt_iff_toInt_lt, e0]; omega) h'.2
  have hj2 : 97 ≤ j := by rw [nI_toInt (by omega)] at a; omega
  exact ⟨j - 97, by omega, nI_sub (a := j) (b := 97) hj2, by congr 1; omega⟩
