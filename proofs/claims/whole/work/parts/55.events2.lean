theorem mc_5 {x : Int32} (h : x = -1 ∨ ∃ c, c < 5 ∧ x = nI c) : (mc x = 5 ↔ x = -1) ∧ (5 ≤ mc x ↔ x = -1) := by
  rcases h with rfl | ⟨c, hc, rfl⟩
  · decide
  · rw [(mc_c hc).mpr rfl]
    have n5 : ¬ nI c = 5 := fun q => by have := (nI_eq (a := c) (b := 5) (by omega) (by decide)).mp q; omega
    have n1 : ¬ nI c = -1 := fun q => m1_c hc q.symm
    exact ⟨⟨fun q => absurd q n5, fun q => absurd q n1⟩, ⟨fun q => absurd q (ge5 hc), fun q => absurd q n1⟩⟩
theorem q_whyL {σ τ : Sg} {p q c : Nat} (w : Wf σ 15) (h : NX σ 15 τ) (hp : p < 5) (hq : q < 5) (hc : c < 5) : m_X7_whyNotLend (nI p) (nI q) (nI c) τ = some (wyL (σ 15 0) (σ 16) p q c, τ) := by
  unfold m_X7_whyNotLend wyL
  obtain ⟨n1, n2, n3, n4⟩ := h
  have a1 : (τ 114 p = nI c) ↔ σ 16 p = nI c := by rw [(n4 p hp).1]; exact mc_c hc
  have a2 : (5 ≤ τ 114 q) ↔ σ 16 q = -1 := by rw [(n4 q hq).1]; exact (mc_5 (wear_ok w q hq)).2
  simp only [q_isThere, n1, hB_tB hp, hB_tB hq, p_cI, p_ifz, p_gd (in5 hp), p_gd (in5 hq), ix5 hp, ix5 hq, nI_inj5 hp hq, a1, a2]
  repeat' split
  all_goals rfl
theorem many_eq {σ τ : Sg} {c : Nat} (w : Wf σ 15) (h : NX σ 15 τ) (hc : c < 5) : cn5 (fun i => tB (τ 100 0) (nI i) && decide (τ 114 i = nI c)) = cn5 (fun i => decide (σ 16 i = nI c)) := by
  refine cn5_cong (fun p hp => ?_)
  obtain ⟨n1, n2, n3, n4⟩ := h
  have a1 : (τ 114 p = nI c) ↔ σ 16 p = nI c := by rw [(n4 p hp).1]; exact mc_c hc
  rw [n1]
  by_cases e : σ 16 p = nI c
  · rcases w.2.2.2.1 p hp with q | ⟨c', h1, h2, h3, h4⟩
    · simp only [Nat.reduceAdd] at q
      rw [e] at q
      exact absurd q.symm (m1_c hc)
    · simp [h4, a1, e]
  · simp [a1, e]
theorem q_whyP {σ τ : Sg} {p c : Nat} (w : Wf σ 15) (h : NX σ 15 τ) (hp : p < 5) (hc : c < 5) : m_X7_whyNotPut (nI p) (nI c) τ = some (wyP (σ 15 0) (σ 15 1) (σ 16) (σ 23) (σ 26) p c, τ) := by
  unfold m_X7_whyNotPut wyP
  have hm := many_eq w h hc
  obtain ⟨n1, n2, n3, n4⟩ := h
  have a2 : (5 ≤ τ 114 p) ↔ σ 16 p = -1 := by rw [(n4 p hp).1]; exact (mc_5 (wear_ok w p hp)).2
  have e1 : τ 102 c = σ 23 c := (n4 c hc).2.2.2.2.2.1
  have e2 : τ 105 c = σ 26 c := (n4 c hc).2.2.2.2.2.2
  simp only [q_isThere, q_isCoat, n2, hB_tB hc, p_cI, p_ifz, p_gd (in5 hp), p_gd (in5 hc), ix5 hp, ix5 hc, a2, q_many, hm, e1, e2]
  simp only [n1, hB_tB hp]
  repeat' split
  all_goals rfl
/-- what a change of coats keeps -/
theorem ev_T {σ τ : Sg} {p : Nat} (w : Wf σ 15) (h : NX σ 15 τ) (hp : p < 5) (hy : wyT (σ 15 0) (σ 16) p = 0) : Wf (rw1 σ 16 (upd (σ 16) p (-1))) 15 ∧ NX (rw1 σ 16 (upd (σ 16) p (-1))) 15 (rw1 τ 114 (upd (τ 114) p 5)) := by
  refine ⟨w.wr (fun q hq => ?_) (fun c hc => ?_), h.wr (fun i hi => ?_)⟩
  · by_cases e : q = p
    · subst e; exact Or.inl upd_s
    · rw [upd_n e]; exact w.2.2.2.1 q hq
  · refine Nat.le_trans ?_ (w.2.2.2.2.2.2.2.2.2.1 c hc)
    have hb : ∀ i, bN (decide (upd (σ 16) p (-1) i = nI c)) ≤ bN (decide (σ 16 i = nI c)) := fun i => by
      by_cases e : i = p
      · subst e; rw [upd_s]; simp [m1_c hc, bN]
      · rw [upd_n e]; exact Nat.le_refl _
    unfold cn5
    have b0 := hb 0; have b1 := hb 1; have b2 := hb 2; have b3 := hb 3; have b4 := hb 4
    simp only [Nat.reduceAdd]
    omega
  · by_cases e : i = p
    · subst e; rw [upd_s, upd_s]; rfl
    · rw [upd_n e, upd_n e]; exact (h.2.2.2 i hi).1
theorem cn5_upd {f : Nat → Int32} {p c : Nat} {x : Int32} (hp : p < 5) : cn5 (fun i => decide (upd f p x i = nI c)) + bN (decide (f p = nI c)) = cn5 (fun i => decide (f i = nI c)) + bN (decide (x = nI c)) := by
  have h5 : p = 0 ∨ p = 1 ∨ p = 2 ∨ p = 3 ∨ p = 4 := by omega
  unfold cn5
  rcases h5 with rfl | rfl | rfl | rfl | rfl
  all_goals
    simp (disch := decide) only [upd_s, upd_n]
    omega
theorem ev_P {σ τ : Sg} {p c : Nat} (w : Wf σ 15) (h : NX σ 15 τ) (hp : p < 5) (hc : c < 5) (hy : wyP (σ 15 0) (σ 15 1) (σ 16) (σ 23) (σ 26) p c = 0) : Wf (rw1 σ 16 (upd (σ 16) p (nI c))) 15 ∧ NX (rw1 σ 16 (upd (σ 16) p (nI c))) 15 (rw1 τ 114 (upd (τ 114) p (nI c))) := by
  have n50 : ¬ (5 : Int32) = 0 := by decide
  have n10 : ¬ (1 : Int32) = 0 := by decide
  have n30 : ¬ (3 : Int32) = 0 := by decide
  have n40 : ¬ (4 : Int32) = 0 := by decide
  unfold wyP at hy
  by_cases y1 : tB (σ 15 0) (nI p) = true
  · rw [if_pos y1] at hy
    by_cases y2 : σ 16 p = -1
    · rw [if_pos y2] at hy
      by_cases y3 : tB (σ 15 1) (nI c) = true
      · rw [if_pos y3] at hy
        by_cases y4 : σ 23 c = nI p
        · rw [if_pos y4] at hy
          by_cases y5 : nI (cn5 (fun i => decide (σ 16 i = nI c))) ≤ σ 26 c
          · refine ⟨w.wr (fun q hq => ?_) (fun d hd => ?_), h.wr (fun i hi => ?_)⟩
            · by_cases e : q = p
              · subst e; exact Or.inr ⟨c, hc, upd_s, y3, y1⟩
              · rw [upd_n e]; exact w.2.2.2.1 q hq
            · have hu := cn5_upd (f := σ 16) (c := d) (x := nI c) hp
              have hz : bN (decide (σ 16 p = nI d)) = 0 := by rw [y2]; simp [m1_c hd, bN]
              rw [hz] at hu
              by_cases e : c = d
              · subst e
                have h1 : bN (decide (nI c = nI c)) = 1 := by simp [bN]
                rw [h1] at hu
                have hh : cn5 (fun i => decide (σ 16 i = nI c)) ≤ (if σ 26 c = 1 then 1 else 0) := by
                  rcases w.2.2.2.2.2.2.2.2.1 c hc with q | q
                  · simp only [Nat.reduceAdd] at q
                    rw [q] at y5 ⊢
                    have := (nI_leI (a := cn5 (fun i => decide (σ 16 i = nI c))) (b := 0) (by have := cn5_le (fun i => decide (σ 16 i = nI c)); omega) (by decide)).mp y5
                    omega
                  · simp only [Nat.reduceAdd] at q
                    rw [q] at y5 ⊢
                    have := (nI_leI (a := cn5 (fun i => decide (σ 16 i = nI c))) (b := 1) (by have := cn5_le (fun i => decide (σ 16 i = nI c)); omega) (by decide)).mp y5
                    simp only [if_true]
                    omega
                omega
              · have h1 : bN (decide (nI c = nI d)) = 0 := by
                  have : ¬ nI c = nI d := fun q => e ((nI_inj5 hc hd).mp q)
                  simp [this, bN]
                rw [h1] at hu
                have := w.2.2.2.2.2.2.2.2.2.1 d hd
                simp only [Nat.reduceAdd] at this
                omega
            · by_cases e : i = p
              · subst e; rw [upd_s, upd_s, (mc_c hc).mpr rfl]
              · rw [upd_n e, upd_n e]; exact (h.2.2.2 i hi).1
          · rw [if_neg y5] at hy; exact absurd hy n50
        · rw [if_neg y4] at hy; exact absurd hy n40
      · rw [if_neg y3] at hy; exact absurd hy n40
    · rw [if_neg y2] at hy; exact absurd hy n30
  · rw [if_neg y1] at hy; exact absurd hy n10
theorem ev_L {σ τ : Sg} {p q c : Nat} (w : Wf σ 15) (h : NX σ 15 τ) (hp : p < 5) (hq : q < 5) (hc : c < 5) (hy : wyL (σ 15 0) (σ 16) p q c = 0) : Wf (rw1 σ 16 (upd (upd (σ 16) p (-1)) q (nI c))) 15 ∧ NX (rw1 σ 16 (upd (upd (σ 16) p (-1)) q (nI c))) 15 (rw1 τ 114 (upd (upd (τ 114) p 5) q (nI c))) := by
  have n10 : ¬ (1 : Int32) = 0 := by decide
  have n20 : ¬ (2 : Int32) = 0 := by decide
  have n30 : ¬ (3 : Int32) = 0 := by decide
  unfold wyL at hy
  by_cases y1 : tB (σ 15 0) (nI p) = true
  · rw [if_pos y1] at hy
    by_cases y2 : tB (σ 15 0) (nI q) = true
    · rw [if_pos y2] at hy
      by_cases y3 : p = q
      · rw [if_pos y3] at hy; exact absurd hy n10
      · rw [if_neg y3] at hy
        by_cases y4 : σ 16 p = nI c
        · rw [if_pos y4] at hy
          by_cases y5 : σ 16 q = -1
          · have tc : tB (σ 15 1) (nI c) = true := by
              rcases w.2.2.2.1 p hp with z | ⟨c', h1, h2, h3, h4⟩
              · simp only [Nat.reduceAdd] at z
                rw [y4] at z
                exact absurd z.symm (m1_c hc)
              · simp only [Nat.reduceAdd] at h2
                rw [y4] at h2
                rw [h2]; exact h3
            refine ⟨w.wr (fun r hr => ?_) (fun d hd => ?_), h.wr (fun i hi => ?_)⟩
            · by_cases e : r = q
              · subst e; exact Or.inr ⟨c, hc, upd_s, tc, y2⟩
              · rw [upd_n e]
                by_cases e2 : r = p
                · subst e2; exact Or.inl upd_s
                · rw [upd_n e2]; exact w.2.2.2.1 r hr
            · have hu := cn5_upd (f := upd (σ 16) p (-1)) (c := d) (x := nI c) hq
              have hv := cn5_upd (f := σ 16) (c := d) (x := -1) hp
              rw [upd_n (Ne.symm y3), y5] at hu
              rw [y4] at hv
              have := w.2.2.2.2.2.2.2.2.2.1 d hd
              simp only [Nat.reduceAdd] at this
              omega
            · by_cases e : i = q
              · subst e; rw [upd_s, upd_s, (mc_c hc).mpr rfl]
              · rw [upd_n e, upd_n e]
                by_cases e2 : i = p
                · subst e2; rw [upd_s, upd_s]; rfl
                · rw [upd_n e2, upd_n e2]; exact (h.2.2.2 i hi).1
          · rw [if_neg y5] at hy; exact absurd hy n30
        · rw [if_neg y4] at hy; exact absurd hy n20
    · rw [if_neg y2] at hy; exact absurd hy n10
  · rw [if_neg y1] at hy; exact absurd hy n10
