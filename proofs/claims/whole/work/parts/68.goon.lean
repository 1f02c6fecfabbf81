/-! ===== the next way ===== -/
def ph (k n q : Nat) : Nat := if q < n then dg k q else 0
theorem dg_lt (k p : Nat) : dg k p < 6 := Nat.mod_lt _ (by decide)
theorem dg_pre {e k n q : Nat} (hn : n ≤ 5) (hq : q < n) (h : e / 6 ^ (5 - n) = k / 6 ^ (5 - n)) : dg e q = dg k q := by
  have h5 : n = 1 ∨ n = 2 ∨ n = 3 ∨ n = 4 ∨ n = 5 := by omega
  rcases h5 with rfl | rfl | rfl | rfl | rfl
  · have : q = 0 := by omega
    subst this
    simp only [dg, Nat.reducePow, Nat.reduceSub] at h ⊢; omega
  · have : q = 0 ∨ q = 1 := by omega
    rcases this with rfl | rfl <;> simp only [dg, Nat.reducePow, Nat.reduceSub] at h ⊢ <;> omega
  · have : q = 0 ∨ q = 1 ∨ q = 2 := by omega
    rcases this with rfl | rfl | rfl <;> simp only [dg, Nat.reducePow, Nat.reduceSub] at h ⊢ <;> omega
  · have : q = 0 ∨ q = 1 ∨ q = 2 ∨ q = 3 := by omega
    rcases this with rfl | rfl | rfl | rfl <;> simp only [dg, Nat.reducePow, Nat.reduceSub] at h ⊢ <;> omega
  · simp only [Nat.reduceSub, Nat.pow_zero, Nat.div_one] at h
    rw [h]
/-- two numbers of one beginning, the second greater at the next place -/
theorem dg_step {e k n : Nat} (hn : n < 5) (hk : k < e) (h : e / 6 ^ (5 - n) = k / 6 ^ (5 - n)) : e / 6 ^ (4 - n) = k / 6 ^ (4 - n) ∨ dg k n < dg e n := by
  have h5 : n = 0 ∨ n = 1 ∨ n = 2 ∨ n = 3 ∨ n = 4 := by omega
  rcases h5 with rfl | rfl | rfl | rfl | rfl <;> simp only [dg, Nat.reducePow, Nat.reduceSub, Nat.reduceAdd] at h ⊢ <;> omega
def nk (k n c : Nat) : Nat := k / 6 ^ (5 - n) * 6 ^ (5 - n) + (c + 1) * 6 ^ (4 - n)
theorem nk_ok {k n c : Nat} (hn : n < 5) (hk : k < 7776) (hc : c < 5) (hd : dg k n ≤ c) : k < nk k n c ∧ nk k n c < 7776 ∧ (∀ q, q < 5 → dg (nk k n c) q = uN' (ph k n) n (c + 1) q) ∧ ∀ e, k < e → e < nk k n c → e / 6 ^ (5 - n) = k / 6 ^ (5 - n) ∧ dg e n < c + 1 := by
  have h5 : n = 0 ∨ n = 1 ∨ n = 2 ∨ n = 3 ∨ n = 4 := by omega
  have q5 : ∀ q, q < 5 → q = 0 ∨ q = 1 ∨ q = 2 ∨ q = 3 ∨ q = 4 := fun q hq => by omega
  rcases h5 with rfl | rfl | rfl | rfl | rfl
  all_goals
    simp only [dg, nk, uN', ph, Nat.reducePow, Nat.reduceSub] at hd ⊢
    refine ⟨by omega, by omega, fun q hq => ?_, fun e e1 e2 => ⟨by omega, by omega⟩⟩
    rcases q5 q hq with rfl | rfl | rfl | rfl | rfl <;> simp only [Nat.reducePow, Nat.reduceSub, Nat.reduceLT, if_true, if_false, Nat.reduceEqDiff, reduceCtorEq, Nat.zero_ne_one, Nat.one_ne_zero, Nat.lt_irrefl, Nat.not_lt_zero, Nat.zero_lt_succ, Nat.zero_lt_one] <;> omega
theorem cn5_mono {a b : Nat → Bool} (h : ∀ q, q < 5 → bN (a q) ≤ bN (b q)) : cn5 a ≤ cn5 b := by
  have b0 := h 0 (by decide); have b1 := h 1 (by decide); have b2 := h 2 (by decide); have b3 := h 3 (by decide); have b4 := h 4 (by decide)
  unfold cn5
  omega
theorem cD_ph {k n c : Nat} (hn : n < 5) {e : Nat} (hp : ∀ q, q < n → dg e q = dg k q) (he : dg e n = c + 1) : cD (ph k n) c + 1 ≤ cD (dg e) c := by
  have h1 : cD (uN' (ph k n) n (c + 1)) c = cD (ph k n) c + 1 := by
    rw [cD_up hn (by simp [ph])]
    simp [bN]
  rw [← h1]
  refine cn5_mono (fun q hq => ?_)
  show bN (decide ((if q = n then c + 1 else if q < n then dg k q else 0) = c + 1)) ≤ bN (decide (dg e q = c + 1))
  by_cases a : q = n
  · subst a; rw [if_pos rfl, he]; exact Nat.le_refl _
  · rw [if_neg a]
    by_cases b : q < n
    · rw [if_pos b, hp q b]; exact Nat.le_refl _
    · rw [if_neg b, decide_eq_false (show ¬ 0 = c + 1 by omega)]; exact Nat.zero_le _
theorem ph_le {pe : Nat → Bool} {cp : Nat → Nat} {k n : Nat} (h : vB pe cp (dg k) = true) : (∀ p, p < 5 → ph k n p = 0 ∨ pe p = true) ∧ ∀ c, c < 5 → cD (ph k n) c ≤ cp c := by
  obtain ⟨h1, h2⟩ := vB_iff.mp h
  refine ⟨fun p hp => ?_, fun c hc => Nat.le_trans ?_ (h2 c hc)⟩
  · unfold ph
    split
    · exact h1 p hp
    · exact Or.inl rfl
  · refine cn5_mono (fun q hq => ?_)
    show bN (decide ((if q < n then dg k q else 0) = c + 1)) ≤ bN (decide (dg k q = c + 1))
    split
    · exact Nat.le_refl _
    · rw [decide_eq_false (show ¬ 0 = c + 1 by omega)]; exact Nat.zero_le _
def xI : Nat → Int32
  | 0 => -1
  | n + 1 => nI n
theorem xI_p (n : Nat) : nI n + (-1) = xI n := by
  cases n with
  | zero => decide
  | succ n =>
    have : nI (n + 1) + (-1) = nI (n + 1) - 1 := by rw [Int32.sub_eq_add_neg]
    rw [this]
    exact nI_pred n
theorem Wd_cong {cp D E : Nat → Nat} {s : Sg} (h : ∀ q, q < 5 → D q = E q) (w : Wd cp D s) : Wd cp E s := ⟨fun q hq => by rw [← h q hq]; exact w.1 q hq, fun c hc => by rw [← cD_cong h]; exact w.2 c hc⟩
theorem q_goL {pe : Nat → Bool} {cp : Nat → Nat} {k : Nat} (hk : k < 7776) (hc2 : ∀ c, c < 5 → cp c ≤ 2) (hv : vB pe cp (dg k) = true) : ∀ (n m : Nat) (s : Sg), n ≤ 5 → n < m → (∀ p, p < 5 → tB (s 66 0) (nI p) = pe p) → Wd cp (ph k n) s →
    (∀ e, k < e → e / 6 ^ (5 - n) = k / 6 ^ (5 - n) → vB pe cp (dg e) = false) →
    ∃ s', (∀ c, c ≠ 67 → c ≠ 80 → c ≠ 65 → s' c = s c) ∧ (∀ j, j ≠ 4 → s' 65 j = s 65 j) ∧ e_lp1 (d_X5_goOn_2 (fun σ5 => e_lt (k_up σ5 65 4 0) (fun σ6 => some σ6))) m (xI n) s = some s' ∧
      ((s' 65 4 = 0 ∧ ∀ e, k < e → e < 7776 → vB pe cp (dg e) = false) ∨ (s' 65 4 = s 65 4 ∧ ∃ k', k < k' ∧ k' < 7776 ∧ Wd cp (dg k') s' ∧ vB pe cp (dg k') = true ∧ ∀ e, k < e → e < k' → vB pe cp (dg e) = false))
  | 0, m, s, hn, hm, hp, hw, hb => by
    obtain ⟨m, rfl⟩ : ∃ m1, m = m1 + 1 := ⟨m - 1, by omega⟩
    refine ⟨k_up s 65 4 0, fun c c1 c2 c3 => by rw [up_rw, rw1_ne c3], fun j hj => by rw [up_rw, rw1_eq, upd_n hj], ?_, Or.inl ⟨by rw [up_rw, rw1_eq, upd_s], fun e e1 e2 => hb e e1 ?_⟩⟩
    · rw [lp1_s]
      have z : xI 0 < 0 := by decide
      simp only [d_X5_goOn_2, z, if_true, p_lt]
    · simp only [Nat.reduceSub, Nat.reducePow]
      omega
  | n + 1, m, s, hn, hm, hp, hw, hb => by
    obtain ⟨m, rfl⟩ : ∃ m1, m = m1 + 1 := ⟨m - 1, by omega⟩
    have hn5 : n < 5 := by omega
    have z : ¬ nI n < 0 := nI_pos (by omega)
    have e45 : 5 - (n + 1) = 4 - n := by omega
    rw [e45] at hb
    have hu : ∀ q, q < 5 → ph k (n + 1) q = uN' (ph k n) n (dg k n) q := fun q hq => by
      show (if q < n + 1 then dg k q else 0) = (if q = n then dg k n else if q < n then dg k q else 0)
      by_cases a : q = n
      · subst a; rw [if_pos (by omega), if_pos rfl]
      · rw [if_neg a]
        by_cases b : q < n
        · rw [if_pos (by omega), if_pos b]
        · rw [if_neg (by omega), if_neg b]
    have h0 : ph k n n = 0 := by simp [ph]
    rw [lp1_s]
    simp only [xI, d_X5_goOn_2, z, if_false, q_hasPerson, hB_tB hn5, hp n hn5, p_cI, p_ifz, xI_p]
    cases pn : pe n
    · simp only [Bool.false_eq_true, if_false]
      have d0 : dg k n = 0 := by
        rcases (vB_iff.mp hv).1 n hn5 with q | q
        · exact q
        · rw [pn] at q; cases q
      have hz : ∀ q, q < 5 → ph k (n + 1) q = ph k n q := fun q hq => by
        rw [hu q hq, uN']
        by_cases a : q = n
        · subst a; rw [if_pos rfl, d0, h0]
        · rw [if_neg a]
      refine q_goL hk hc2 hv n m s (by omega) (by omega) hp (Wd_cong hz hw) (fun e e1 e2 => ?_)
      rcases dg_step hn5 e1 e2 with q | q
      · exact hb e e1 q
      · cases ve : vB pe cp (dg e)
        · rfl
        · rcases (vB_iff.mp ve).1 n hn5 with r | r
          · omega
          · rw [pn] at r; cases r
    · simp only [if_true]
      have hw' : Wd cp (uN' (ph k n) n (dg k n)) s := Wd_cong hu hw
      have hle : ∀ c, c < 5 → cD (uN' (ph k n) n (dg k n)) c ≤ cp c := fun c hc => by rw [← cD_cong hu]; exact (ph_le hv).2 c hc
      obtain ⟨s1, g1, g2⟩ := q_changeCoat hn5 (by have := dg_lt k n; omega) h0 hc2 hle hw'
      have n10 : ¬ (1 : Int32) = 0 := by decide
      have bad : ∀ e, k < e → e / 6 ^ (5 - n) = k / 6 ^ (5 - n) → (∀ c, dg k n ≤ c → c < 5 → dg e n = c + 1 → ¬ cD (ph k n) c < cp c) → vB pe cp (dg e) = false := by
        intro e e1 e2 e3
        rcases dg_step hn5 e1 e2 with q | q
        · exact hb e e1 q
        · cases ve : vB pe cp (dg e)
          · rfl
          · exfalso
            obtain ⟨c, hc⟩ : ∃ c, dg e n = c + 1 := ⟨dg e n - 1, by omega⟩
            have hl := dg_lt e n
            have a1 := (vB_iff.mp ve).2 c (by omega)
            have a2 := cD_ph (k := k) hn5 (fun q hq => dg_pre (by omega) hq e2) hc
            have a3 := e3 c (by omega) (by omega) hc
            omega
      rcases g2 with ⟨c, c1, c2, c3, c4, c5, c6⟩ | ⟨c1, c2, c3⟩
      · simp only [c5, p_cI, n10, if_false]
        obtain ⟨k1, k2, k3, k4⟩ := nk_ok hn5 hk c2 c1
        refine ⟨s1, fun x x1 x2 x3 => g1 x x1 x2, fun j _ => by rw [g1 65 (by decide) (by decide)], rfl, Or.inr ⟨by rw [g1 65 (by decide) (by decide)], nk k n c, k1, k2, Wd_cong (fun q hq => (k3 q hq).symm) c6, ?_, fun e e1 e2 => ?_⟩⟩
        · rw [vB_iff]
          refine ⟨fun p hp5 => ?_, fun d hd => ?_⟩
          · rw [k3 p hp5, uN']
            by_cases a : p = n
            · subst a; exact Or.inr pn
            · rw [if_neg a]; exact (ph_le hv).1 p hp5
          · rw [cD_cong k3, cD_up hn5 h0]
            by_cases a : c = d
            · subst a
              simp [bN]
              omega
            · have z : bN (decide (c + 1 = d + 1)) = 0 := by rw [decide_eq_false (by omega)]; rfl
              rw [z, Nat.add_zero]; exact (ph_le hv).2 d hd
        · obtain ⟨k5, k6⟩ := k4 e e1 e2
          exact bad e e1 k5 (fun c' d1 d2 d3 => c4 c' d1 (by omega))
      · simp only [c2, p_cI, if_true]
        obtain ⟨s', r1, r2, r3, r4⟩ := q_goL hk hc2 hv n m s1 (by omega) (by omega) (fun p hp5 => by rw [g1 66 (by decide) (by decide)]; exact hp p hp5) c3 (fun e e1 e2 => bad e e1 e2 (fun c d1 d2 d3 => c1 c d1 d2))
        refine ⟨s', fun x x1 x2 x3 => by rw [r1 x x1 x2 x3]; exact g1 x x1 x2, fun j hj => by rw [r2 j hj, g1 65 (by decide) (by decide)], r3, ?_⟩
        rw [g1 65 (by decide) (by decide)] at r4
        exact r4
/-- the ways at a number -/
def Wy (pe : Nat → Bool) (cp : Nat → Nat) (k : Nat) (s : Sg) : Prop := Wd cp (dg k) s ∧ vB pe cp (dg k) = true ∧ s 65 4 = 1 ∧ k < 7776
theorem q_goOn {pe : Nat → Bool} {cp : Nat → Nat} {k : Nat} {s : Sg} (hc2 : ∀ c, c < 5 → cp c ≤ 2) (hp : ∀ p, p < 5 → tB (s 66 0) (nI p) = pe p) (h : Wy pe cp k s) :
    ∃ s', m_X5_goOn s = some s' ∧ (∀ c, c ≠ 67 → c ≠ 80 → c ≠ 65 → s' c = s c) ∧ ((s' 65 4 = 0 ∧ ∀ e, k < e → e < 7776 → vB pe cp (dg e) = false) ∨ ∃ k', k < k' ∧ Wy pe cp k' s' ∧ ∀ e, k < e → e < k' → vB pe cp (dg e) = false) := by
  obtain ⟨h1, h2, h3, h4⟩ := h
  obtain ⟨s', r1, r2, r3, r4⟩ := q_goL h4 hc2 h2 5 e_F s (by omega) (e_F_lt (by omega)) hp (Wd_cong (fun q hq => by unfold ph; rw [if_pos hq]) h1) (fun e e1 e2 => by simp only [Nat.sub_self, Nat.pow_zero, Nat.div_one] at e2; omega)
  refine ⟨s', ?_, r1, ?_⟩
  · unfold m_X5_goOn
    exact r3
  · rcases r4 with q | ⟨q1, k', q2, q3, q4, q5, q6⟩
    · exact Or.inl q
    · exact Or.inr ⟨k', q2, ⟨q4, q5, by rw [q1]; exact h3, q3⟩, q6⟩
