/-! ===== ways as numbers of base six ===== -/
def dg (k p : Nat) : Nat := k / 6 ^ (4 - p) % 6
def dI (d : Nat) : Int32 := if d = 0 then -1 else nI (d - 1)
theorem dI_0 : dI 0 = -1 := rfl
theorem dI_s (d : Nat) : dI (d + 1) = nI d := by simp [dI]
def uN' (D : Nat → Nat) (p x q : Nat) : Nat := if q = p then x else D q
def cD (D : Nat → Nat) (c : Nat) : Nat := cn5 (fun q => decide (D q = c + 1))
theorem cD_cong {D E : Nat → Nat} {c : Nat} (h : ∀ q, q < 5 → D q = E q) : cD D c = cD E c := cn5_cong (fun q hq => by rw [h q hq])
theorem cD_up {D : Nat → Nat} {p x c : Nat} (hp : p < 5) (h0 : D p = 0) : cD (uN' D p x) c = cD D c + bN (decide (x = c + 1)) := by
  have h5 : p = 0 ∨ p = 1 ∨ p = 2 ∨ p = 3 ∨ p = 4 := by omega
  have z0 : bN false = 0 := rfl
  have z : ¬ (0 = c + 1) := by omega
  unfold cD cn5 uN'
  rcases h5 with rfl | rfl | rfl | rfl | rfl <;> simp only [if_true, if_false, h0, z, decide_false, z0, Nat.reduceEqDiff, reduceCtorEq, Nat.zero_ne_one, Nat.one_ne_zero] <;> omega
def a5 (b : Nat → Bool) : Bool := b 0 && b 1 && b 2 && b 3 && b 4
theorem a5_iff {b : Nat → Bool} : a5 b = true ↔ ∀ i, i < 5 → b i = true := by
  unfold a5
  simp only [Bool.and_eq_true]
  constructor
  · rintro ⟨⟨⟨⟨h0, h1⟩, h2⟩, h3⟩, h4⟩ i hi
    have : i = 0 ∨ i = 1 ∨ i = 2 ∨ i = 3 ∨ i = 4 := by omega
    rcases this with rfl | rfl | rfl | rfl | rfl <;> assumption
  · intro h
    exact ⟨⟨⟨⟨h 0 (by decide), h 1 (by decide)⟩, h 2 (by decide)⟩, h 3 (by decide)⟩, h 4 (by decide)⟩
theorem a5_cong {b b' : Nat → Bool} (h : ∀ i, i < 5 → b i = b' i) : a5 b = a5 b' := by
  unfold a5
  rw [h 0 (by decide), h 1 (by decide), h 2 (by decide), h 3 (by decide), h 4 (by decide)]
def vB (pe : Nat → Bool) (cp : Nat → Nat) (D : Nat → Nat) : Bool := a5 (fun p => decide (D p = 0) || pe p) && a5 (fun c => decide (cD D c ≤ cp c))
theorem vB_iff {pe : Nat → Bool} {cp : Nat → Nat} {D : Nat → Nat} : vB pe cp D = true ↔ ((∀ p, p < 5 → D p = 0 ∨ pe p = true) ∧ ∀ c, c < 5 → cD D c ≤ cp c) := by
  unfold vB
  simp only [Bool.and_eq_true, a5_iff, Bool.or_eq_true, decide_eq_true_eq]
theorem vB_cong {pe : Nat → Bool} {cp : Nat → Nat} {D E : Nat → Nat} (h : ∀ q, q < 5 → D q = E q) : vB pe cp D = vB pe cp E := by
  unfold vB
  rw [a5_cong (b := fun p => decide (D p = 0) || pe p) (b' := fun p => decide (E p = 0) || pe p) (fun p hp => by rw [h p hp]), a5_cong (b := fun c => decide (cD D c ≤ cp c)) (b' := fun c => decide (cD E c ≤ cp c)) (fun c _ => by rw [cD_cong h])]
/-- the ways' state: what is worn, what room is left -/
def Wd (cp : Nat → Nat) (D : Nat → Nat) (s : Sg) : Prop := (∀ q, q < 5 → s 67 q = dI (D q)) ∧ ∀ c, c < 5 → s 80 c = nI (cp c - cD D c)
theorem inB_m1 : inB (-1) 0 4 = false := by decide
theorem nI_le0 {n : Nat} (h : n < 1000) : (nI n ≤ 0) ↔ n = 0 := by
  have := nI_leI (a := n) (b := 0) (by omega) (by decide)
  exact this.trans (by omega)
/-- the search for the next coat -/
theorem q_chLoop {cp D : Nat → Nat} {p : Nat} (hp : p < 5) (h0 : D p = 0) (hc2 : ∀ c, c < 5 → cp c ≤ 2) (hle : ∀ c, c < 5 → cD D c ≤ cp c) {s : Sg} (h67 : ∀ q, q < 5 → q ≠ p → s 67 q = dI (D q)) (h80 : ∀ c, c < 5 → s 80 c = nI (cp c - cD D c)) :
    ∀ (f m i : Nat), i + f = 5 → f < m → ∃ s', (∀ c, c ≠ 67 → c ≠ 80 → s' c = s c) ∧
      ((∃ c, i ≤ c ∧ c < 5 ∧ cD D c < cp c ∧ (∀ c', i ≤ c' → c' < c → ¬ cD D c' < cp c') ∧ e_lp1 (d_X5_changeCoat_40 (nI p) (fun σ6 => e_wr σ6 67 (nI p) 5 ((-1)) (fun σ7 => e_rz 0 σ7))) m (nI i) s = some (1, s') ∧ Wd cp (uN' D p (c + 1)) s') ∨
       ((∀ c, i ≤ c → c < 5 → ¬ cD D c < cp c) ∧ e_lp1 (d_X5_changeCoat_40 (nI p) (fun σ6 => e_wr σ6 67 (nI p) 5 ((-1)) (fun σ7 => e_rz 0 σ7))) m (nI i) s = some (0, s') ∧ Wd cp D s'))
  | 0, m, i, e1, e2 => by
    obtain ⟨m, rfl⟩ : ∃ m1, m = m1 + 1 := ⟨m - 1, by omega⟩
    have hi : i = 5 := by omega
    subst hi
    refine ⟨k_up s 67 p (-1), fun c c1 c2 => by rw [up_rw, rw1_ne c1], Or.inr ⟨fun c c1 c2 => by omega, ?_, fun q hq => ?_, fun c hc => ?_⟩⟩
    · rw [lp1_s]
      simp only [d_X5_changeCoat_40, le5, if_true, p_wr (in5 hp), ix5 hp, p_rz0]
    · rw [up_rw, rw1_eq]
      by_cases e : q = p
      · subst e; rw [upd_s, h0]; rfl
      · rw [upd_n e]; exact h67 q hq e
    · rw [up_rw, rw1_ne (by decide)]; exact h80 c hc
  | f + 1, m, i, e1, e2 => by
    obtain ⟨m, rfl⟩ : ∃ m1, m = m1 + 1 := ⟨m - 1, by omega⟩
    have hi : i < 5 := by omega
    have hcc := hc2 i hi
    have l0 : (nI (cp i - cD D i) ≤ 0) ↔ cp i - cD D i = 0 := nI_le0 (by omega)
    by_cases fr : cD D i < cp i
    · refine ⟨k_up (k_up s 80 i (nI (cp i - cD D i - 1))) 67 p (nI i), fun c c1 c2 => by rw [up_rw, rw1_ne c1, up_rw, rw1_ne c2], Or.inl ⟨i, Nat.le_refl i, hi, fr, fun c' c1 c2 => by omega, ?_, fun q hq => ?_, fun c hc => ?_⟩⟩
      · have nz : ¬ cp i - cD D i = 0 := by omega
        have e1' : nI (cp i - cD D i) - 1 = nI (cp i - cD D i - 1) := nI_sub (b := 1) (by omega)
        rw [lp1_s]
        simp only [d_X5_changeCoat_40, ge5 hi, if_false, p_gd (in5 hi), ix5 hi, h80 i hi, l0, nz, p_wr (in5 hi), p_wr (in5 hp), ix5 hp, p_rz1, e1']
      · rw [up_rw, rw1_eq, up_rw, rw1_ne (by decide)]
        by_cases e : q = p
        · subst e; rw [upd_s, uN', if_pos rfl, dI_s]
        · rw [upd_n e, uN', if_neg e]; exact h67 q hq e
      · rw [up_rw, rw1_ne (by decide), up_rw, rw1_eq, cD_up hp h0]
        by_cases e : c = i
        · subst e
          rw [upd_s]
          congr 1
          simp [bN]
          omega
        · rw [upd_n e, h80 c hc]
          congr 1
          have z : bN (decide (i + 1 = c + 1)) = 0 := by rw [decide_eq_false (by omega)]; rfl
          rw [z, Nat.add_zero]
    · obtain ⟨s', g1, g2⟩ := q_chLoop hp h0 hc2 hle h67 h80 f m (i + 1) (by omega) (by omega)
      have nz : cp i - cD D i = 0 := by omega
      have st : e_lp1 (d_X5_changeCoat_40 (nI p) (fun σ6 => e_wr σ6 67 (nI p) 5 ((-1)) (fun σ7 => e_rz 0 σ7))) (m + 1) (nI i) s = e_lp1 (d_X5_changeCoat_40 (nI p) (fun σ6 => e_wr σ6 67 (nI p) 5 ((-1)) (fun σ7 => e_rz 0 σ7))) m (nI (i + 1)) s := by
        rw [lp1_s]
        have l1 : nI (cp i - cD D i) ≤ 0 := l0.mpr nz
        simp only [d_X5_changeCoat_40, ge5 hi, if_false, p_gd (in5 hi), ix5 hi, h80 i hi, l1, if_true, x_s]
      rw [st]
      refine ⟨s', g1, ?_⟩
      rcases g2 with ⟨c, c1, c2, c3, c4, c5, c6⟩ | ⟨c1, c2, c3⟩
      · refine Or.inl ⟨c, by omega, c2, c3, fun c' d1 d2 => ?_, c5, c6⟩
        by_cases e : c' = i
        · subst e; exact fr
        · exact c4 c' (by omega) d2
      · refine Or.inr ⟨fun c d1 d2 => ?_, c2, c3⟩
        by_cases e : c = i
        · subst e; exact fr
        · exact c1 c (by omega) d2
theorem q_changeCoat {cp D : Nat → Nat} {p d : Nat} (hp : p < 5) (hd : d ≤ 5) (h0 : D p = 0) (hc2 : ∀ c, c < 5 → cp c ≤ 2) (hle : ∀ c, c < 5 → cD (uN' D p d) c ≤ cp c) {s : Sg} (hs : Wd cp (uN' D p d) s) :
    ∃ s', (∀ c, c ≠ 67 → c ≠ 80 → s' c = s c) ∧
      ((∃ c, d ≤ c ∧ c < 5 ∧ cD D c < cp c ∧ (∀ c', d ≤ c' → c' < c → ¬ cD D c' < cp c') ∧ m_X5_changeCoat (nI p) s = some (1, s') ∧ Wd cp (uN' D p (c + 1)) s') ∨
       ((∀ c, d ≤ c → c < 5 → ¬ cD D c < cp c) ∧ m_X5_changeCoat (nI p) s = some (0, s') ∧ Wd cp D s')) := by
  obtain ⟨h67, h80⟩ := hs
  have hle' : ∀ c, c < 5 → cD D c ≤ cp c := fun c hc => by
    have := hle c hc
    rw [cD_up hp h0] at this
    omega
  have e67 : s 67 p = dI d := by rw [h67 p hp, uN', if_pos rfl]
  have o67 : ∀ q, q < 5 → q ≠ p → s 67 q = dI (D q) := fun q hq e => by rw [h67 q hq, uN', if_neg e]
  unfold m_X5_changeCoat
  simp only [p_gd (in5 hp), ix5 hp, p_lt, e67, q_within, p_cI, p_ifz, b_X5_changeCoat_28, b_X5_changeCoat_39]
  by_cases d0 : d = 0
  · subst d0
    have h80' : ∀ c, c < 5 → s 80 c = nI (cp c - cD D c) := fun c hc => by
      have z : bN (decide (0 = c + 1)) = 0 := by simp [bN]
      rw [h80 c hc, cD_up hp h0, z, Nat.add_zero]
    have n0 : ¬ (0 : Int32) ≤ -1 := by decide
    simp only [dI_0, inB_m1, Bool.false_eq_true, if_false, n0]
    exact q_chLoop hp h0 hc2 hle' o67 h80' 5 e_F 0 (by omega) (e_F_lt (by omega))
  · obtain ⟨b, rfl⟩ : ∃ b, d = b + 1 := ⟨d - 1, by omega⟩
    have hb : b < 5 := by omega
    have pb' : (0 : Int32) ≤ nI b := nI_pos' (by omega)
    have hcb := hle b hb
    rw [cD_up hp h0] at hcb
    have z1 : bN (decide (b + 1 = b + 1)) = 1 := by simp [bN]
    rw [z1] at hcb
    have e80 : s 80 b + 1 = nI (cp b - cD D b) := by
      rw [h80 b hb, cD_up hp h0, z1, x_s]
      congr 1
      omega
    simp only [dI_s, inB_nI hb, if_true, p_gd (in5 hb), p_wr (in5 hb), ix5 hb, pb', x_s, e80]
    have h80' : ∀ c, c < 5 → k_up s 80 b (nI (cp b - cD D b)) 80 c = nI (cp c - cD D c) := fun c hc => by
      rw [up_rw, rw1_eq]
      by_cases e : c = b
      · subst e; rw [upd_s]
      · have z : bN (decide (b + 1 = c + 1)) = 0 := by
          rw [decide_eq_false (by omega)]; rfl
        rw [upd_n e, h80 c hc, cD_up hp h0, z, Nat.add_zero]
    obtain ⟨s', g1, g2⟩ := q_chLoop (s := k_up s 80 b (nI (cp b - cD D b))) hp h0 hc2 hle' (fun q hq e => by rw [up_rw, rw1_ne (by decide)]; exact o67 q hq e) h80' (5 - (b + 1)) e_F (b + 1) (by omega) (e_F_lt (by omega))
    exact ⟨s', fun c c1 c2 => by rw [g1 c c1 c2, up_rw, rw1_ne c2], g2⟩
