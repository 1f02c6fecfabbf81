/-! ===== 'now' in one world, a town in another ===== -/
def NX (σ : Sg) (k : Nat) (τ : Sg) : Prop := τ 100 0 = σ k 0 ∧ τ 100 1 = σ k 1 ∧ τ 100 23 = σ k 2 ∧ ∀ i, i < 5 → τ 114 i = mc (σ (k + 1) i) ∧ τ 115 i = σ (k + 2) i ∧ τ 116 i = σ (k + 3) i ∧ τ 117 i = σ (k + 4) i ∧ τ 118 i = σ (k + 7) i ∧ τ 102 i = σ (k + 8) i ∧ τ 105 i = σ (k + 11) i
theorem NX.seat {σ τ : Sg} {k p : Nat} (h : NX σ k τ) (hw : ∀ p, p < 5 → σ (k + 1) p = -1 ∨ ∃ c, c < 5 ∧ σ (k + 1) p = nI c) (hp : p < 5) : m_X7_seatOf (nI p) τ = some (nI (seatW (σ k 0) (σ k 2) (σ (k + 7)) (σ (k + 11)) (σ (k + 1)) p), τ) := by
  obtain ⟨h1, h2, h3, h4⟩ := h
  rw [q_seatS (fun i hi => by rw [(h4 i hi).1]; exact code_ok (hw i hi)) hp, h1, h3, seatW_cong (w' := σ (k + 1)) hp (fun i hi => (h4 i hi).2.2.2.2.1) (fun i hi => (h4 i hi).2.2.2.2.2.2) (fun i hi => by rw [(h4 i hi).1]; exact mc_mc (hw i hi))]
/-! ===== rows that grow at places ===== -/
def dD (b : Nat → Bool) (o : Nat → Nat) (x : Nat → Int32) (d : Nat → Int32) : Nat → Nat → Int32
  | 0 => d
  | i + 1 => if b i = true then upd (dD b o x d i) (o i) (dD b o x d i (o i) + x i) else dD b o x d i
theorem dD_t {b : Nat → Bool} {o : Nat → Nat} {x d : Nat → Int32} {i : Nat} (h : b i = true) : dD b o x d (i + 1) = upd (dD b o x d i) (o i) (dD b o x d i (o i) + x i) := by simp [dD, h]
theorem dD_f {b : Nat → Bool} {o : Nat → Nat} {x d : Nat → Int32} {i : Nat} (h : b i = false) : dD b o x d (i + 1) = dD b o x d i := by simp [dD, h]
theorem dD_cong {b : Nat → Bool} {o : Nat → Nat} {x d d' : Nat → Int32} (h : ∀ r, r < 5 → d r = d' r) (ho : ∀ i, i < 5 → b i = true → o i < 5) : ∀ i, i ≤ 5 → ∀ r, r < 5 → dD b o x d i r = dD b o x d' i r
  | 0, _, r, hr => h r hr
  | i + 1, hi, r, hr => by
    have ih := dD_cong (x := x) h ho i (by omega)
    cases e : b i
    · rw [dD_f e, dD_f e]; exact ih r hr
    · rw [dD_t e, dD_t e, ih (o i) (ho i (by omega) e)]
      by_cases q : r = o i
      · subst q; rw [upd_s, upd_s]
      · rw [upd_n q, upd_n q]; exact ih r hr
/-! ===== portions ===== -/
theorem seat_many {P : Int32} {v : Nat → Int32} {p : Nat} (hp : p < 5) (h : tB P (nI p) = true) : seatN P v p + 1 ≤ cn5 (fun i => tB P (nI i)) := by
  have hb : ∀ a b : Bool, bN (a && b) ≤ bN a := fun a b => by cases a <;> cases b <;> decide
  have a0 := hb (tB P (nI 0)) (!decide (0 = p) && ah v 0 p)
  have a1 := hb (tB P (nI 1)) (!decide (1 = p) && ah v 1 p)
  have a2 := hb (tB P (nI 2)) (!decide (2 = p) && ah v 2 p)
  have a3 := hb (tB P (nI 3)) (!decide (3 = p) && ah v 3 p)
  have a4 := hb (tB P (nI 4)) (!decide (4 = p) && ah v 4 p)
  unfold seatN cn5
  have h5 : p = 0 ∨ p = 1 ∨ p = 2 ∨ p = 3 ∨ p = 4 := by omega
  have z : bN (true && (!true && ah v p p)) = 0 := by simp [bN]
  have z1 : bN true = 1 := rfl
  rcases h5 with rfl | rfl | rfl | rfl | rfl
  all_goals
    simp only [h, decide_true, z, z1] at *
    omega
def pt (σ : Sg) (k p : Nat) : Nat := cn5 (fun i => tB (σ k 0) (nI i)) - seatW (σ k 0) (σ k 2) (σ (k + 7)) (σ (k + 11)) (σ (k + 1)) p
theorem pt_le (σ : Sg) (k p : Nat) : pt σ k p ≤ 5 := by
  have := cn5_le (fun i => tB (σ k 0) (nI i))
  unfold pt
  omega
theorem nI_sub {a b : Nat} (h : b ≤ a) : nI a - nI b = nI (a - b) := by
  have : nI a = nI (a - b) + nI b := by rw [nI_ad]; congr 1; omega
  rw [this, Int32.add_sub_cancel]
theorem pt_sub {σ : Sg} {k p : Nat} (hp : p < 5) (h : tB (σ k 0) (nI p) = true) : nI (cn5 (fun i => tB (σ k 0) (nI i))) - nI (seatW (σ k 0) (σ k 2) (σ (k + 7)) (σ (k + 11)) (σ (k + 1)) p) = nI (pt σ k p) := by
  unfold pt
  refine nI_sub ?_
  have := seat_many (v := fun x => wv (σ (k + 7)) (σ (k + 11)) (σ k 2) (σ (k + 1) x)) hp h
  unfold seatW
  omega
/-- the coat is another's -/
def own (w ow : Nat → Int32) (p : Nat) : Nat := (ow (w p).toNatClampNeg).toNatClampNeg
def cnd (P : Int32) (w ow : Nat → Int32) (p : Nat) : Bool := tB P (nI p) && (!decide (w p = -1) && !decide (ow (w p).toNatClampNeg = nI p))
theorem bc_P {m : Nat} {P : Int32} (hm : m < 32) (e : P = nI m) : bcI P = nI (cn5 (fun i => tB P (nI i))) := by
  subst e
  have h : nI m = nI (mk5 (fun i => tB (nI m) (nI i))) := tB_all m hm
  have h2 := bc_mk5 (fun i => tB (nI m) (nI i))
  rw [← h] at h2
  exact h2
theorem hB_tB {P : Int32} {i : Nat} (h : i < 5) : hB P (nI i) = tB P (nI i) := hB_nI h
theorem hB_m1 {P : Int32} : hB P (-1) = false := by
  unfold hB
  have : inB (-1) 0 4 = false := by decide
  rw [this]; rfl
theorem q_eat {σ : Sg} {p : Nat} {x : Int32} (w : Wf σ 15) (hp : p < 5) (ht : tB (σ 15 0) (nI p) = true) : ∃ s, m_X4_eat 15 (nI p) x σ = some s ∧ (∀ c, c ≠ 17 → c ≠ 18 → c ≠ 19 → s c = σ c) ∧ s 17 = upd (σ 17) p (σ 17 p + x) ∧
    s 18 = (if cnd (σ 15 0) (σ 16) (σ 23) p = true then upd (σ 18) p (σ 18 p + x / 2) else σ 18) ∧ s 19 = (if cnd (σ 15 0) (σ 16) (σ 23) p = true then upd (σ 19) (own (σ 16) (σ 23) p) (σ 19 (own (σ 16) (σ 23) p) + x / 2) else σ 19) := by
  obtain ⟨w1, w2, w3, w4, w5, w6⟩ := w
  unfold m_X4_eat
  simp only [q_hasPerson, hB_tB hp, ht, p_cI, p_ifz, if_true, p_gd (in5 hp), p_wr (in5 hp), ix5 hp, p_lt, up_rw, q_hasCoat, Nat.reduceAdd]
  simp (disch := decide) only [rw1_ne, rw1_eq]
  rcases w4 p hp with e | ⟨c, hc, e, tc, -⟩
  · simp only [Nat.reduceAdd] at e
    simp only [e, hB_m1, cnd, decide_true, Bool.not_true, Bool.false_and, Bool.and_false, Bool.false_eq_true, if_false]
    exact ⟨_, rfl, fun c h1 h2 h3 => by rw [rw1_ne h1], by rw [rw1_eq], by simp (disch := decide) only [rw1_ne], by simp (disch := decide) only [rw1_ne]⟩
  · simp only [Nat.reduceAdd] at e
    obtain ⟨o, ho, eo, to⟩ := w5 c hc
    simp only [Nat.reduceAdd] at eo
    have tO := to tc
    have hne : ¬ nI c = -1 := fun q => m1_c hc q.symm
    simp only [e, hB_tB hc, tc, if_true, p_gd (in5 hc), ix5 hc, eo, cnd, ht, Bool.true_and, hne, decide_false, Bool.not_false, own]
    by_cases q : nI o = nI p
    · simp only [q, if_true, decide_true, Bool.not_true, Bool.false_eq_true, if_false]
      exact ⟨_, rfl, fun c h1 h2 h3 => by rw [rw1_ne h1], by rw [rw1_eq], by simp (disch := decide) only [rw1_ne], by simp (disch := decide) only [rw1_ne]⟩
    · simp only [q, if_false, hB_tB ho, tO, if_true, decide_false, Bool.not_false]
      simp only [p_gd (in5 ho), p_wr (in5 ho), ix5 ho, up_rw, eo]
      simp (disch := decide) only [rw1_ne, rw1_eq]
      refine ⟨_, rfl, fun c h1 h2 h3 => ?_, ?_, ?_, ?_⟩
      · rw [rw1_ne h3, rw1_ne h2, rw1_ne h1]
      all_goals simp (disch := decide) only [rw1_ne, rw1_eq]
