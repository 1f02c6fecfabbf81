/-! ===== leagues ===== -/
theorem tB_iff (P x : Int32) : ((jsr P x &&& 1) = 1) ↔ tB P x = true := decide_eq_true_iff.symm
def pb (R : Nat → Bool) (st : Nat → Int32) : Nat → Option Nat
  | 0 => none
  | i + 1 => if R i = true then (match pb R st i with | none => some i | some b => if st i ≤ st b then some b else some i) else pb R st i
def oI : Option Nat → Int32
  | none => -6
  | some c => nI c
theorem pb_lt {R : Nat → Bool} {st : Nat → Int32} : ∀ {i b : Nat}, pb R st i = some b → b < i ∧ R b = true
  | 0, b, h => by simp [pb] at h
  | i + 1, b, h => by
    unfold pb at h
    by_cases r : R i = true
    · rw [if_pos r] at h
      cases e : pb R st i with
      | none => rw [e] at h; injection h with h; subst h; exact ⟨by omega, r⟩
      | some b' =>
        rw [e] at h
        simp only at h
        by_cases q : st i ≤ st b'
        · rw [if_pos q] at h; injection h with h; subst h; have := pb_lt e; exact ⟨by omega, this.2⟩
        · rw [if_neg q] at h; injection h with h; subst h; exact ⟨by omega, r⟩
    · rw [if_neg r] at h; have := pb_lt h; exact ⟨by omega, this.2⟩
theorem pb_cong {R R' : Nat → Bool} {st st' : Nat → Int32} : ∀ i, (∀ c, c < i → R c = R' c) → (∀ c, c < i → st c = st' c) → pb R st i = pb R' st' i
  | 0, _, _ => rfl
  | i + 1, h, g => by
    have ih := pb_cong i (fun c hc => h c (by omega)) (fun c hc => g c (by omega))
    unfold pb
    rw [h i (by omega), ih]
    cases e : pb R' st' i with
    | none => rfl
    | some b => have := pb_lt e; simp only [g i (by omega), g b (by omega)]
theorem q_greatest {σ : Sg} {k : Nat} {R : Nat → Bool} (hs : ∀ c, c < 5 → ∃ n, n < 100 ∧ σ (k + 7) c = nI n) : m_X4_greatestOf k (nI (mk5 R)) σ = some (oI (pb R (σ (k + 7)) 5), σ) := by
  unfold m_X4_greatestOf
  refine lp3_z (fun o => o = some (oI (pb R (σ (k + 7)) 5), σ)) (fun i a b u => u = σ ∧ a = oI (pb R (σ (k + 7)) i) ∧ b = (match pb R (σ (k + 7)) i with | none => -1 | some c => σ (k + 7) c)) 5 ?_ ?_ (e_F_lt (by omega)) ⟨rfl, rfl, rfl⟩
  · rintro H a b u ⟨rfl, rfl, rfl⟩
    simp only [d_X4_greatestOf_8, le5, if_true]
  · rintro H i a b u hi ⟨rfl, rfl, rfl⟩ kk
    simp only [d_X4_greatestOf_8, ge5 hi, if_false, tB_iff, tB_mk5 _ hi, p_gd (in5 hi), ix5 hi, p_lt, x_s]
    by_cases r : R i = true
    · rw [if_pos r]
      cases e : pb R (u (k + 7)) i with
      | none =>
        obtain ⟨n, hn, en⟩ := hs i hi
        have q : ¬ u (k + 7) i ≤ -1 := fun q => by
          rw [en] at q
          have := nI_pos' (n := n) (by omega)
          exact absurd (Int32.le_trans this q) (by decide)
        simp only [q, if_false]
        exact kk _ _ _ ⟨rfl, by simp only [pb, r, if_true, e, oI], by simp only [pb, r, if_true, e]⟩
      | some b =>
        simp only
        by_cases q : u (k + 7) i ≤ u (k + 7) b
        · rw [if_pos q]
          exact kk _ _ _ ⟨rfl, by simp only [pb, r, if_true, e, q, oI], by simp only [pb, r, if_true, e, q]⟩
        · rw [if_neg q]
          exact kk _ _ _ ⟨rfl, by simp only [pb, r, if_true, e, q, if_false, oI], by simp only [pb, r, if_true, e, q, if_false]⟩
    · rw [if_neg r]
      exact kk _ _ _ ⟨rfl, by simp only [pb, r, if_false, Bool.false_eq_true], by simp only [pb, r, if_false, Bool.false_eq_true]⟩
def lgN (L : Nat → Bool) (st : Nat → Int32) : Nat → Int32 × (Nat → Bool)
  | 0 => (0, fun _ => false)
  | n + 1 => match pb (fun c => L c && !(lgN L st n).2 c) st 5 with
    | none => lgN L st n
    | some b => ((lgN L st n).1 + st b, fun c => (lgN L st n).2 c || decide (c = b))
theorem lgN_n {L : Nat → Bool} {st : Nat → Int32} {n : Nat} (h : pb (fun c => L c && !(lgN L st n).2 c) st 5 = none) : lgN L st (n + 1) = lgN L st n := by
  rw [lgN, h]
theorem lgN_s {L : Nat → Bool} {st : Nat → Int32} {n b : Nat} (h : pb (fun c => L c && !(lgN L st n).2 c) st 5 = some b) : lgN L st (n + 1) = ((lgN L st n).1 + st b, fun c => (lgN L st n).2 c || decide (c = b)) := by
  rw [lgN, h]
theorem lgN_cong {L L' : Nat → Bool} {st st' : Nat → Int32} (h : ∀ c, c < 5 → L c = L' c) (g : ∀ c, c < 5 → st c = st' c) : ∀ n, (lgN L st n).1 = (lgN L' st' n).1 ∧ ∀ c, (lgN L st n).2 c = (lgN L' st' n).2 c
  | 0 => ⟨rfl, fun _ => rfl⟩
  | n + 1 => by
    obtain ⟨i1, i2⟩ := lgN_cong h g n
    have ep : pb (fun c => L c && !(lgN L st n).2 c) st 5 = pb (fun c => L' c && !(lgN L' st' n).2 c) st' 5 := pb_cong 5 (fun c hc => by rw [h c hc, i2 c]) g
    cases e : pb (fun c => L' c && !(lgN L' st' n).2 c) st' 5 with
    | none => rw [lgN_n e, lgN_n (ep.trans e)]; exact ⟨i1, i2⟩
    | some b => rw [lgN_s e, lgN_s (ep.trans e)]; exact ⟨by rw [i1, g b (pb_lt e).1], fun c => by show ((lgN L st n).2 c || decide (c = b)) = _; rw [i2 c]⟩
def lL (C : Int32) (ow : Nat → Int32) (m c : Nat) : Bool := tB C (nI c) && tB (nI m) (ow c)
def wl (C : Int32) (ow st : Nat → Int32) (m : Nat) : Int32 := (lgN (lL C ow m) st (cn5 (fun i => tB (nI m) (nI i)))).1
theorem wl_cong {C : Int32} {ow ow' st st' : Nat → Int32} {m : Nat} (h : ∀ c, c < 5 → ow c = ow' c) (g : ∀ c, c < 5 → st c = st' c) : wl C ow st m = wl C ow' st' m :=
  (lgN_cong (fun c hc => by unfold lL; rw [h c hc]) g _).1
theorem mk5_cl {R : Nat → Bool} {b : Nat} (hb : b < 5) : nI (mk5 R) &&& (jsl 1 (nI b) ^^^ (-1)) = nI (mk5 (fun c => R c && !decide (c = b))) := by
  rw [cl_all _ (mk5_lt _) b hb]
  congr 1
  exact mk5_cong (fun j hj => by rw [tB_mk5 _ hj])
theorem mk5_or {R : Nat → Bool} {b : Nat} (hb : b < 5) : nI (mk5 R) ||| jsl 1 (nI b) = nI (mk5 (fun c => R c || decide (c = b))) := by
  rw [or_all _ (mk5_lt _) b hb]
  congr 1
  exact mk5_cong (fun j hj => by rw [tB_mk5 _ hj])
theorem hB_6 {P : Int32} : hB P (-6) = false := by
  unfold hB
  have : inB (-6) 0 4 = false := by decide
  rw [this]; rfl
theorem q_wlC {σ : Sg} {k m : Nat} (hm : m < 32) (hs : ∀ c, c < 5 → ∃ n, n < 100 ∧ σ (k + 7) c = nI n) : m_X4_worthOfLeague k (nI m) σ = some (wl (σ k 1) (σ (k + 8)) (σ (k + 7)) m, σ) := by
  unfold m_X4_worthOfLeague wl
  have hbc := bc_P hm rfl
  have hN := cn5_le (fun i => tB (nI m) (nI i))
  refine lp3_z (fun o => o = some ((lgN (lL (σ k 1) (σ (k + 8)) m) (σ (k + 7)) (cn5 (fun i => tB (nI m) (nI i)))).1, σ)) (fun i a b u => u = σ ∧ a = 0 ∧ b = pm (lL (σ k 1) (σ (k + 8)) m) i) 5 ?_ ?_ (e_F_lt (by omega)) ⟨rfl, rfl, (pm_0 _).symm⟩
  · rintro H a b u ⟨rfl, rfl, rfl⟩
    simp only [d_X4_worthOfLeague_7, le5, if_true, pm_5]
    refine lp3_z (fun o => o = some ((lgN (lL (u k 1) (u (k + 8)) m) (u (k + 7)) (cn5 (fun i => tB (nI m) (nI i)))).1, u)) (fun i a b v => v = u ∧ a = (lgN (lL (u k 1) (u (k + 8)) m) (u (k + 7)) i).1 ∧ b = nI (mk5 (fun c => lL (u k 1) (u (k + 8)) m c && !(lgN (lL (u k 1) (u (k + 8)) m) (u (k + 7)) i).2 c))) (cn5 (fun i => tB (nI m) (nI i))) ?_ ?_ (e_F_lt (by omega)) ⟨rfl, rfl, by congr 1; exact mk5_cong (fun c _ => by simp [lgN])⟩
    · rintro H a b v ⟨rfl, rfl, rfl⟩
      have z : nI (cn5 (fun i => tB (nI m) (nI i))) ≤ nI (cn5 (fun i => tB (nI m) (nI i))) := Int32.le_refl _
      simp only [d_X4_worthOfLeague_53, q_bitCount, p_cI, hbc, z, if_true]
    · rintro H i a b v hi ⟨rfl, rfl, rfl⟩ kk
      have z : ¬ nI (cn5 (fun i => tB (nI m) (nI i))) ≤ nI i := x_ge hi (by omega)
      simp only [d_X4_worthOfLeague_53, q_bitCount, p_cI, hbc, z, if_false, ge5 (show i < 5 by omega), q_greatest hs, q_hasCoat, p_ifz, x_s]
      cases e : pb (fun c => lL (v k 1) (v (k + 8)) m c && !(lgN (lL (v k 1) (v (k + 8)) m) (v (k + 7)) i).2 c) (v (k + 7)) 5 with
      | none =>
        simp only [oI, hB_6, Bool.false_eq_true, if_false]
        exact kk _ _ _ ⟨rfl, by rw [lgN_n e], by rw [lgN_n e]⟩
      | some b =>
        obtain ⟨hb, rb⟩ := pb_lt e
        have tb : tB (v k 1) (nI b) = true := by
          simp only [lL, Bool.and_eq_true] at rb
          exact rb.1.1
        simp only [oI, hB_tB hb, tb, if_true, p_gd (in5 hb), ix5 hb, p_lt, mk5_cl hb]
        refine kk _ _ _ ⟨rfl, by rw [lgN_s e], ?_⟩
        congr 1
        refine mk5_cong (fun c hc => ?_)
        rw [lgN_s e]
        show _ = (lL (v k 1) (v (k + 8)) m c && !((lgN (lL (v k 1) (v (k + 8)) m) (v (k + 7)) i).2 c || decide (c = b)))
        cases lL (v k 1) (v (k + 8)) m c <;> cases (lgN (lL (v k 1) (v (k + 8)) m) (v (k + 7)) i).2 c <;> cases decide (c = b) <;> rfl
  · rintro H i a b u hi ⟨rfl, rfl, rfl⟩ kk
    simp only [d_X4_worthOfLeague_7, ge5 hi, if_false, q_hasCoat, hB_tB hi, p_cI, p_ifz, p_gd (in5 hi), ix5 hi, tB_iff, p_lt, x_s]
    by_cases h1 : tB (u k 1) (nI i) = true
    · by_cases h2 : tB (nI m) (u (k + 8) i) = true
      · rw [if_pos h1, if_pos h2]
        exact kk _ _ _ ⟨rfl, rfl, pm_t hi (by simp [lL, h1, h2])⟩
      · rw [if_pos h1, if_neg h2]
        exact kk _ _ _ ⟨rfl, rfl, by rw [pm_f (by simp [lL, h1, h2])]⟩
    · rw [if_neg h1]
      exact kk _ _ _ ⟨rfl, rfl, by rw [pm_f (by simp [lL, h1])]⟩
theorem oI_neg {o : Option Nat} (h : ∀ b, o = some b → b < 5) : (oI o < 0) ↔ o = none := by
  cases o with
  | none => simp only [oI]; decide
  | some b =>
    have hb := h b rfl
    simp only [oI]
    exact ⟨fun q => absurd q (nI_pos (by omega)), fun q => by cases q⟩
theorem q_wlM {σ : Sg} {m : Nat} (hm : m < 32) : m_X7_worthOf (nI m) σ = some (wl (σ 100 1) (σ 102) (σ 101) m, σ) := by
  unfold m_X7_worthOf wl
  have hbt : btI (nI m) = nI (cn5 (fun i => tB (nI m) (nI i))) := by rw [← bc_bt hm]; exact bc_P hm rfl
  have hN := cn5_le (fun i => tB (nI m) (nI i))
  refine lp3_z (fun o => o = some ((lgN (lL (σ 100 1) (σ 102) m) (σ 101) (cn5 (fun i => tB (nI m) (nI i)))).1, σ)) (fun i a b v => v = σ ∧ b = (lgN (lL (σ 100 1) (σ 102) m) (σ 101) i).1 ∧ a = nI (mk5 (lgN (lL (σ 100 1) (σ 102) m) (σ 101) i).2)) (cn5 (fun i => tB (nI m) (nI i))) ?_ ?_ (e_F_lt (by omega)) ⟨rfl, rfl, by simp [lgN, mk5, bN]; rfl⟩
  · rintro H a b v ⟨rfl, rfl, rfl⟩
    have z : nI (cn5 (fun i => tB (nI m) (nI i))) ≤ nI (cn5 (fun i => tB (nI m) (nI i))) := Int32.le_refl _
    simp only [d_X7_worthOf_7, q_bits, p_cI, hbt, z, if_true]
  · rintro H i a b v hi ⟨rfl, rfl, rfl⟩ kk
    have z : ¬ nI (cn5 (fun i => tB (nI m) (nI i))) ≤ nI i := x_ge hi (by omega)
    simp only [d_X7_worthOf_7, q_bits, p_cI, hbt, z, if_false]
    refine lp5_z (fun o => o = some ((lgN (lL (v 100 1) (v 102) m) (v 101) (cn5 (fun i => tB (nI m) (nI i)))).1, v)) (fun j a b c d u => u = v ∧ a = nI (mk5 (lgN (lL (v 100 1) (v 102) m) (v 101) i).2) ∧ b = (lgN (lL (v 100 1) (v 102) m) (v 101) i).1 ∧ c = nI i ∧ d = oI (pb (fun c => lL (v 100 1) (v 102) m c && !(lgN (lL (v 100 1) (v 102) m) (v 101) i).2 c) (v 101) j)) 5 ?_ ?_ (e_F_lt (by omega)) ⟨rfl, rfl, rfl, rfl, rfl⟩
    · rintro H2 a b c d u ⟨rfl, rfl, rfl, rfl, rfl⟩
      simp only [d_X7_worthOf_23, le5, if_true, oI_neg (fun b hb => (pb_lt hb).1), x_s, p_lt]
      cases e : pb (fun c => lL (u 100 1) (u 102) m c && !(lgN (lL (u 100 1) (u 102) m) (u 101) i).2 c) (u 101) 5 with
      | none =>
        simp only [if_true]
        exact kk _ _ _ ⟨rfl, by rw [lgN_n e], by rw [lgN_n e]⟩
      | some b =>
        obtain ⟨hb, rb⟩ := pb_lt e
        have nn : ¬ (some b = none) := fun q => by cases q
        simp only [nn, if_false, oI, p_gd (in5 hb), ix5 hb, mk5_or hb]
        exact kk _ _ _ ⟨rfl, by rw [lgN_s e], by rw [lgN_s e]⟩
    · rintro H2 j a b c d u hj ⟨rfl, rfl, rfl, rfl, rfl⟩ kk2
      have n10 : ¬ (1 : Int32) = 0 := by decide
      simp only [d_X7_worthOf_23, ge5 hj, if_false, q_has, p_cI, p_ifz, p_gd (in5 hj), ix5 hj, tB_mk5 _ hj, b_X7_worthOf_68, b_X7_worthOf_69, b_X7_worthOf_98, b_X7_worthOf_103, b_X7_worthOf_105, n10, if_true, x_s]
      have keep : ¬ (lL (u 100 1) (u 102) m j && !(lgN (lL (u 100 1) (u 102) m) (u 101) i).2 j) = true → H2 (nI (mk5 (lgN (lL (u 100 1) (u 102) m) (u 101) i).2)) (lgN (lL (u 100 1) (u 102) m) (u 101) i).1 (nI i) (oI (pb (fun c => lL (u 100 1) (u 102) m c && !(lgN (lL (u 100 1) (u 102) m) (u 101) i).2 c) (u 101) j)) (nI (j + 1)) u = some ((lgN (lL (u 100 1) (u 102) m) (u 101) (cn5 (fun i => tB (nI m) (nI i)))).1, u) := fun q =>
        kk2 _ _ _ _ _ ⟨rfl, rfl, rfl, rfl, by simp only [pb, q, if_false, Bool.false_eq_true]⟩
      by_cases h1 : tB (u 100 1) (nI j) = true
      · rw [if_pos h1]
        by_cases h2 : tB (nI m) (u 102 j) = true
        · rw [if_pos h2]
          by_cases h3 : (lgN (lL (u 100 1) (u 102) m) (u 101) i).2 j = true
          · rw [if_pos h3]; exact keep (by simp [h3])
          · rw [if_neg h3]
            have rr : (lL (u 100 1) (u 102) m j && !(lgN (lL (u 100 1) (u 102) m) (u 101) i).2 j) = true := by simp [lL, h1, h2, h3]
            cases e : pb (fun c => lL (u 100 1) (u 102) m c && !(lgN (lL (u 100 1) (u 102) m) (u 101) i).2 c) (u 101) j with
            | none =>
              have z6 : oI none < 0 := by decide
              rw [if_pos z6]
              exact kk2 _ _ _ _ _ ⟨rfl, rfl, rfl, rfl, by simp only [pb, rr, if_true, e, oI]⟩
            | some b =>
              have hb : b < 5 := by have := (pb_lt e).1; omega
              have z6 : ¬ oI (some b) < 0 := nI_pos (n := b) (by omega)
              rw [if_neg z6]
              simp only [oI, p_gd (in5 hb), ix5 hb]
              by_cases q : u 101 j ≤ u 101 b
              · rw [if_pos q]
                exact kk2 _ _ _ _ _ ⟨rfl, rfl, rfl, rfl, by simp only [pb, rr, if_true, e, q, oI]⟩
              · rw [if_neg q]
                exact kk2 _ _ _ _ _ ⟨rfl, rfl, rfl, rfl, by simp only [pb, rr, if_true, e, q, if_false, oI]⟩
        · rw [if_neg h2]; exact keep (by simp [lL, h2])
      · rw [if_neg h1]; exact keep (by simp [lL, h1])
