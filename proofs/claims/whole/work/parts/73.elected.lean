/-! ===== elections ===== -/
theorem smI_cong' {b b' : Nat → Bool} {v v' : Nat → Int32} : ∀ n, (∀ i, i < n → b i = b' i) → (∀ i, i < n → b i = true → v i = v' i) → smI b v n = smI b' v' n
  | 0, _, _ => rfl
  | n + 1, h, g => by
    rw [smI_s, smI_s, smI_cong' n (fun i hi => h i (by omega)) (fun i hi => g i (by omega)), ← h n (by omega)]
    by_cases q : b n = true
    · rw [if_pos q, if_pos q, g n (by omega) q]
    · rw [if_neg q, if_neg q]
def wnF (V : Nat → Int32) : Nat → Int32 × Int32
  | 0 => (0, -1)
  | i + 1 => if V i ≤ (wnF V i).2 then wnF V i else (nI i, V i)
theorem wnF_cong {V V' : Nat → Int32} : ∀ n, (∀ i, i < n → V i = V' i) → wnF V n = wnF V' n
  | 0, _ => rfl
  | n + 1, h => by
    unfold wnF
    rw [wnF_cong n (fun i hi => h i (by omega)), h n (by omega)]
theorem wnF_ix {V : Nat → Int32} : ∀ n, ∃ j, j ≤ n - 1 ∧ (wnF V n).1 = nI j
  | 0 => ⟨0, by omega, rfl⟩
  | n + 1 => by
    unfold wnF
    obtain ⟨j, h1, h2⟩ := wnF_ix (V := V) n
    split
    · exact ⟨j, by omega, h2⟩
    · exact ⟨n, by omega, rfl⟩
theorem ge3 {i : Nat} (h : i < 3) : ¬ (3 : Int32) ≤ nI i := x_ge (n := 3) h (by decide)
theorem le3 : (3 : Int32) ≤ nI 3 := by decide
def vtS (P : Int32) (ch v : Nat → Int32) (c : Nat) : Int32 := smI (fun p => tB P (nI p) && decide (ch p = nI c)) v 5
theorem q_winC {k : Nat} {s : Sg} : m_X3_winner k s = some ((wnF (vtS (s k 0) (s (k + 6)) (s 62)) 3).1, s) := by
  unfold m_X3_winner
  refine lp3_z (fun o => o = some ((wnF (vtS (s k 0) (s (k + 6)) (s 62)) 3).1, s)) (fun i a b u => u = s ∧ a = (wnF (vtS (s k 0) (s (k + 6)) (s 62)) i).1 ∧ b = (wnF (vtS (s k 0) (s (k + 6)) (s 62)) i).2) 3 ?_ ?_ (e_F_lt (by omega)) ⟨rfl, rfl, rfl⟩
  · rintro H a b u ⟨rfl, rfl, rfl⟩
    simp only [d_X3_winner_7, le3, if_true]
  · rintro H i a b u hi ⟨rfl, rfl, rfl⟩ kk
    simp only [d_X3_winner_7, ge3 hi, if_false]
    refine lp5_z (fun o => o = some ((wnF (vtS (u k 0) (u (k + 6)) (u 62)) 3).1, u)) (fun j a' b' c' d' t => t = u ∧ a' = (wnF (vtS (u k 0) (u (k + 6)) (u 62)) i).1 ∧ b' = (wnF (vtS (u k 0) (u (k + 6)) (u 62)) i).2 ∧ c' = nI i ∧ d' = smI (fun p => tB (u k 0) (nI p) && decide (u (k + 6) p = nI i)) (u 62) j) 5 ?_ ?_ (e_F_lt (by omega)) ⟨rfl, rfl, rfl, rfl, rfl⟩
    · rintro H2 a' b' c' d' t ⟨rfl, rfl, rfl, rfl, rfl⟩
      simp only [d_X3_winner_19, le5, if_true, x_s]
      have ev : smI (fun p => tB (t k 0) (nI p) && decide (t (k + 6) p = nI i)) (t 62) 5 = vtS (t k 0) (t (k + 6)) (t 62) i := rfl
      rw [ev]
      by_cases q : vtS (t k 0) (t (k + 6)) (t 62) i ≤ (wnF (vtS (t k 0) (t (k + 6)) (t 62)) i).2
      · rw [if_pos q]
        exact kk _ _ _ ⟨rfl, by rw [wnF, if_pos q], by rw [wnF, if_pos q]⟩
      · rw [if_neg q]
        exact kk _ _ _ ⟨rfl, by rw [wnF, if_neg q], by rw [wnF, if_neg q]⟩
    · rintro H2 j a' b' c' d' t hj ⟨rfl, rfl, rfl, rfl, rfl⟩ kk2
      simp only [d_X3_winner_19, ge5 hj, if_false, q_hasPerson, hB_tB hj, p_cI, p_ifz, p_gd (in5 hj), ix5 hj, p_lt, x_s]
      by_cases q1 : tB (t k 0) (nI j) = true
      · rw [if_pos q1]
        by_cases q2 : t (k + 6) j = nI i
        · rw [if_pos q2]
          exact kk2 _ _ _ _ _ ⟨rfl, rfl, rfl, rfl, by rw [smI_s, if_pos (by rw [q1, decide_eq_true q2]; rfl)]⟩
        · rw [if_neg q2]
          exact kk2 _ _ _ _ _ ⟨rfl, rfl, rfl, rfl, by rw [smI_s, if_neg (by rw [decide_eq_false q2, Bool.and_false]; decide)]⟩
      · rw [if_neg q1]
        exact kk2 _ _ _ _ _ ⟨rfl, rfl, rfl, rfl, by rw [smI_s, if_neg (by simp only [q1, Bool.false_and, Bool.false_eq_true, not_false_eq_true])]⟩
theorem q_winM {u : Sg} {v : Nat → Int32} (hv : ∀ i, i < 5 → m_X7_worth (nI i) u = some (v i, u)) : m_X7_winner u = some ((wnF (vtS (u 100 0) (u 111) v) 3).1, u) := by
  unfold m_X7_winner
  refine lp3_z (fun o => o = some ((wnF (vtS (u 100 0) (u 111) v) 3).1, u)) (fun i a b t => t = u ∧ a = (wnF (vtS (u 100 0) (u 111) v) i).1 ∧ b = (wnF (vtS (u 100 0) (u 111) v) i).2) 3 ?_ ?_ (e_F_lt (by omega)) ⟨rfl, rfl, rfl⟩
  · rintro H a b t ⟨rfl, rfl, rfl⟩
    simp only [d_X7_winner_6, le3, if_true]
  · rintro H i a b t hi ⟨rfl, rfl, rfl⟩ kk
    simp only [d_X7_winner_6, ge3 hi, if_false]
    refine lp5_z (fun o => o = some ((wnF (vtS (t 100 0) (t 111) v) 3).1, t)) (fun j a' b' c' d' w => w = t ∧ a' = (wnF (vtS (t 100 0) (t 111) v) i).1 ∧ b' = (wnF (vtS (t 100 0) (t 111) v) i).2 ∧ c' = nI i ∧ d' = smI (fun p => tB (t 100 0) (nI p) && decide (t 111 p = nI i)) v j) 5 ?_ ?_ (e_F_lt (by omega)) ⟨rfl, rfl, rfl, rfl, rfl⟩
    · rintro H2 a' b' c' d' w ⟨rfl, rfl, rfl, rfl, rfl⟩
      simp only [d_X7_winner_17, le5, if_true, b_X7_winner_78, b_X7_winner_91, x_s]
      have ev : smI (fun p => tB (w 100 0) (nI p) && decide (w 111 p = nI i)) v 5 = vtS (w 100 0) (w 111) v i := rfl
      rw [ev]
      by_cases q : vtS (w 100 0) (w 111) v i ≤ (wnF (vtS (w 100 0) (w 111) v) i).2
      · rw [if_pos q, if_pos q]
        exact kk _ _ _ ⟨rfl, by rw [wnF, if_pos q], by rw [wnF, if_pos q]⟩
      · rw [if_neg q, if_neg q]
        exact kk _ _ _ ⟨rfl, by rw [wnF, if_neg q], by rw [wnF, if_neg q]⟩
    · rintro H2 j a' b' c' d' w hj ⟨rfl, rfl, rfl, rfl, rfl⟩ kk2
      have a0 : ∀ y : Int32, y + 0 = y := fun y => by simp
      simp only [d_X7_winner_17, ge5 hj, if_false, q_has, p_cI, p_ifz, p_gd (in5 hj), ix5 hj, hv j hj, b_X7_winner_57, b_X7_winner_58, p_lt, x_s, a0]
      by_cases q1 : tB (w 100 0) (nI j) = true
      · rw [if_pos q1]
        by_cases q2 : w 111 j = nI i
        · rw [if_pos q2]
          exact kk2 _ _ _ _ _ ⟨rfl, rfl, rfl, rfl, by rw [smI_s, if_pos (by rw [q1, decide_eq_true q2]; rfl)]⟩
        · rw [if_neg q2]
          exact kk2 _ _ _ _ _ ⟨rfl, rfl, rfl, rfl, by rw [smI_s, if_neg (by rw [decide_eq_false q2, Bool.and_false]; decide)]⟩
      · rw [if_neg q1]
        exact kk2 _ _ _ _ _ ⟨rfl, rfl, rfl, rfl, by rw [smI_s, if_neg (by simp only [q1, Bool.false_and, Bool.false_eq_true, not_false_eq_true])]⟩
def wnW (σ : Sg) (w : Nat → Int32) : Int32 := (wnF (vtS (σ 1 0) (σ 7) (fun p => wv (σ 8) (σ 12) (σ 1 2) (w p))) 3).1
theorem wnW_ix (σ : Sg) (w : Nat → Int32) : ∃ j, j < 3 ∧ wnW σ w = nI j := by
  obtain ⟨j, h1, h2⟩ := wnF_ix (V := vtS (σ 1 0) (σ 7) (fun p => wv (σ 8) (σ 12) (σ 1 2) (w p))) 3
  exact ⟨j, by omega, h2⟩
theorem wnW_eq {σ : Sg} {P : Int32} {ch v w : Nat → Int32} (h0 : P = σ 1 0) (h1 : ∀ p, p < 5 → ch p = σ 7 p) (h2 : ∀ p, p < 5 → tB P (nI p) = true → v p = wv (σ 8) (σ 12) (σ 1 2) (w p)) : (wnF (vtS P ch v) 3).1 = wnW σ w := by
  subst h0
  unfold wnW
  have e : wnF (vtS (σ 1 0) ch v) 3 = wnF (vtS (σ 1 0) (σ 7) (fun p => wv (σ 8) (σ 12) (σ 1 2) (w p))) 3 := wnF_cong 3 (fun c hc => by
    unfold vtS
    exact smI_cong' 5 (fun p hp => by rw [h1 p hp]) (fun p hp hb => h2 p hp (by rw [Bool.and_eq_true] at hb; exact hb.1)))
  rw [e]
theorem wnW_cong {σ : Sg} {w w' : Nat → Int32} (h : ∀ p, p < 5 → mc (w p) = mc (w' p)) : wnW σ w = wnW σ w' :=
  wnW_eq rfl (fun _ _ => rfl) (fun p hp _ => by rw [← wv_mc, h p hp, wv_mc])
/-- the reference's winner, of what is on -/
theorem q_winR {σ u : Sg} {w : Nat → Int32} (hI : Inv σ) (hr : rF σ u) (hw : ∀ p, p < 5 → w p = -1 ∨ ∃ c, c < 5 ∧ w p = nI c) (ho : ∀ p, p < 5 → u 114 p = mc (w p)) : m_X7_winner u = some (wnW σ w, u) := by
  obtain ⟨w1, ⟨a1, a2, a3, a4, b5, b6⟩, w3, w4⟩ := id hI
  rw [q_winM (v := fun p => wv (u 118) (u 105) (u 100 23) (u 114 p)) (fun i hi => by
    obtain ⟨c, hc, ec⟩ := code_ok (hw i hi)
    have e : u 114 i = nI c := by rw [ho i hi]; exact ec
    rw [q_worth hi hc e]
    show _ = some (wv (u 118) (u 105) (u 100 23) (u 114 i), u)
    rw [e])]
  rw [wnW_eq (w := w) (by rw [hr.1 0 (by decide)]; exact a1) (fun p hp => by rw [hr.2.1 111 (by omega) (by omega)]; exact (b5 p hp).2.2.2.2.2.1) (fun p hp _ => by
    show wv (u 118) (u 105) (u 100 23) (u 114 p) = _
    rw [ho p hp, wv_mc, hr.2.2.1]
    exact wv_cong (fun i hi => hr.2.2.2 i hi) (fun i hi => by rw [hr.2.1 105 (by omega) (by omega)]; exact (b5 i hi).2.2.2.2.2.2.2.2.2.2))]
def wD (σ : Sg) (D : Nat → Nat) : Int32 := wnW σ (fun p => dI (D p))
theorem wD_cong {σ : Sg} {D E : Nat → Nat} (h : ∀ q, q < 5 → D q = E q) : wD σ D = wD σ E := wnW_cong (fun p hp => by rw [h p hp])
def fiN (x : Int32) : Int32 := if x = 1 then 0 else if x = 2 then 1 else if x = 4 then 2 else -6
def omC (σ : Sg) : Nat → Int32 := fd iOr 0 (VC σ) (fun k => jsl 1 (wD σ (dg k)))
theorem or_2 : ∀ m, m < 8 → ∀ l, l < 3 → ∃ m', m' < 8 ∧ nI m ||| jsl 1 (nI l) = nI m' ∧ ∀ i, i < 3 → m / 2 ^ i % 2 = 1 → m' / 2 ^ i % 2 = 1 := fun m hm l hl => ⟨m ||| 2 ^ l, by
    have : m ||| 2 ^ l < 2 ^ 3 := Nat.or_lt_two_pow (by omega) (Nat.pow_lt_pow_right (by decide) hl)
    exact this, by
    have e : jsl 1 (nI l) = nI (1 * 2 ^ l) := jsl_nI (m := 1) (by omega)
    rw [e, nI_or, Nat.one_mul], fun i hi h => by
    have : ∀ m, m < 8 → ∀ l, l < 3 → ∀ i, i < 3 → m / 2 ^ i % 2 = 1 → (m ||| 2 ^ l) / 2 ^ i % 2 = 1 := by decide +kernel
    exact this m hm l hl i hi h⟩
def Q2 (i j : Nat) (x : Int32) : Prop := ∃ m, m < 8 ∧ x = nI m ∧ m / 2 ^ i % 2 = 1 ∧ m / 2 ^ j % 2 = 1
theorem Q2_mono {σ : Sg} {i j a : Nat} (hi : i < 3) (hj : j < 3) (h : Q2 i j (omC σ a)) : ∀ b, Q2 i j (omC σ (a + b))
  | 0 => h
  | b + 1 => by
    obtain ⟨m, m1, m2, m3, m4⟩ := Q2_mono hi hj h b
    rw [← Nat.add_assoc]
    cases hv : VC σ (a + b)
    · have e : omC σ (a + b + 1) = omC σ (a + b) := fd_f hv
      rw [e]; exact ⟨m, m1, m2, m3, m4⟩
    · have e : omC σ (a + b + 1) = omC σ (a + b) ||| jsl 1 (wD σ (dg (a + b))) := fd_t (op := iOr) hv
      obtain ⟨l, hl, el⟩ := wnW_ix σ (fun p => dI (dg (a + b) p))
      obtain ⟨m', n1, n2, n3⟩ := or_2 m m1 l hl
      rw [e, m2, show wD σ (dg (a + b)) = nI l from el, n2]
      exact ⟨m', n1, rfl, n3 i hi m3, n3 j hj m4⟩
def q2b (m i j : Nat) : Bool := decide (i = j) || decide (m / 2 ^ i % 2 ≠ 1) || decide (m / 2 ^ j % 2 ≠ 1) || decide (fiN (nI m) = -6)
theorem q2_all : ∀ m, m < 8 → ∀ i, i < 3 → ∀ j, j < 3 → q2b m i j = true := by decide +kernel
theorem Q2_fi {i j : Nat} (hi : i < 3) (hj : j < 3) (hn : i ≠ j) {x : Int32} (h : Q2 i j x) : fiN x = -6 := by
  obtain ⟨m, m1, rfl, m3, m4⟩ := h
  have q := q2_all m m1 i hi j hj
  unfold q2b at q
  simp only [Bool.or_eq_true, decide_eq_true_eq] at q
  rcases q with ((q | q) | q) | q
  · exact absurd q hn
  · exact absurd m3 q
  · exact absurd m4 q
  · exact q
theorem one_2 : ∀ i, i < 3 → ∀ j, j < 3 → ∃ m, m < 8 ∧ jsl 1 (nI i) ||| jsl 1 (nI j) = nI m ∧ m / 2 ^ i % 2 = 1 ∧ m / 2 ^ j % 2 = 1 := fun i hi j hj => ⟨2 ^ i ||| 2 ^ j, by
    have : 2 ^ i ||| 2 ^ j < 2 ^ 3 := Nat.or_lt_two_pow (Nat.pow_lt_pow_right (by decide) hi) (Nat.pow_lt_pow_right (by decide) hj)
    exact this, by
    have e1 : jsl 1 (nI i) = nI (1 * 2 ^ i) := jsl_nI (m := 1) (by omega)
    have e2 : jsl 1 (nI j) = nI (1 * 2 ^ j) := jsl_nI (m := 1) (by omega)
    rw [e1, e2, nI_or, Nat.one_mul, Nat.one_mul], by
    have : ∀ i, i < 3 → ∀ j, j < 3 → (2 ^ i ||| 2 ^ j) / 2 ^ i % 2 = 1 := by decide +kernel
    exact this i hi j hj, by
    have : ∀ i, i < 3 → ∀ j, j < 3 → (2 ^ i ||| 2 ^ j) / 2 ^ j % 2 = 1 := by decide +kernel
    exact this i hi j hj⟩
theorem fi_1 : ∀ j, j < 3 → fiN (jsl 1 (nI j)) = nI j := by decide
theorem q_X5win {σ s : Sg} {n k : Nat} (h : At σ n k s) : ∃ t, m_X5_winner s = some (wD σ (dg k), t) ∧ ∀ c, c ≠ 62 → c ≠ 63 → t c = s c := by
  obtain ⟨t, t1, t2, -, t4⟩ := q_waySit (fun q _ => dg_lt k q) h.1 h.2.1.1
  have f := h.1
  refine ⟨t, ?_, t2⟩
  unfold m_X5_winner
  rw [t1, p_cV, q_winC, p_cI]
  have e0 : t 66 0 = σ 1 0 := by rw [t2 66 (by decide) (by decide)]; exact f.2.1 0 (by decide)
  rw [wnW_eq (w := fun p => dI (dg k p)) e0 (fun p hp => by rw [t2 (66 + 6) (by decide) (by decide)]; exact f.2.2.1 6 p (by decide) (by decide) (by decide) (by simp [rng, hp])) (fun p hp tp => t4 p hp (by rw [← e0]; exact tp))]
  rfl
theorem q_sure {σ : Sg} (hI : Inv σ) : ∃ u, m_X6_sureWinner σ = some (fiN (omC σ 7776), u) ∧ cS σ u := by
  unfold m_X6_sureWinner
  obtain ⟨s0, b1, b2, b3⟩ := q_begin hI
  rw [b1, p_cV]
  have n6 : ∀ j, j < 3 → ¬ nI j = -6 := fun j hj => nI_n6 (by omega)
  have fin : ∀ (a : Int32) (x : Int32), (a = -6 ∧ x = 0) ∨ (∃ j, j < 3 ∧ a = nI j ∧ x = jsl 1 (nI j)) → a = fiN x := fun a x h => by
    rcases h with ⟨rfl, rfl⟩ | ⟨j, hj, rfl, rfl⟩
    · decide
    · exact (fi_1 j hj).symm
  refine lp2_z (fun o => ∃ u : Sg, o = some (fiN (omC σ 7776), u) ∧ cS σ u) (fun n a u => (∃ k, At σ n k u ∧ ((a = -6 ∧ omC σ k = 0) ∨ ∃ j, j < 3 ∧ a = nI j ∧ omC σ k = jsl 1 (nI j))) ∨ (wF σ u ∧ u 65 4 = 0 ∧ ((a = -6 ∧ omC σ 7776 = 0) ∨ ∃ j, j < 3 ∧ a = nI j ∧ omC σ 7776 = jsl 1 (nI j)))) 7776 ?_ ?_ (e_F_lt (by omega)) (Or.inl ⟨0, ⟨b2, b3, Nat.le_refl 0⟩, Or.inl ⟨rfl, rfl⟩⟩)
  · rintro H a u (⟨k, h1, -⟩ | ⟨h1, h2, h3⟩)
    · have := h1.2.1.2.2.2; have := h1.2.2; omega
    · simp only [d_X6_sureWinner_16, le7776, if_true]
      exact ⟨u, by rw [fin _ _ h3], h1.1⟩
  · rintro H n a u hn (⟨k, h1, h3⟩ | ⟨h1, h2, h3⟩) kk
    · have n10 : ¬ (1 : Int32) = 0 := by decide
      have k7 := h1.2.1.2.2.2
      obtain ⟨t, t1, t2⟩ := q_X5win h1
      obtain ⟨i, hi, ei⟩ := wnW_ix σ (fun p => dI (dg k p))
      have ei' : wD σ (dg k) = nI i := ei
      have eo : omC σ (k + 1) = omC σ k ||| jsl 1 (nI i) := by rw [← ei']; exact fd_t (op := iOr) (at_V h1)
      have go : omC σ (k + 1) = jsl 1 (nI i) → ∃ w : Sg, e_cV (m_X5_goOn t) (fun σ4 => H (nI i) (nI (n + 1)) σ4) = some (fiN (omC σ 7776), w) ∧ cS σ w := by
        intro e
        obtain ⟨s', r1, r2, -, -, r3⟩ := at_next h1 (fun c c1 c2 _ => t2 c c1 c2)
        rw [r1, p_cV]
        rcases r3 with ⟨q1, q2⟩ | ⟨k', q1, q2, q3⟩
        · exact kk _ _ (Or.inr ⟨r2, q1, Or.inr ⟨i, hi, rfl, by rw [← e]; exact fd_to k7 q2⟩⟩)
        · exact kk _ _ (Or.inl ⟨k', q2, Or.inr ⟨i, hi, rfl, by rw [← e]; exact fd_to q1 q3⟩⟩)
      simp only [d_X6_sureWinner_16, ge7776 hn, if_false, h1.2.1.2.2.1, n10, t1, p_cI, ei', b_X6_sureWinner_55, x_s]
      rcases h3 with ⟨rfl, h4⟩ | ⟨j, hj, rfl, h4⟩
      · simp only [if_true]
        exact go (by rw [eo, h4, Int32.zero_or])
      · simp only [n6 j hj, if_false]
        by_cases q : nI j = nI i
        · rw [if_pos q]
          exact go (by rw [eo, h4, q, Int32.or_self])
        · rw [if_neg q]
          have hne : j ≠ i := fun e => q (by rw [e])
          obtain ⟨m, m1, m2, m3, m4⟩ := one_2 j hj i hi
          have hq : Q2 j i (omC σ (k + 1)) := ⟨m, m1, by rw [eo, h4]; exact m2, m3, m4⟩
          have := Q2_mono hj hi hq (7776 - (k + 1))
          rw [show k + 1 + (7776 - (k + 1)) = 7776 by omega] at this
          exact ⟨t, by rw [Q2_fi hj hi hne this], fun c hc => by rw [t2 c (by omega) (by omega)]; exact h1.1.1 c hc⟩
    · simp only [d_X6_sureWinner_16, ge7776 hn, if_false, h2, if_true]
      exact ⟨u, by rw [fin _ _ h3], h1.1⟩
theorem op_elected (x : Int32) : SimI (m_X6_elected x) (m_X7_elected x) := by
  intro σ hI
  obtain ⟨w1, w2, w3, w4⟩ := id hI
  obtain ⟨a1, a2, a3, a4, b5, b6⟩ := id w2
  unfold m_X6_elected m_X7_elected
  simp only [q_within, q_in, p_cI, p_ifz]
  cases hx : inB x 0 1
  · exact ⟨_, _, σ, rfl, by simp only [Bool.false_eq_true, if_false], hI⟩
  · simp only [if_true]
    by_cases x0 : x = 0
    · simp only [x0, if_true]
      obtain ⟨s, l1, l2, l3, l4, l5⟩ := q_lay (k := 1) (σ := σ) tw_1
      have hs : cS σ s := fun c hc => l2 c (by omega) (by omega) (by omega)
      obtain ⟨t, t1, t2⟩ := q_asNow (σ := s)
      have ht : rF σ t := t2.rF hI (fun c hc => hs c (by omega))
      have hIt : Inv t := (hI.ps hs.ps).ps t2.ps
      refine ⟨wnW σ (σ 2), s, t, ?_, ?_, hIt⟩
      · rw [l1, p_cV, q_winC, p_cI]
        have e0 : s 1 0 = σ 1 0 := by rw [hs 1 (by omega)]
        rw [wnW_eq (w := σ 2) e0 (fun p hp => by rw [hs (1 + 6) (by omega)]) (fun p hp tp => by rw [l4 p hp, tvl, if_pos (by rw [← e0]; exact tp)])]
      · rw [t1, p_cV, q_winR (w := σ 2) hI ht (wear_ok w1) (fun p hp => by rw [(t2.2.2.2 p hp).1, hs 106 (by omega)]; exact (b5 p hp).1), p_cI]
    · simp only [x0, if_false]
      obtain ⟨u, u1, u2⟩ := q_sure hI
      obtain ⟨t0, t1, t2⟩ := q_asNow (σ := u)
      have esw : omC σ 7776 = fd iOr 0 (VR σ) (fun k => jsl 1 (wD σ (dR k))) 7776 := fd_swap cM_or (V := vB (peS σ) (cpS σ)) (f := fun D => jsl 1 (wD σ D)) (fun D E h => vB_cong h) (fun D E h => by rw [wD_cong h])
      let G : Nat → Int32 := fd iOr 0 (VR σ) (fun k => jsl 1 (wD σ (dR k)))
      have hM : ∃ v, e_lp2 (d_X7_elected_29 x (fun x2q10 σ10 => (if x2q10 = 1 then some (0, σ10) else (if x2q10 = 2 then some (1, σ10) else (if x2q10 = 4 then some (2, σ10) else some ((-6), σ10)))))) e_F 0 0 t0 = some (fiN (G 7776), v) ∧ mS u v := by
        refine lp2_z (fun o => ∃ v : Sg, o = some (fiN (G 7776), v) ∧ mS u v) (fun n a v => mS u v ∧ rF σ v ∧ a = G n) 7776 ?_ ?_ (e_F_lt (by omega)) ⟨t2.mS, t2.rF hI (fun c hc => u2 c (by omega)), rfl⟩
        · rintro H a v ⟨h1, h2, rfl⟩
          simp only [d_X7_elected_29, le7776, if_true]
          refine ⟨v, ?_, h1⟩
          unfold fiN
          by_cases q1 : G 7776 = 1
          · rw [if_pos q1, if_pos q1]
          · rw [if_neg q1, if_neg q1]
            by_cases q2 : G 7776 = 2
            · rw [if_pos q2, if_pos q2]
            · rw [if_neg q2, if_neg q2]
              by_cases q3 : G 7776 = 4
              · rw [if_pos q3, if_pos q3]
              · rw [if_neg q3, if_neg q3]
        · rintro H n a v hn ⟨h1, h2, rfl⟩ kk
          obtain ⟨w, v1, v2, v3⟩ := q_dress (u := v) hn
          have hv : rF σ w := h2.mv (fun c c1 _ _ => v2 c c1)
          have hm : mS u w := h1.tr ⟨fun c hc => v2 c (by omega), fun j _ => by rw [v2 100 (by decide)]⟩
          have hD : ∀ q, q < 5 → dR n q < 6 := fun q _ => dR_lt n q
          have hw : m_X7_winner w = some (wD σ (dR n), w) := q_winR (w := fun p => dI (dR n p)) hI hv (fun p hp => dI_ok (hD p hp)) v3
          simp only [d_X7_elected_29, ge7776 hn, if_false, v1, p_cV, q_isWay hI hD hv v3, p_cI, p_ifz, hw, b_X7_elected_59, p_lt, x_s]
          cases hV : vB (peS σ) (cpS σ) (dR n)
          · simp only [Bool.false_eq_true, if_false]
            exact kk _ _ ⟨hm, hv, by rw [Int32.or_zero]; exact (fd_f hV).symm⟩
          · simp only [if_true]
            have eG : G (n + 1) = G n ||| jsl 1 (wD σ (dR n)) := fd_t (op := iOr) hV
            exact kk _ _ ⟨hm, hv, eG.symm⟩
      obtain ⟨v, v1, v2⟩ := hM
      refine ⟨fiN (omC σ 7776), u, v, by rw [u1, p_cI], ?_, (hI.ps u2.ps).ps v2.ps⟩
      rw [t1, p_cV, v1, esw]
