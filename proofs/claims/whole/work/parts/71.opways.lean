theorem cM_nat : cM (fun a b : Nat => a + b) 0 := ⟨fun a b c => Nat.add_assoc a b c, fun a b => Nat.add_comm a b, fun a => Nat.add_zero a⟩
theorem cM_or : cM (fun a b : Int32 => a ||| b) 0 := ⟨fun a b c => Int32.or_assoc a b c, fun a b => Int32.or_comm a b, fun a => Int32.or_zero⟩
theorem cM_set : cM (fun (a b : Nat → Bool) r => a r || b r) (fun _ => false) := ⟨fun a b c => funext (fun r => Bool.or_assoc _ _ _), fun a b => funext (fun r => Bool.or_comm _ _), fun a => funext (fun r => Bool.or_false _)⟩
abbrev nAdd : Nat → Nat → Nat := fun a b => a + b
abbrev iOr : Int32 → Int32 → Int32 := fun a b => a ||| b
abbrev sOr : (Nat → Bool) → (Nat → Bool) → Nat → Bool := fun a b r => a r || b r
def VC (σ : Sg) (k : Nat) : Bool := vB (peS σ) (cpS σ) (dg k)
def VR (σ : Sg) (k : Nat) : Bool := vB (peS σ) (cpS σ) (dR k)
/-- where the class stands among its ways -/
def At (σ : Sg) (n k : Nat) (s : Sg) : Prop := wF σ s ∧ Wy (peS σ) (cpS σ) k s ∧ n ≤ k
theorem at_next {σ s t : Sg} {n k : Nat} (h : At σ n k s) (g : ∀ c, c ≠ 62 → c ≠ 63 → c ≠ 81 → t c = s c) : ∃ s', m_X5_goOn t = some s' ∧ wF σ s' ∧ s' 81 = t 81 ∧ (∀ r, r < 5 → s' 62 r = t 62 r) ∧
    ((s' 65 4 = 0 ∧ ∀ e, k < e → e < 7776 → VC σ e = false) ∨ ∃ k', k < k' ∧ At σ (n + 1) k' s' ∧ ∀ e, k < e → e < k' → VC σ e = false) := by
  obtain ⟨h1, ⟨h2, h3, h4, h5⟩, h6⟩ := h
  have ht : Wy (peS σ) (cpS σ) k t := ⟨⟨fun q hq => by rw [g 67 (by decide) (by decide) (by decide)]; exact h2.1 q hq, fun c hc => by rw [g 80 (by decide) (by decide) (by decide)]; exact h2.2 c hc⟩, h3, by rw [g 65 (by decide) (by decide) (by decide)]; exact h4, h5⟩
  have wt : wF σ t := h1.mv (fun c c1 c2 c3 c4 c5 c6 => g c c1 c2 c6)
  obtain ⟨s', r1, r2, r3⟩ := q_goOn (s := t) (fun c _ => cpS_2 σ c) (fun p hp => by rw [wt.2.1 0 (by decide)]; rfl) ht
  have ws : wF σ s' := wt.mv (fun c c1 c2 c3 c4 c5 c6 => r2 c c4 c5 c3)
  refine ⟨s', r1, ws, r2 81 (by decide) (by decide) (by decide), fun r _ => by rw [r2 62 (by decide) (by decide) (by decide)], ?_⟩
  rcases r3 with q | ⟨k', q1, q2, q3⟩
  · exact Or.inl q
  · exact Or.inr ⟨k', q1, ⟨ws, q2, by omega⟩, q3⟩
theorem at_V {σ s : Sg} {n k : Nat} (h : At σ n k s) : VC σ k = true := h.2.1.2.1
theorem ge7776 {i : Nat} (h : i < 7776) : ¬ (7776 : Int32) ≤ nI i := x_ge (n := 7776) h (by decide)
theorem le7776 : (7776 : Int32) ≤ nI 7776 := by decide
def wyF (σ : Sg) (x : Int32) (s : Nat) (D : Nat → Nat) : Nat := if x = -1 then 1 else if sK σ D x.toNatClampNeg = s then 1 else 0
theorem q_X5seat {σ s : Sg} {n k p : Nat} (hp : p < 5) (tp : tB (σ 1 0) (nI p) = true) (h : At σ n k s) : ∃ t, m_X5_seatOf (nI p) s = some (nI (sK σ (dg k) p), t) ∧ ∀ c, c ≠ 62 → c ≠ 63 → t c = s c := by
  obtain ⟨t, t1, t2, t3, -⟩ := q_waySit (fun q _ => dg_lt k q) h.1 h.2.1.1
  refine ⟨t, ?_, t2⟩
  unfold m_X5_seatOf
  rw [t1, p_cV, q_seatOf5 hp, p_cI, t3 p hp, if_pos tp]
theorem q_waysC {σ : Sg} {x : Int32} {s : Nat} (hI : Inv σ) (hs : s ≤ 4) (hx : x = -1 ∨ ∃ p, p < 5 ∧ x = nI p ∧ tB (σ 1 0) (nI p) = true) : ∃ u, b_X6_ways_18 x (nI s) σ = some (nI (fd nAdd 0 (VC σ) (fun k => wyF σ x s (dg k)) 7776), u) ∧ cS σ u := by
  unfold b_X6_ways_18
  have his : inB (nI s) 0 4 = true := inB_nI (by omega)
  simp only [s_isSeat, his, p_cI, p_ifz, if_true]
  obtain ⟨s0, b1, b2, b3⟩ := q_begin hI
  rw [b1, p_cV]
  refine lp2_z (fun o => ∃ u : Sg, o = some (nI (fd nAdd 0 (VC σ) (fun k => wyF σ x s (dg k)) 7776), u) ∧ cS σ u) (fun n a u => (∃ k, At σ n k u ∧ a = nI (fd nAdd 0 (VC σ) (fun k => wyF σ x s (dg k)) k)) ∨ (wF σ u ∧ u 65 4 = 0 ∧ a = nI (fd nAdd 0 (VC σ) (fun k => wyF σ x s (dg k)) 7776))) 7776 ?_ ?_ (e_F_lt (by omega)) (Or.inl ⟨0, ⟨b2, b3, Nat.le_refl 0⟩, rfl⟩)
  · rintro H a u (⟨k, h1, rfl⟩ | ⟨h1, h2, rfl⟩)
    · have := h1.2.1.2.2.2; have := h1.2.2; omega
    · simp only [d_X6_ways_44, le7776, if_true]
      exact ⟨u, rfl, h1.1⟩
  · rintro H n a u hn (⟨k, h1, rfl⟩ | ⟨h1, h2, rfl⟩) kk
    · have n10 : ¬ (1 : Int32) = 0 := by decide
      have go : ∀ (d : Nat) (t : Sg), d = wyF σ x s (dg k) → (∀ c, c ≠ 62 → c ≠ 63 → t c = u c) → ∃ w : Sg, e_cV (m_X5_goOn t) (fun σ4 => H (nI (fd nAdd 0 (VC σ) (fun k => wyF σ x s (dg k)) k + d)) (nI (n + 1)) σ4) = some (nI (fd nAdd 0 (VC σ) (fun k => wyF σ x s (dg k)) 7776), w) ∧ cS σ w := by
        intro d t hd ht
        obtain ⟨s', r1, r2, -, -, r3⟩ := at_next h1 (fun c c1 c2 _ => ht c c1 c2)
        rw [r1, p_cV]
        have e1 : fd nAdd 0 (VC σ) (fun k => wyF σ x s (dg k)) (k + 1) = fd nAdd 0 (VC σ) (fun k => wyF σ x s (dg k)) k + d := by rw [fd_t (at_V h1), hd]
        have k7 := h1.2.1.2.2.2
        rcases r3 with ⟨q1, q2⟩ | ⟨k', q1, q2, q3⟩
        · exact kk _ _ (Or.inr ⟨r2, q1, by rw [← e1, fd_to k7 q2]⟩)
        · exact kk _ _ (Or.inl ⟨k', q2, by rw [← e1, fd_to q1 q3]⟩)
      simp only [d_X6_ways_44, ge7776 hn, if_false, h1.2.1.2.2.1, n10, b_X6_ways_79, b_X6_ways_82, x_s]
      rcases hx with rfl | ⟨p, hp, rfl, tp⟩
      · simp only [if_true]
        exact go 1 u (by simp [wyF]) (fun _ _ _ => rfl)
      · have hne : ¬ nI p = -1 := fun q => m1_c hp q.symm
        obtain ⟨t, t1, t2⟩ := q_X5seat hp tp h1
        simp only [hne, if_false, t1, p_cI, nI_s (sK_le σ (dg k) p) (show s ≤ 5 by omega)]
        by_cases q : sK σ (dg k) p = s
        · rw [if_pos q]
          exact go 1 t (by simp only [wyF, hne, if_false, ix5 hp, q, if_true]) t2
        · rw [if_neg q]
          exact go 0 t (by simp only [wyF, hne, if_false, ix5 hp, q]) t2
    · simp only [d_X6_ways_44, ge7776 hn, if_false, h2, if_true]
      exact ⟨u, rfl, h1.1⟩
theorem q_waysM {σ τ : Sg} {x : Int32} {s : Nat} (hI : Inv σ) (hτ : ∀ c, 100 ≤ c → τ c = σ c) (hs : s ≤ 4) (hx : x = -1 ∨ ∃ p, p < 5 ∧ x = nI p ∧ tB (σ 1 0) (nI p) = true) : ∃ u, b_X7_ways_15 x (nI s) τ = some (nI (fd nAdd 0 (VR σ) (fun k => wyF σ x s (dR k)) 7776), u) ∧ mS τ u := by
  unfold b_X7_ways_15
  have his : inB (nI s) 0 4 = true := inB_nI (by omega)
  obtain ⟨t0, t1, t2⟩ := q_asNow (σ := τ)
  simp only [q_in, his, p_cI, p_ifz, if_true, t1, p_cV]
  refine lp2_z (fun o => ∃ u : Sg, o = some (nI (fd nAdd 0 (VR σ) (fun k => wyF σ x s (dR k)) 7776), u) ∧ mS τ u) (fun n a u => mS τ u ∧ rF σ u ∧ a = nI (fd nAdd 0 (VR σ) (fun k => wyF σ x s (dR k)) n)) 7776 ?_ ?_ (e_F_lt (by omega)) ⟨t2.mS, t2.rF hI hτ, rfl⟩
  · rintro H a u ⟨h1, h2, rfl⟩
    simp only [d_X7_ways_36, le7776, if_true]
    exact ⟨u, rfl, h1⟩
  · rintro H n a u hn ⟨h1, h2, rfl⟩ kk
    obtain ⟨v, v1, v2, v3⟩ := q_dress (u := u) hn
    have hv : rF σ v := h2.mv (fun c c1 _ _ => v2 c c1)
    have hm : mS τ v := h1.tr ⟨fun c hc => v2 c (by omega), fun j _ => by rw [v2 100 (by decide)]⟩
    have a0 : ∀ y : Int32, y + 0 = y := fun y => by simp
    simp only [d_X7_ways_36, ge7776 hn, if_false, v1, p_cV, q_isWay hI (fun q _ => dR_lt n q) hv v3, p_cI, p_ifz, b_X7_ways_71, b_X7_ways_75, b_X7_ways_76, p_lt, x_s, a0]
    cases hV : vB (peS σ) (cpS σ) (dR n)
    · simp only [Bool.false_eq_true, if_false]
      exact kk _ _ ⟨hm, hv, by rw [fd_f hV]⟩
    · simp only [if_true]
      rcases hx with rfl | ⟨p, hp, rfl, tp⟩
      · have z : (-1 : Int32) < 0 := by decide
        simp only [z, if_true]
        exact kk _ _ ⟨hm, hv, by rw [fd_t hV]; simp [wyF]⟩
      · have z : ¬ nI p < 0 := nI_pos (by omega)
        have hne : ¬ nI p = -1 := fun q => m1_c hp q.symm
        simp only [z, if_false, q_refSeat hI (fun q _ => dR_lt n q) hv v3 hp, p_cI, nI_s (sK_le σ (dR n) p) (show s ≤ 5 by omega)]
        by_cases q : sK σ (dR n) p = s
        · rw [if_pos q]
          exact kk _ _ ⟨hm, hv, by rw [fd_t hV]; simp only [wyF, hne, if_false, ix5 hp, q, if_true]⟩
        · rw [if_neg q]
          exact kk _ _ ⟨hm, hv, by rw [fd_t hV]; simp only [wyF, hne, if_false, ix5 hp, q, Nat.add_zero]⟩
theorem ways_eq {σ : Sg} {x : Int32} {s : Nat} (hx : x = -1 ∨ ∃ p, p < 5 ∧ x = nI p ∧ tB (σ 1 0) (nI p) = true) : fd nAdd 0 (VC σ) (fun k => wyF σ x s (dg k)) 7776 = fd nAdd 0 (VR σ) (fun k => wyF σ x s (dR k)) 7776 :=
  fd_swap cM_nat (V := vB (peS σ) (cpS σ)) (f := wyF σ x s) (fun D E h => vB_cong h) (fun D E h => by
    rcases hx with rfl | ⟨p, hp, rfl, tp⟩
    · simp [wyF]
    · unfold wyF; rw [ix5 hp, sK_cong hp h])
theorem op_ways (x y : Int32) : SimI (m_X6_ways x y) (m_X7_ways x y) := by
  intro σ hI
  obtain ⟨w1, w2, w3, w4⟩ := id hI
  have a1 := w2.1
  have main : (x = -1 ∨ ∃ p, p < 5 ∧ x = nI p ∧ tB (σ 1 0) (nI p) = true) → ∃ r s1 s2, b_X6_ways_18 x y σ = some (r, s1) ∧ b_X7_ways_15 x y s1 = some (r, s2) ∧ Inv s2 ∧ s1 100 0 = σ 1 0 := by
    intro hx
    cases hy : inB y 0 4
    · refine ⟨-2, σ, σ, ?_, ?_, hI, a1⟩
      · unfold b_X6_ways_18
        simp only [s_isSeat, hy, p_cI, p_ifz, Bool.false_eq_true, if_false]
      · unfold b_X7_ways_15
        simp only [q_in, hy, p_cI, p_ifz, Bool.false_eq_true, if_false]
    · obtain ⟨s, hs, rfl⟩ := inB_ix (n := 4) (by decide) hy
      obtain ⟨u, u1, u2⟩ := q_waysC hI hs hx
      obtain ⟨v, v1, v2⟩ := q_waysM (τ := u) hI (fun c hc => u2 c (by omega)) hs hx
      exact ⟨_, u, v, u1, by rw [v1, ways_eq hx], (hI.ps u2.ps).ps v2.ps, by rw [u2 100 (by omega)]; exact a1⟩
  unfold m_X6_ways m_X7_ways
  by_cases hx1 : x = -1
  · obtain ⟨r, s1, s2, h1, h2, h3, -⟩ := main (Or.inl hx1)
    simp only [hx1, if_true]
    rw [hx1] at h1 h2
    exact ⟨r, s1, s2, h1, h2, h3⟩
  · simp only [hx1, if_false, q_hasPerson, q_isThere, p_cI, p_ifz]
    cases hx : hB (σ 1 0) x
    · exact ⟨_, _, σ, rfl, by simp only [a1, hx, Bool.false_eq_true, if_false], hI⟩
    · obtain ⟨p, hp, rfl⟩ := hB_ix hx
      have tp : tB (σ 1 0) (nI p) = true := by rw [← hB_nI hp]; exact hx
      obtain ⟨r, s1, s2, h1, h2, h3, h4⟩ := main (Or.inr ⟨p, hp, rfl, tp⟩)
      simp only [if_true]
      exact ⟨r, s1, s2, h1, by simp only [h4, hx, if_true]; exact h2, h3⟩
