/-! ===== what only scratch rows change ===== -/
def cS (σ s : Sg) : Prop := ∀ c, c < 15 ∨ (29 ≤ c ∧ c ≤ 59) ∨ 100 ≤ c → s c = σ c
def mS (σ s : Sg) : Prop := (∀ c, c < 100 ∨ (101 ≤ c ∧ c ≤ 113) ∨ c = 121 ∨ c = 122 → s c = σ c) ∧ ∀ j, j < 23 → s 100 j = σ 100 j
theorem cS.rf (σ : Sg) : cS σ σ := fun _ _ => rfl
theorem mS.rf (σ : Sg) : mS σ σ := ⟨fun _ _ => rfl, fun _ _ => rfl⟩
theorem cS.tr {a b c : Sg} (h : cS a b) (g : cS b c) : cS a c := fun x hx => (g x hx).trans (h x hx)
theorem mS.tr {a b c : Sg} (h : mS a b) (g : mS b c) : mS a c := ⟨fun x hx => (g.1 x hx).trans (h.1 x hx), fun j hj => (g.2 j hj).trans (h.2 j hj)⟩
theorem cS.ps {σ s : Sg} (h : cS σ s) : Ps σ s := ⟨fun c hc => h c (by omega), by rw [h 100 (by omega)], by rw [h 100 (by omega)], by rw [h 100 (by omega)], by rw [h 100 (by omega)], by rw [h 100 (by omega)]⟩
theorem mS.ps {σ s : Sg} (h : mS σ s) : Ps σ s := ⟨fun c hc => h.1 c (by omega), h.2 0 (by decide), h.2 1 (by decide), h.2 7 (by decide), h.2 14 (by decide), h.2 16 (by decide)⟩
theorem off3.cS {σ s : Sg} (h : off3 σ s) : cS σ s := fun c hc => h c (by omega) (by omega) (by omega)
theorem asn.mS {σ s : Sg} (h : asn σ s) : mS σ s := ⟨fun c hc => h.1 c (by omega), fun j hj => h.2.1 j (by omega)⟩
theorem cS.up {σ s : Sg} {k i : Nat} {v : Int32} (h : cS σ s) (hk : (15 ≤ k ∧ k ≤ 28) ∨ (60 ≤ k ∧ k ≤ 99)) : cS σ (k_up s k i v) := fun c hc => by
  rw [up_rw, rw1_ne (by omega)]; exact h c hc
theorem mS.up {σ s : Sg} {k i : Nat} {v : Int32} (h : mS σ s) (hk : 114 ≤ k ∧ k ≤ 120) : mS σ (k_up s k i v) := ⟨fun c hc => by
  rw [up_rw, rw1_ne (by omega)]; exact h.1 c hc, fun j hj => by rw [up_rw, rw1_ne (by omega)]; exact h.2 j hj⟩
/-! ===== masks that grow ===== -/
def pm (b : Nat → Bool) (i : Nat) : Int32 := nI (mk5 (fun p => decide (p < i) && b p))
theorem pm_0 (b : Nat → Bool) : pm b 0 = 0 := by
  have : mk5 (fun p => decide (p < 0) && b p) = 0 := by simp [mk5, bN]
  unfold pm
  rw [this]
  rfl
theorem pm_5 (b : Nat → Bool) : pm b 5 = nI (mk5 b) := by
  unfold pm
  rw [mk5_cong (b := b) (fun p hp => by simp [hp])]
theorem pm_f {b : Nat → Bool} {i : Nat} (h : b i = false) : pm b (i + 1) = pm b i := by
  unfold pm
  rw [mk5_cong (fun p hp => ?_)]
  by_cases e : p = i
  · subst e; simp [h]
  · by_cases h2 : p < i
    · simp [h2, show p < i + 1 by omega]
    · simp [h2, show ¬ p < i + 1 by omega]
theorem pm_t {b : Nat → Bool} {i : Nat} (hi : i < 5) (h : b i = true) : pm b i ||| jsl 1 (nI i) = pm b (i + 1) := by
  unfold pm
  rw [or_all _ (mk5_lt _) i hi]
  congr 1
  refine mk5_cong (fun p hp => ?_)
  rw [tB_mk5 _ hp]
  by_cases e : p = i
  · subst e; simp [h]
  · by_cases h2 : p < i
    · simp [e, h2, show p < i + 1 by omega]
    · simp [e, h2, show ¬ p < i + 1 by omega]
theorem pm_or0 (b : Nat → Bool) (i : Nat) : pm b i ||| 0 = pm b i := by simp
theorem nI_s {a b : Nat} (ha : a ≤ 5) (hb : b ≤ 5) : nI a = nI b ↔ a = b := nI_eq (by omega) (by omega)
/-- the trial is the town, but for what is said -/
def Tr (σ s : Sg) : Prop := (∀ r, r < 4 → s 15 r = σ 1 r) ∧ ∀ j r, 1 ≤ j → j ≤ 11 → r < 5 → s (15 + j) r = σ (1 + j) r
theorem bec.tr {σ s : Sg} (h : bec σ 15 1 s) : Tr σ s := ⟨fun r hr => bec_0 h hr, fun j r h1 h2 h3 => bec_j h h1 h2 h3⟩
theorem bec.cS {σ s : Sg} (h : bec σ 15 1 s) : cS σ s := fun c hc => h.1 c (by omega)
theorem Tr.off {σ s t : Sg} (h : Tr σ s) (g : off3 s t) : Tr σ t := ⟨fun r hr => by rw [g 15 (by decide) (by decide) (by decide)]; exact h.1 r hr, fun j r h1 h2 h3 => by rw [g (15 + j) (by omega) (by omega) (by omega)]; exact h.2 j r h1 h2 h3⟩
theorem op_decides (x : Int32) : SimI (m_X6_decides x) (m_X7_decides x) := by
  intro σ hI
  obtain ⟨w1, w2, w3, w4⟩ := id hI
  obtain ⟨a1, a2, a3, a4, a5, a6⟩ := id w2
  unfold m_X6_decides m_X7_decides
  simp only [q_hasCoat, q_isCoat, p_cI, p_ifz]
  cases hx : hB (σ 1 1) x
  · exact ⟨_, _, σ, rfl, by simp [a2, hx], hI⟩
  · obtain ⟨c, hc, rfl⟩ := hB_ix hx
    have tc : tB (σ 1 1) (nI c) = true := by rw [← hB_nI hc]; exact hx
    simp only [if_true]
    let fr : Nat → Bool := fun p => decide (nI (mk5 (fun i => decide (σ 2 i = nI c))) &&& (jsl 1 (nI p) ^^^ (-1)) = 0)
    let b : Nat → Bool := fun p => tB (σ 1 0) (nI p) && (fr p && !decide (seatW (σ 1 0) (σ 1 2) (σ 8) (σ 12) (upd (σ 2) p (nI c)) p = seatW (σ 1 0) (σ 1 2) (σ 8) (σ 12) (σ 2) p))
    obtain ⟨s, g0, g1⟩ := q_become (a := 15) (b := 1) (σ := σ) (by omega)
    have hC : ∃ u, e_lp2 (d_X6_decides_28 (nI c) (fun x2q15 σ15 => some (x2q15, σ15))) e_F 0 0 s = some (nI (mk5 b), u) ∧ cS σ u := by
      refine lp2_z (fun o => ∃ u : Sg, o = some (nI (mk5 b), u) ∧ cS σ u) (fun i a u => a = pm b i ∧ cS σ u ∧ Tr σ u) 5 ?_ ?_ (e_F_lt (by omega)) ⟨(pm_0 b).symm, g1.cS, g1.tr⟩
      · rintro H a u ⟨rfl, h1, h2⟩
        simp only [d_X6_decides_28, le5, if_true]
        exact ⟨u, by rw [pm_5], h1⟩
      · rintro H i a u hi ⟨rfl, h1, h2⟩ kk
        have e1 : u 1 = σ 1 := h1 1 (by omega)
        have e2 : u 2 = σ 2 := h1 2 (by omega)
        simp only [d_X6_decides_28, ge5 hi, if_false, q_hasPerson, hB_nI hi, e1, p_cI, p_ifz, x_s]
        cases ti : tB (σ 1 0) (nI i)
        · simp only [Bool.false_eq_true, if_false]
          exact kk _ _ ⟨by rw [pm_f (by simp [b, ti])], h1, h2⟩
        · simp only [if_true, m_X4_wornByOther, q_wearers, p_cI, Nat.reduceAdd, e2]
          by_cases hf : nI (mk5 (fun i => decide (σ 2 i = nI c))) &&& (jsl 1 (nI i) ^^^ (-1)) = 0
          · have ff : fr i = true := decide_eq_true hf
            simp only [hf, if_true, p_rz0, p_cI, p_wr (in5 hi), ix5 hi]
            have t15 : k_up u 16 i (nI c) 15 = u 15 := by rw [up_rw, rw1_ne (by decide)]
            have t16 : k_up u 16 i (nI c) 16 = upd (u 16) i (nI c) := by rw [up_rw, rw1_eq]
            have tt : tB (k_up u 16 i (nI c) 15 0) (nI i) = true := by rw [t15, h2.1 0 (by decide)]; exact ti
            obtain ⟨v, v1, v2⟩ := q_seatIn (k := 15) (σ := k_up u 16 i (nI c)) tw_15 hi tt
            simp only [Nat.reduceAdd] at v1
            have eqv : seatW (k_up u 16 i (nI c) 15 0) (k_up u 16 i (nI c) 15 2) (k_up u 16 i (nI c) 22) (k_up u 16 i (nI c) 26) (k_up u 16 i (nI c) 16) i = seatW (σ 1 0) (σ 1 2) (σ 8) (σ 12) (upd (σ 2) i (nI c)) i := by
              rw [t15, t16, h2.1 0 (by decide), h2.1 2 (by decide)]
              refine seatW_cong hi (fun r hr => ?_) (fun r hr => ?_) (fun r hr => ?_)
              · rw [up_rw, rw1_ne (by decide)]; exact h2.2 7 r (by decide) (by decide) hr
              · rw [up_rw, rw1_ne (by decide)]; exact h2.2 11 r (by decide) (by decide) hr
              · by_cases e : r = i
                · subst e; rw [upd_s, upd_s]
                · rw [upd_n e, upd_n e]; exact congrArg mc (h2.2 1 r (by decide) (by decide) hr)
            have c1 : cS σ (k_up u 16 i (nI c)) := h1.up (by omega)
            have c2 : cS σ v := c1.tr v2.cS
            have ev1 : v 1 = σ 1 := c2 1 (by omega)
            obtain ⟨y, y1, y2⟩ := q_seatIn (k := 1) (σ := v) tw_1 hi (by rw [ev1]; exact ti)
            simp only [Nat.reduceAdd] at y1
            rw [ev1, c2 8 (by omega), c2 12 (by omega), c2 2 (by omega)] at y1
            have c3 : cS σ y := c2.tr y2.cS
            simp only [v1, eqv, p_cI, y1, nI_s (seatW_le _ _ _ _ _ _) (seatW_le _ _ _ _ _ _), b_X6_decides_93, p_gd (in5 hi), p_wr (in5 hi), ix5 hi, p_lt, c3 2 (by omega), x_s]
            have fin : cS σ (k_up y 16 i (σ 2 i)) ∧ Tr σ (k_up y 16 i (σ 2 i)) := by
              refine ⟨c3.up (by omega), fun r hr => ?_, fun j r j1 j2 hr => ?_⟩
              · rw [up_rw, rw1_ne (by decide), y2 15 (by decide) (by decide) (by decide), v2 15 (by decide) (by decide) (by decide), t15]; exact h2.1 r hr
              · by_cases ej : j = 1
                · subst ej
                  rw [up_rw, rw1_eq]
                  by_cases e : r = i
                  · subst e; rw [upd_s]
                  · rw [upd_n e, y2 16 (by decide) (by decide) (by decide), v2 16 (by decide) (by decide) (by decide), t16, upd_n e]; exact h2.2 1 r (by decide) (by decide) hr
                · rw [up_rw, rw1_ne (by omega), y2 (15 + j) (by omega) (by omega) (by omega), v2 (15 + j) (by omega) (by omega) (by omega), up_rw, rw1_ne (by omega)]; exact h2.2 j r j1 j2 hr
            by_cases eq : seatW (σ 1 0) (σ 1 2) (σ 8) (σ 12) (upd (σ 2) i (nI c)) i = seatW (σ 1 0) (σ 1 2) (σ 8) (σ 12) (σ 2) i
            · simp only [eq, if_true]
              exact kk _ _ ⟨by rw [pm_f (by simp [b, eq])], fin.1, fin.2⟩
            · simp only [eq, if_false]
              exact kk _ _ ⟨pm_t hi (by simp [b, ti, ff, eq]), fin.1, fin.2⟩
          · have ff : fr i = false := decide_eq_false hf
            have h10 : ¬ (1 : Int32) = 0 := by decide
            simp only [hf, if_false, p_rz1, p_cI, h10]
            exact kk _ _ ⟨by rw [pm_f (by simp [b, ff])], h1, h2⟩
    obtain ⟨u, u1, u2⟩ := hC
    have hM : ∃ t, e_lp2 (d_X7_decides_14 (nI c) (fun x2q14 σ14 => some (x2q14, σ14))) e_F 0 0 u = some (nI (mk5 b), t) ∧ mS u t := by
      refine lp2_z (fun o => ∃ t : Sg, o = some (nI (mk5 b), t) ∧ mS u t) (fun i a t => a = pm b i ∧ mS u t) 5 ?_ ?_ (e_F_lt (by omega)) ⟨(pm_0 b).symm, mS.rf u⟩
      · rintro H a t ⟨rfl, h1⟩
        simp only [d_X7_decides_14, le5, if_true]
        exact ⟨t, by rw [pm_5], h1⟩
      · rintro H i a t hi ⟨rfl, h1⟩ kk
        have hIt : Inv t := (hI.ps u2.ps).ps h1.ps
        have r0 : t 100 0 = σ 1 0 := by rw [h1.2 0 (by decide), u2 100 (by omega)]; exact a1
        have r1 : t 100 1 = σ 1 1 := by rw [h1.2 1 (by decide), u2 100 (by omega)]; exact a2
        have rr : ∀ c, 1 ≤ c → c ≤ 14 → t c = σ c := fun c q1 q2 => by rw [h1.1 c (by omega)]; exact u2 c (by omega)
        have rm : ∀ c, 101 ≤ c → c ≤ 113 → t c = σ c := fun c q1 q2 => by rw [h1.1 c (by omega)]; exact u2 c (by omega)
        simp only [d_X7_decides_14, ge5 hi, if_false, q_has, r0, p_cI, p_ifz, x_s]
        cases ti : tB (σ 1 0) (nI i)
        · simp only [Bool.false_eq_true, if_false]
          exact kk _ _ ⟨by rw [pm_f (by simp [b, ti])], h1⟩
        · simp only [if_true, m_X7_isFreeFor, q_has, r1, tc, p_cI, p_ifz, q_wearersM, wear_eq hIt.1 hIt.2.1 hc, rr 2 (by decide) (by decide)]
          by_cases hf : nI (mk5 (fun i => decide (σ 2 i = nI c))) &&& (jsl 1 (nI i) ^^^ (-1)) = 0
          · have ff : fr i = true := decide_eq_true hf
            have h10 : ¬ (1 : Int32) = 0 := by decide
            simp only [hf, if_true, p_rz1, p_cI, h10, if_false]
            obtain ⟨n, n1, n2⟩ := q_asNow (σ := t)
            have hIn : Inv n := hIt.ps n2.ps
            have seat1 := (n2.nw hIt).seat (wear_ok hIn.1) hi
            have nr : ∀ c, 1 ≤ c → c ≤ 14 → n c = σ c := fun c q1 q2 => by rw [n2.1 c (by omega)]; exact rr c q1 q2
            simp only [Nat.reduceAdd] at seat1
            rw [nr 1 (by decide) (by decide), nr 8 (by decide) (by decide), nr 12 (by decide) (by decide), nr 2 (by decide) (by decide)] at seat1
            simp only [n1, p_cV, seat1, p_cI, p_wr (in5 hi), ix5 hi]
            obtain ⟨q1, q2, q3, q4⟩ := n2.nw hIt
            have seat2 := q_seatS (p := i) (σ := k_up n 114 i (nI c)) (fun r hr => by
              rw [up_rw, rw1_eq]
              by_cases e : r = i
              · subst e; rw [upd_s]; exact ⟨c, by omega, rfl⟩
              · rw [upd_n e, (q4 r hr).1]; exact code_ok (wear_ok hIn.1 r hr)) hi
            have eqv : seatW (k_up n 114 i (nI c) 100 0) (k_up n 114 i (nI c) 100 23) (k_up n 114 i (nI c) 118) (k_up n 114 i (nI c) 105) (k_up n 114 i (nI c) 114) i = seatW (σ 1 0) (σ 1 2) (σ 8) (σ 12) (upd (σ 2) i (nI c)) i := by
              have z0 : ∀ c', c' ≠ 114 → k_up n 114 i (nI c) c' = n c' := fun c' h => by rw [up_rw, rw1_ne h]
              rw [z0 100 (by decide), z0 118 (by decide), z0 105 (by decide), up_rw, rw1_eq, q1, q3, nr 1 (by decide) (by decide)]
              refine seatW_cong hi (fun r hr => ?_) (fun r hr => ?_) (fun r hr => ?_)
              · rw [(q4 r hr).2.2.2.2.1]; exact congrFun (nr 8 (by decide) (by decide)) r
              · rw [(q4 r hr).2.2.2.2.2.2]; exact congrFun (nr 12 (by decide) (by decide)) r
              · by_cases e : r = i
                · subst e; rw [upd_s, upd_s]
                · rw [upd_n e, upd_n e, (q4 r hr).1, mc_mc (wear_ok hIn.1 r hr)]; exact congrArg mc (congrFun (nr 2 (by decide) (by decide)) r)
            rw [eqv] at seat2
            simp only [seat2, p_cI, nI_s (seatW_le _ _ _ _ _ _) (seatW_le _ _ _ _ _ _), b_X7_decides_75, p_lt]
            have fin : mS u (k_up n 114 i (nI c)) := (h1.tr n2.mS).up (by omega)
            by_cases eq : seatW (σ 1 0) (σ 1 2) (σ 8) (σ 12) (upd (σ 2) i (nI c)) i = seatW (σ 1 0) (σ 1 2) (σ 8) (σ 12) (σ 2) i
            · simp only [eq, if_true, pm_or0, x_s]
              exact kk _ _ ⟨by rw [pm_f (by simp [b, eq])], fin⟩
            · simp only [eq, if_false, x_s]
              exact kk _ _ ⟨pm_t hi (by simp [b, ti, ff, eq]), fin⟩
          · have ff : fr i = false := decide_eq_false hf
            simp only [hf, if_false, p_rz0, p_cI, if_true]
            exact kk _ _ ⟨by rw [pm_f (by simp [b, ff])], h1⟩
    obtain ⟨t, t1, t2⟩ := hM
    refine ⟨nI (mk5 b), u, t, by rw [g0]; simp only [p_cV]; exact u1, ?_, (hI.ps u2.ps).ps t2.ps⟩
    have : u 100 1 = σ 1 1 := by rw [u2 100 (by omega)]; exact a2
    simp only [this, hx, if_true]
    exact t1
theorem op_rises (x : Int32) : SimI (m_X6_rises x) (m_X7_rises x) := by
  intro σ hI
  obtain ⟨w1, w2, w3, w4⟩ := id hI
  obtain ⟨a1, a2, a3, a4, a5, a6⟩ := id w2
  unfold m_X6_rises m_X7_rises
  simp only [s_isCap, q_in, p_cI, p_ifz]
  cases hx : inB x 1 99
  · exact ⟨_, _, σ, rfl, by simp, hI⟩
  · simp only [if_true]
    let b : Nat → Bool := fun p => tB (σ 1 0) (nI p) && decide (seatW (σ 1 0) x (σ 8) (σ 12) (σ 2) p < seatW (σ 1 0) (σ 1 2) (σ 8) (σ 12) (σ 2) p)
    have nIle : ∀ {a b : Nat}, a ≤ 5 → b ≤ 5 → ((nI a ≤ nI b) ↔ ¬ b < a) := fun {a b} ha hb => by rw [nI_leI (by omega) (by omega)]; omega
    obtain ⟨s, g0, g1⟩ := q_become (a := 15) (b := 1) (σ := σ) (by omega)
    have hC : ∃ u, e_lp2 (d_X6_rises_33 x (fun x2q12 σ12 => some (x2q12, σ12))) e_F 0 0 (k_up s 15 2 x) = some (nI (mk5 b), u) ∧ cS σ u := by
      refine lp2_z (fun o => ∃ u : Sg, o = some (nI (mk5 b), u) ∧ cS σ u) (fun i a u => a = pm b i ∧ cS σ u ∧ u 15 0 = σ 1 0 ∧ u 15 2 = x ∧ ∀ j r, 1 ≤ j → j ≤ 11 → r < 5 → u (15 + j) r = σ (1 + j) r) 5 ?_ ?_ (e_F_lt (by omega)) ⟨(pm_0 b).symm, g1.cS.up (by omega), by rw [up_rw, rw1_eq, upd_n (by decide)]; exact g1.tr.1 0 (by decide), by rw [up_rw, rw1_eq, upd_s], fun j r h1 h2 h3 => by rw [up_rw, rw1_ne (by omega)]; exact g1.tr.2 j r h1 h2 h3⟩
      · rintro H a u ⟨rfl, h1, -⟩
        simp only [d_X6_rises_33, le5, if_true]
        exact ⟨u, by rw [pm_5], h1⟩
      · rintro H i a u hi ⟨rfl, h1, h2, h3, h4⟩ kk
        have e1 : u 1 = σ 1 := h1 1 (by omega)
        simp only [d_X6_rises_33, ge5 hi, if_false, q_hasPerson, hB_nI hi, e1, p_cI, p_ifz, x_s]
        cases ti : tB (σ 1 0) (nI i)
        · simp only [Bool.false_eq_true, if_false]
          exact kk _ _ ⟨by rw [pm_f (by simp [b, ti])], h1, h2, h3, h4⟩
        · simp only [if_true]
          obtain ⟨v, v1, v2⟩ := q_seatIn (k := 15) (σ := u) tw_15 hi (by rw [h2]; exact ti)
          simp only [Nat.reduceAdd] at v1
          have eqv : seatW (u 15 0) (u 15 2) (u 22) (u 26) (u 16) i = seatW (σ 1 0) x (σ 8) (σ 12) (σ 2) i := by
            rw [h2, h3]
            exact seatW_cong hi (fun r hr => h4 7 r (by decide) (by decide) hr) (fun r hr => h4 11 r (by decide) (by decide) hr) (fun r hr => congrArg mc (h4 1 r (by decide) (by decide) hr))
          have c2 : cS σ v := h1.tr v2.cS
          have ev1 : v 1 = σ 1 := c2 1 (by omega)
          obtain ⟨y, y1, y2⟩ := q_seatIn (k := 1) (σ := v) tw_1 hi (by rw [ev1]; exact ti)
          simp only [Nat.reduceAdd] at y1
          rw [ev1, c2 8 (by omega), c2 12 (by omega), c2 2 (by omega)] at y1
          have c3 : cS σ y := c2.tr y2.cS
          have fin : cS σ y ∧ y 15 0 = σ 1 0 ∧ y 15 2 = x ∧ ∀ j r, 1 ≤ j → j ≤ 11 → r < 5 → y (15 + j) r = σ (1 + j) r := ⟨c3, by rw [y2 15 (by decide) (by decide) (by decide), v2 15 (by decide) (by decide) (by decide)]; exact h2, by rw [y2 15 (by decide) (by decide) (by decide), v2 15 (by decide) (by decide) (by decide)]; exact h3, fun j r q1 q2 q3 => by rw [y2 (15 + j) (by omega) (by omega) (by omega), v2 (15 + j) (by omega) (by omega) (by omega)]; exact h4 j r q1 q2 q3⟩
          simp only [v1, eqv, p_cI, y1, nIle (seatW_le _ _ _ _ _ _) (seatW_le _ _ _ _ _ _), p_lt]
          by_cases eq : seatW (σ 1 0) x (σ 8) (σ 12) (σ 2) i < seatW (σ 1 0) (σ 1 2) (σ 8) (σ 12) (σ 2) i
          · simp only [eq, not_true_eq_false, if_false]
            exact kk _ _ ⟨pm_t hi (by simp [b, ti, eq]), fin⟩
          · simp only [eq, not_false_eq_true, if_true]
            exact kk _ _ ⟨by rw [pm_f (by simp [b, eq])], fin⟩
    obtain ⟨u, u1, u2⟩ := hC
    have hM : ∃ t, e_lp2 (d_X7_rises_17 x (fun x2q12 σ12 => some (x2q12, σ12))) e_F 0 0 u = some (nI (mk5 b), t) ∧ mS u t := by
      refine lp2_z (fun o => ∃ t : Sg, o = some (nI (mk5 b), t) ∧ mS u t) (fun i a t => a = pm b i ∧ mS u t) 5 ?_ ?_ (e_F_lt (by omega)) ⟨(pm_0 b).symm, mS.rf u⟩
      · rintro H a t ⟨rfl, h1⟩
        simp only [d_X7_rises_17, le5, if_true]
        exact ⟨t, by rw [pm_5], h1⟩
      · rintro H i a t hi ⟨rfl, h1⟩ kk
        have hIt : Inv t := (hI.ps u2.ps).ps h1.ps
        have r0 : t 100 0 = σ 1 0 := by rw [h1.2 0 (by decide), u2 100 (by omega)]; exact a1
        have rr : ∀ c, 1 ≤ c → c ≤ 14 → t c = σ c := fun c q1 q2 => by rw [h1.1 c (by omega)]; exact u2 c (by omega)
        simp only [d_X7_rises_17, ge5 hi, if_false, q_has, r0, p_cI, p_ifz, x_s]
        cases ti : tB (σ 1 0) (nI i)
        · simp only [Bool.false_eq_true, if_false]
          exact kk _ _ ⟨by rw [pm_f (by simp [b, ti])], h1⟩
        · simp only [if_true]
          obtain ⟨n, n1, n2⟩ := q_asNow (σ := t)
          have hIn : Inv n := hIt.ps n2.ps
          have seat1 := (n2.nw hIt).seat (wear_ok hIn.1) hi
          have nr : ∀ c, 1 ≤ c → c ≤ 14 → n c = σ c := fun c q1 q2 => by rw [n2.1 c (by omega)]; exact rr c q1 q2
          simp only [Nat.reduceAdd] at seat1
          rw [nr 1 (by decide) (by decide), nr 8 (by decide) (by decide), nr 12 (by decide) (by decide), nr 2 (by decide) (by decide)] at seat1
          simp only [n1, p_cV, seat1, p_cI, p_lt]
          obtain ⟨q1, q2, q3, q4⟩ := n2.nw hIt
          have z0 : ∀ c', c' ≠ 100 → k_up n 100 23 x c' = n c' := fun c' h => by rw [up_rw, rw1_ne h]
          have seat2 := q_seatS (p := i) (σ := k_up n 100 23 x) (fun r hr => by
            rw [z0 114 (by decide), (q4 r hr).1]; exact code_ok (wear_ok hIn.1 r hr)) hi
          have eqv : seatW (k_up n 100 23 x 100 0) (k_up n 100 23 x 100 23) (k_up n 100 23 x 118) (k_up n 100 23 x 105) (k_up n 100 23 x 114) i = seatW (σ 1 0) x (σ 8) (σ 12) (σ 2) i := by
            have z1 : k_up n 100 23 x 100 0 = n 100 0 := by rw [up_rw, rw1_eq, upd_n (by decide)]
            have z2 : k_up n 100 23 x 100 23 = x := by rw [up_rw, rw1_eq, upd_s]
            rw [z1, z2, z0 118 (by decide), z0 105 (by decide), z0 114 (by decide), q1, nr 1 (by decide) (by decide)]
            refine seatW_cong hi (fun r hr => ?_) (fun r hr => ?_) (fun r hr => ?_)
            · rw [(q4 r hr).2.2.2.2.1]; exact congrFun (nr 8 (by decide) (by decide)) r
            · rw [(q4 r hr).2.2.2.2.2.2]; exact congrFun (nr 12 (by decide) (by decide)) r
            · rw [(q4 r hr).1, mc_mc (wear_ok hIn.1 r hr)]; exact congrArg mc (congrFun (nr 2 (by decide) (by decide)) r)
          rw [eqv] at seat2
          have fin : mS u (k_up n 100 23 x) := by
            have h := h1.tr n2.mS
            exact ⟨fun c hc => by rw [z0 c (by omega)]; exact h.1 c hc, fun j hj => by rw [up_rw, rw1_eq, upd_n (by omega)]; exact h.2 j hj⟩
          simp only [seat2, p_cI, nIle (seatW_le _ _ _ _ _ _) (seatW_le _ _ _ _ _ _), b_X7_rises_67, p_lt]
          by_cases eq : seatW (σ 1 0) x (σ 8) (σ 12) (σ 2) i < seatW (σ 1 0) (σ 1 2) (σ 8) (σ 12) (σ 2) i
          · simp only [eq, not_true_eq_false, if_false, x_s]
            exact kk _ _ ⟨pm_t hi (by simp [b, ti, eq]), fin⟩
          · simp only [eq, not_false_eq_true, if_true, pm_or0, x_s]
            exact kk _ _ ⟨by rw [pm_f (by simp [b, eq])], fin⟩
    obtain ⟨t, t1, t2⟩ := hM
    exact ⟨nI (mk5 b), u, t, by rw [g0]; simp only [p_cV, p_lt]; exact u1, t1, (hI.ps u2.ps).ps t2.ps⟩
