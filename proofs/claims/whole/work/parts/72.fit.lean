/-! ===== sights ===== -/
def sB (σ : Sg) (D : Nat → Nat) (j : Nat) : Bool := hB (σ 1 0) (σ 13 j) && decide (nI (sK σ D (σ 13 j).toNatClampNeg) = σ 14 j)
theorem sB_cong {σ : Sg} {D E : Nat → Nat} {j : Nat} (h : ∀ q, q < 5 → D q = E q) : sB σ D j = sB σ E j := by
  unfold sB
  cases e : hB (σ 1 0) (σ 13 j)
  · rw [Bool.false_and, Bool.false_and]
  · obtain ⟨p, hp, ep⟩ := hB_ix e
    rw [ep, ix5 hp, sK_cong hp h]
theorem al_cong {b b' : Nat → Bool} : ∀ n, (∀ i, i < n → b i = b' i) → al b n = al b' n
  | 0, _ => rfl
  | n + 1, h => by
    show (al b n && b n) = (al b' n && b' n)
    rw [al_cong n (fun i hi => h i (by omega)), h n (by omega)]
theorem al_f {b : Nat → Bool} {i : Nat} (h : al b i = false) : ∀ j, i ≤ j → al b j = false
  | 0, hj => by have : i = 0 := by omega
                subst this; exact h
  | j + 1, hj => by
    by_cases q : i ≤ j
    · show (al b j && b j) = false
      rw [al_f h j q, Bool.false_and]
    · have : i = j + 1 := by omega
      subst this; exact h
theorem ix6' {j : Nat} (h : j < 6) : Int32.toNatClampNeg (nI j) = j := ix6 h
theorem q_sHoldC {σ s : Sg} {n k N : Nat} (hI : Inv σ) (hN : N ≤ 6) (eN : σ 1 3 = nI N) (h : At σ n k s) : ∃ t, m_X5_sightsHold s = some (zI (al (sB σ (dg k)) N), t) ∧ ∀ c, c ≠ 62 → c ≠ 63 → t c = s c := by
  obtain ⟨t, t1, t2, t3, -⟩ := q_waySit (fun q _ => dg_lt k q) h.1 h.2.1.1
  refine ⟨t, ?_, t2⟩
  have f := h.1
  have e3 : t 66 3 = nI N := by rw [t2 66 (by decide) (by decide), f.2.1 3 (by decide)]; exact eN
  have e78 : ∀ r, r < 6 → t (66 + 12) r = σ 13 r := fun r hr => by rw [t2 (66 + 12) (by decide) (by decide)]; exact f.2.2.1 12 r (by decide) (by decide) (by decide) (by simp [rng, hr])
  have e79 : ∀ r, r < 6 → t (66 + 13) r = σ 14 r := fun r hr => by rw [t2 (66 + 13) (by decide) (by decide)]; exact f.2.2.1 13 r (by decide) (by decide) (by decide) (by simp [rng, hr])
  unfold m_X5_sightsHold m_X3_sightsHold
  rw [t1, p_cV]
  have main : e_lp1 (d_X3_sightsHold_2 66 (fun σ3 => e_rz 1 σ3)) e_F 0 t = some (zI (al (sB σ (dg k)) N), t) := by
    refine lp1_z (fun o => o = some (zI (al (sB σ (dg k)) N), t)) (fun i u => u = t ∧ al (sB σ (dg k)) i = true) N ?_ ?_ (e_F_lt (by omega)) ⟨rfl, rfl⟩
    · rintro H u ⟨rfl, h1⟩
      have z : nI N ≤ nI N := Int32.le_refl _
      simp only [d_X3_sightsHold_2, e3, z, if_true, h1, zI_t, p_rz1]
    · rintro H i u hi ⟨rfl, h1⟩ kk
      have z : ¬ nI N ≤ nI i := x_ge hi (by omega)
      have i6 : i < 6 := by omega
      simp only [d_X3_sightsHold_2, e3, z, if_false, ge6 i6, p_gd (in6 i6), ix6 i6, e78 i i6, e79 i i6, q_seatOf, p_cI, x_s]
      have hs : ((if inB (σ 13 i) 0 4 = true then u 63 (σ 13 i).toNatClampNeg else -6) = σ 14 i) ↔ sB σ (dg k) i = true := by
        obtain ⟨m, hm, em⟩ := hI.1.2.2.2.2.2.2.2.2.2.2 i i6
        simp only [Nat.reduceAdd] at em
        have n6 : ¬ (-6 : Int32) = nI m := fun q => nI_n6 (show m < 1000 by omega) q.symm
        unfold sB hB
        cases hb : inB (σ 13 i) 0 4
        · simp only [Bool.false_eq_true, if_false, Bool.false_and, iff_false, em]
          exact n6
        · obtain ⟨p, hp, ep⟩ := inB_ix (n := 4) (by decide) hb
          have hp5 : p < 5 := by omega
          rw [ep, ix5 hp5, t3 p hp5]
          simp only [if_true, Bool.true_and]
          cases tp : tB (σ 1 0) (nI p)
          · simp only [Bool.false_eq_true, if_false, Bool.false_and, iff_false, em]
            exact n6
          · simp only [if_true, Bool.true_and, decide_eq_true_eq]
      simp only [hs]
      by_cases q : sB σ (dg k) i = true
      · rw [if_pos q]
        exact kk _ ⟨rfl, by show (al (sB σ (dg k)) i && sB σ (dg k) i) = true; rw [h1, q]; rfl⟩
      · rw [if_neg q]
        have : al (sB σ (dg k)) (i + 1) = false := by show (al (sB σ (dg k)) i && sB σ (dg k) i) = false; simp only [q, Bool.and_false]
        rw [al_f this N (by omega), zI_f, p_rz0]
  rw [main, p_cI, p_rzz]
theorem q_sHoldM {σ u : Sg} {D : Nat → Nat} {N : Nat} (hI : Inv σ) (hN : N ≤ 6) (eN : σ 1 3 = nI N) (hD : ∀ q, q < 5 → D q < 6) (hr : rF σ u) (ho : oD D u) : m_X7_holds u = some (zI (al (sB σ D) N), u) := by
  obtain ⟨w1, ⟨a1, a2, a3, a4, b5, b6⟩, w3, w4⟩ := id hI
  have u0 : u 100 0 = σ 1 0 := by rw [hr.1 0 (by decide)]; exact a1
  have u14 : u 100 14 = nI N := by rw [hr.1 14 (by decide), a4]; exact eN
  have e112 : u 112 = σ 112 := hr.2.1 112 (by omega) (by omega)
  unfold m_X7_holds
  refine lp2_z (fun o => o = some (zI (al (sB σ D) N), u)) (fun i a v => v = u ∧ a = zI (al (sB σ D) i)) N ?_ ?_ (e_F_lt (by omega)) ⟨rfl, rfl⟩
  · rintro H a v ⟨rfl, rfl⟩
    have z : nI N ≤ nI N := Int32.le_refl _
    simp only [d_X7_holds_4, u14, z, if_true, p_rzz]
  · rintro H i a v hi ⟨rfl, rfl⟩ kk
    have z : ¬ nI N ≤ nI i := x_ge hi (by omega)
    have i6 : i < 6 := by omega
    have e2 : (2 : Int32) * nI i = nI (2 * i) := pk_mul 2 i
    have k12 : k_in (nI (2 * i)) 12 = true := x_in (by omega) (by decide)
    have k12' : k_in (nI (2 * i + 1)) 12 = true := x_in (by omega) (by decide)
    have j12 : Int32.toNatClampNeg (nI (2 * i)) = 2 * i := x_ix (by omega)
    have j12' : Int32.toNatClampNeg (nI (2 * i + 1)) = 2 * i + 1 := x_ix (by omega)
    have step : ∀ b : Bool, b = al (sB σ D) (i + 1) → H (zI b) (nI (i + 1)) v = some (zI (al (sB σ D) N), v) := fun b hb => kk _ _ ⟨rfl, by rw [hb]⟩
    simp only [d_X7_holds_4, u14, z, if_false, zI_0, e2, x_s, p_gd k12, p_gd k12', j12, j12', e112, (b6 i i6).1, (b6 i i6).2, q_isThere, u0, p_cI, p_ifz, b_X7_holds_60, b_X7_holds_61]
    cases c1 : al (sB σ D) i
    · simp only [if_true, zI_f, p_rz0]
      rw [al_f c1 N (by omega), zI_f]
    · simp only [Bool.true_eq_false, if_false]
      cases e : hB (σ 1 0) (σ 13 i)
      · simp only [Bool.false_eq_true, if_false]
        exact step false (by show false = (al (sB σ D) i && sB σ D i); unfold sB; rw [e, Bool.false_and, Bool.and_false])
      · obtain ⟨p, hp, ep⟩ := hB_ix e
        simp only [if_true, Bool.true_eq_false, if_false, ep, q_refSeat hI hD hr ho hp, p_cI, e112, (b6 i i6).2]
        have es : sB σ D i = decide (nI (sK σ D p) = σ 14 i) := by unfold sB; rw [e, Bool.true_and, ep, ix5 hp]
        by_cases q : nI (sK σ D p) = σ 14 i
        · rw [if_pos q]
          exact step true (by show true = (al (sB σ D) i && sB σ D i); rw [c1, es, decide_eq_true q]; rfl)
        · rw [if_neg q]
          exact step false (by show false = (al (sB σ D) i && sB σ D i); rw [es, decide_eq_false q, Bool.and_false])
def fmD (x : Int32) (D : Nat → Nat) : Int32 := if nI (mk5 (fun i => decide (dI (D i) = x))) = 0 then 32 else nI (mk5 (fun i => decide (dI (D i) = x)))
theorem fmD_cong {x : Int32} {D E : Nat → Nat} (h : ∀ q, q < 5 → D q = E q) : fmD x D = fmD x E := by
  unfold fmD
  rw [mk5_cong (b := fun i => decide (dI (E i) = x)) (fun i hi => by rw [h i hi])]
def VS (σ : Sg) (N : Nat) (D : Nat → Nat) : Bool := vB (peS σ) (cpS σ) D && al (sB σ D) N
theorem VS_cong {σ : Sg} {N : Nat} {D E : Nat → Nat} (h : ∀ q, q < 5 → D q = E q) : VS σ N D = VS σ N E := by
  unfold VS
  rw [vB_cong h, al_cong N (fun i _ => sB_cong h)]
theorem q_fitC {σ : Sg} {x : Int32} {N : Nat} (hI : Inv σ) (hN : N ≤ 6) (eN : σ 1 3 = nI N) : ∃ u, b_X6_fit_18 x σ = some (if x = -1 then nI (fd nAdd 0 (fun k => VS σ N (dg k)) (fun _ => 1) 7776) else fd iOr 0 (fun k => VS σ N (dg k)) (fun k => fmD x (dg k)) 7776, u) ∧ cS σ u := by
  unfold b_X6_fit_18
  obtain ⟨s0, b1, b2, b3⟩ := q_begin hI
  rw [b1, p_cV]
  let F : Nat → Nat := fd nAdd 0 (fun k => VS σ N (dg k)) (fun _ => 1)
  let G : Nat → Int32 := fd iOr 0 (fun k => VS σ N (dg k)) (fun k => fmD x (dg k))
  show ∃ u, e_lp3 (d_X6_fit_36 x (fun x2q8 x3q8 σ8 => b_X6_fit_91 x x2q8 x3q8 σ8)) e_F 0 0 0 s0 = some (if x = -1 then nI (F 7776) else G 7776, u) ∧ cS σ u
  have fin : ∀ u : Sg, wF σ u → ∃ w : Sg, b_X6_fit_91 x (nI (F 7776)) (G 7776) u = some (if x = -1 then nI (F 7776) else G 7776, w) ∧ cS σ w := fun u hu => by
    refine ⟨u, ?_, hu.1⟩
    unfold b_X6_fit_91
    by_cases q : x = -1 <;> simp only [q, if_true, if_false]
  refine lp3_z (fun o => ∃ u : Sg, o = some (if x = -1 then nI (F 7776) else G 7776, u) ∧ cS σ u) (fun n a b u => (∃ k, At σ n k u ∧ a = nI (F k) ∧ b = G k) ∨ (wF σ u ∧ u 65 4 = 0 ∧ a = nI (F 7776) ∧ b = G 7776)) 7776 ?_ ?_ (e_F_lt (by omega)) (Or.inl ⟨0, ⟨b2, b3, Nat.le_refl 0⟩, rfl, rfl⟩)
  · rintro H a b u (⟨k, h1, rfl, rfl⟩ | ⟨h1, h2, rfl, rfl⟩)
    · have := h1.2.1.2.2.2; have := h1.2.2; omega
    · simp only [d_X6_fit_36, le7776, if_true]
      exact fin u h1
  · rintro H n a b u hn (⟨k, h1, rfl, rfl⟩ | ⟨h1, h2, rfl, rfl⟩) kk
    · have n10 : ¬ (1 : Int32) = 0 := by decide
      have k7 := h1.2.1.2.2.2
      have go : ∀ (t : Sg) (A : Nat) (B : Int32), A = F (k + 1) → B = G (k + 1) → (∀ c, c ≠ 62 → c ≠ 63 → t c = u c) → ∃ w : Sg, e_cV (m_X5_goOn t) (fun σ4 => H (nI A) B (nI (n + 1)) σ4) = some (if x = -1 then nI (F 7776) else G 7776, w) ∧ cS σ w := by
        intro t A B hA hB ht
        obtain ⟨s', r1, r2, -, -, r3⟩ := at_next h1 (fun c c1 c2 _ => ht c c1 c2)
        rw [r1, p_cV]
        have vf : ∀ e, VC σ e = false → VS σ N (dg e) = false := fun e he => by unfold VS; rw [show vB (peS σ) (cpS σ) (dg e) = false from he, Bool.false_and]
        rcases r3 with ⟨q1, q2⟩ | ⟨k', q1, q2, q3⟩
        · exact kk _ _ _ (Or.inr ⟨r2, q1, by rw [hA]; exact congrArg nI (fd_to k7 (fun e e1 e2 => vf e (q2 e e1 e2))).symm, by rw [hB]; exact (fd_to k7 (fun e e1 e2 => vf e (q2 e e1 e2))).symm⟩)
        · exact kk _ _ _ (Or.inl ⟨k', q2, by rw [hA]; exact congrArg nI (fd_to q1 (fun e e1 e2 => vf e (q3 e e1 e2))).symm, by rw [hB]; exact (fd_to q1 (fun e e1 e2 => vf e (q3 e e1 e2))).symm⟩)
      obtain ⟨t, t1, t2⟩ := q_sHoldC hI hN eN h1
      have e67 : mk5 (fun i => decide (t (66 + 1) i = x)) = mk5 (fun i => decide (dI (dg k i) = x)) := mk5_cong (fun i hi => by rw [t2 (66 + 1) (by decide) (by decide), show u (66 + 1) i = u 67 i from rfl, h1.2.1.1.1 i hi])
      have ew : m_X5_wearersOf x t = some (fmD x (dg k), t) := by
        unfold m_X5_wearersOf fmD
        rw [q_wearers, p_cI, e67]
        by_cases q : nI (mk5 (fun i => decide (dI (dg k i) = x))) = 0 <;> simp only [q, if_true, if_false]
      simp only [d_X6_fit_36, ge7776 hn, if_false, h1.2.1.2.2.1, n10, t1, p_cI, p_ifz, ew, p_lt, b_X6_fit_78, x_s]
      have hv : vB (peS σ) (cpS σ) (dg k) = true := at_V h1
      cases hs : al (sB σ (dg k)) N
      · simp only [Bool.false_eq_true, if_false]
        have hf : VS σ N (dg k) = false := by unfold VS; rw [hs, Bool.and_false]
        exact go t (F k) (G k) (fd_f hf).symm (fd_f hf).symm t2
      · simp only [if_true]
        have hf : VS σ N (dg k) = true := by unfold VS; rw [hs, hv]; rfl
        have eF : F (k + 1) = F k + 1 := fd_t (op := nAdd) hf
        have eG : G (k + 1) = G k ||| fmD x (dg k) := fd_t (op := iOr) hf
        exact go t (F k + 1) (G k ||| fmD x (dg k)) eF.symm eG.symm t2
    · simp only [d_X6_fit_36, ge7776 hn, if_false, h2, if_true]
      exact fin u h1
theorem fo_orA (b : Nat → Bool) (a : Int32) : ∀ n, fo (fun i a => a ||| (if b i = true then jsl 1 (nI i) else 0)) a n = a ||| fo (fun i a => a ||| (if b i = true then jsl 1 (nI i) else 0)) 0 n
  | 0 => by show a = a ||| 0; rw [Int32.or_zero]
  | n + 1 => by
    rw [fo_s, fo_s, fo_orA b a n, Int32.or_assoc]
theorem q_fit60 {x a b c : Int32} {u : Sg} {K : Int32 → Int32 → Int32 → Sg → Option (Int32 × Sg)} : e_lp4 (d_X7_fit_60 x K) e_F a b c 0 u = K a (b ||| nI (mk5 (fun p => decide (u 114 p = x)))) c u := by
  have e5 := fo_or5' (fun p => decide (u 114 p = x))
  rw [← e5, ← fo_orA]
  refine lp4_z (fun o => o = K a (fo (fun i a => a ||| (if decide (u 114 i = x) = true then jsl 1 (nI i) else 0)) b 5) c u) (fun i a' b' c' v => v = u ∧ a' = a ∧ b' = fo (fun i a => a ||| (if decide (u 114 i = x) = true then jsl 1 (nI i) else 0)) b i ∧ c' = c) 5 ?_ ?_ (e_F_lt (by omega)) ⟨rfl, rfl, rfl, rfl⟩
  · rintro H a' b' c' v ⟨rfl, rfl, rfl, rfl⟩
    simp only [d_X7_fit_60, le5, if_true]
  · rintro H i a' b' c' v hi ⟨rfl, rfl, rfl, rfl⟩ kk
    simp only [d_X7_fit_60, ge5 hi, if_false, p_gd (in5 hi), ix5 hi, b_X7_fit_86, p_lt, x_s]
    by_cases q : v 114 i = x
    · rw [if_pos q]
      exact kk _ _ _ _ ⟨rfl, rfl, by rw [fo_s]; simp only [q, decide_true, if_true], rfl⟩
    · rw [if_neg q]
      exact kk _ _ _ _ ⟨rfl, rfl, by rw [fo_s]; simp only [q, decide_false, Bool.false_eq_true, if_false], rfl⟩
theorem cn_mk0 (f : Nat → Bool) : (nI (cn5 f) = 0) ↔ nI (mk5 f) = 0 := by
  unfold cn5 mk5 bN
  cases f 0 <;> cases f 1 <;> cases f 2 <;> cases f 3 <;> cases f 4 <;> decide
theorem q_fitM {σ τ : Sg} {x : Int32} {N : Nat} (hI : Inv σ) (hτ : ∀ c, 100 ≤ c → τ c = σ c) (hN : N ≤ 6) (eN : σ 1 3 = nI N) (hx : x = -1 ∨ ∃ c, c < 5 ∧ x = nI c) : ∃ u, b_X7_fit_15 x τ = some (if x = -1 then nI (fd nAdd 0 (fun k => VS σ N (dR k)) (fun _ => 1) 7776) else fd iOr 0 (fun k => VS σ N (dR k)) (fun k => fmD x (dR k)) 7776, u) ∧ mS τ u := by
  unfold b_X7_fit_15
  obtain ⟨t0, t1, t2⟩ := q_asNow (σ := τ)
  rw [t1, p_cV]
  let F : Nat → Nat := fd nAdd 0 (fun k => VS σ N (dR k)) (fun _ => 1)
  let G : Nat → Int32 := fd iOr 0 (fun k => VS σ N (dR k)) (fun k => fmD x (dR k))
  show ∃ u, e_lp3 (d_X7_fit_26 x (fun x2q12 x3q12 σ12 => (if 0 ≤ x then some (x3q12, σ12) else some (x2q12, σ12)))) e_F 0 0 0 t0 = some (if x = -1 then nI (F 7776) else G 7776, u) ∧ mS τ u
  refine lp3_z (fun o => ∃ u : Sg, o = some (if x = -1 then nI (F 7776) else G 7776, u) ∧ mS τ u) (fun n a b u => mS τ u ∧ rF σ u ∧ a = nI (F n) ∧ (x = -1 ∨ b = G n)) 7776 ?_ ?_ (e_F_lt (by omega)) ⟨t2.mS, t2.rF hI hτ, rfl, Or.inr rfl⟩
  · rintro H a b u ⟨h1, h2, rfl, h4⟩
    simp only [d_X7_fit_26, le7776, if_true]
    refine ⟨u, ?_, h1⟩
    rcases hx with rfl | ⟨c, hc, rfl⟩
    · have z : ¬ (0 : Int32) ≤ -1 := by decide
      simp only [z, if_false, if_true]
    · have z : (0 : Int32) ≤ nI c := nI_pos' (by omega)
      have hne : ¬ nI c = -1 := fun q => m1_c hc q.symm
      simp only [z, if_true, hne, if_false, h4.resolve_left hne]
  · rintro H n a b u hn ⟨h1, h2, rfl, h4⟩ kk
    obtain ⟨v, v1, v2, v3⟩ := q_dress (u := u) hn
    have hv : rF σ v := h2.mv (fun c c1 _ _ => v2 c c1)
    have hm : mS τ v := h1.tr ⟨fun c hc => v2 c (by omega), fun j _ => by rw [v2 100 (by decide)]⟩
    have hD : ∀ q, q < 5 → dR n q < 6 := fun q _ => dR_lt n q
    have o0 : ∀ y : Int32, y ||| 0 = y := fun y => Int32.or_zero
    simp only [d_X7_fit_26, ge7776 hn, if_false, v1, p_cV, q_isWay hI hD hv v3, p_cI, p_ifz, q_sHoldM hI hN eN hD hv v3, x_s, q_fit60, b_X7_fit_112, b_X7_fit_113, p_lt, o0]
    cases hV : vB (peS σ) (cpS σ) (dR n)
    · simp only [Bool.false_eq_true, if_false]
      have hf : VS σ N (dR n) = false := by unfold VS; rw [hV, Bool.false_and]
      exact kk _ _ _ ⟨hm, hv, congrArg nI (fd_f hf).symm, h4.imp id (fun q => q.trans (fd_f hf).symm)⟩
    · simp only [if_true]
      cases hS : al (sB σ (dR n)) N
      · simp only [Bool.false_eq_true, if_false]
        have hf : VS σ N (dR n) = false := by unfold VS; rw [hS, Bool.and_false]
        exact kk _ _ _ ⟨hm, hv, congrArg nI (fd_f hf).symm, h4.imp id (fun q => q.trans (fd_f hf).symm)⟩
      · simp only [if_true]
        have hf : VS σ N (dR n) = true := by unfold VS; rw [hV, hS]; rfl
        have eF0 : F (n + 1) = F n + 1 := fd_t (op := nAdd) hf
        have eF : nI (F n + 1) = nI (F (n + 1)) := congrArg nI eF0.symm
        rcases hx with rfl | ⟨c, hc, rfl⟩
        · have z : (-1 : Int32) < 0 := by decide
          simp only [z, if_true]
          exact kk _ _ _ ⟨hm, hv, eF, Or.inl rfl⟩
        · have z : ¬ nI c < 0 := nI_pos (by omega)
          have hne : ¬ nI c = -1 := fun q => m1_c hc q.symm
          have eb := h4.resolve_left hne
          have em : mk5 (fun p => decide (v 114 p = nI c)) = mk5 (fun i => decide (dI (dR n i) = nI c)) := mk5_cong (fun p hp => by
            refine decide_eq_decide.mpr ?_
            rw [v3 p hp]
            exact mc_c hc)
          have ez : (nI (cn5 (fun i => tB (v 100 0) (nI i) && decide (v 114 i = nI c))) = 0) ↔ nI (mk5 (fun i => decide (dI (dR n i) = nI c))) = 0 := by
            have ec : cn5 (fun i => tB (v 100 0) (nI i) && decide (v 114 i = nI c)) = cn5 (fun i => decide (dI (dR n i) = nI c)) := cn5_cong (fun p hp => by
              have e1 : decide (v 114 p = nI c) = decide (dI (dR n p) = nI c) := decide_eq_decide.mpr (by rw [v3 p hp]; exact mc_c hc)
              rw [e1]
              rcases (vB_iff.mp hV).1 p hp with q | q
              · rw [q, decide_eq_false (show ¬ dI 0 = nI c from m1_c hc), Bool.and_false]
              · have : tB (v 100 0) (nI p) = true := by rw [hv.1 0 (by decide), hI.2.1.1]; exact q
                rw [this, Bool.true_and])
            rw [ec]
            exact cn_mk0 _
          simp only [z, if_false, q_many, p_cI, ez, em, eb]
          have eG : G (n + 1) = G n ||| fmD (nI c) (dR n) := fd_t (op := iOr) hf
          by_cases q : nI (mk5 (fun i => decide (dI (dR n i) = nI c))) = 0
          · rw [if_pos q]
            refine kk _ _ _ ⟨hm, hv, eF, Or.inr ?_⟩
            rw [eG, fmD, if_pos q, q, o0]
          · rw [if_neg q]
            refine kk _ _ _ ⟨hm, hv, eF, Or.inr ?_⟩
            rw [eG, fmD, if_neg q]
theorem op_fit (x : Int32) : SimI (m_X6_fit x) (m_X7_fit x) := by
  intro σ hI
  obtain ⟨w1, w2, w3, w4⟩ := id hI
  obtain ⟨N, hN, eN⟩ := w1.2.2.1
  have a2 := w2.2.1
  have main : (x = -1 ∨ ∃ c, c < 5 ∧ x = nI c) → ∃ r s1 s2, b_X6_fit_18 x σ = some (r, s1) ∧ b_X7_fit_15 x s1 = some (r, s2) ∧ Inv s2 ∧ s1 100 1 = σ 1 1 := by
    intro hx
    obtain ⟨u, u1, u2⟩ := q_fitC (x := x) hI hN eN
    obtain ⟨v, v1, v2⟩ := q_fitM (τ := u) hI (fun c hc => u2 c (by omega)) hN eN hx
    refine ⟨_, u, v, u1, ?_, (hI.ps u2.ps).ps v2.ps, by rw [u2 100 (by omega)]; exact a2⟩
    rw [v1]
    have e1 : fd nAdd 0 (fun k => VS σ N (dg k)) (fun _ => 1) 7776 = fd nAdd 0 (fun k => VS σ N (dR k)) (fun _ => 1) 7776 := fd_swap cM_nat (V := VS σ N) (f := fun _ => 1) (fun D E h => VS_cong h) (fun _ _ _ => rfl)
    have e2 : fd iOr 0 (fun k => VS σ N (dg k)) (fun k => fmD x (dg k)) 7776 = fd iOr 0 (fun k => VS σ N (dR k)) (fun k => fmD x (dR k)) 7776 := fd_swap cM_or (V := VS σ N) (f := fmD x) (fun D E h => VS_cong h) (fun D E h => fmD_cong h)
    rw [e1, e2]
  unfold m_X6_fit m_X7_fit
  by_cases hx1 : x = -1
  · obtain ⟨r, s1, s2, h1, h2, h3, -⟩ := main (Or.inl hx1)
    simp only [hx1, if_true]
    rw [hx1] at h1 h2
    exact ⟨r, s1, s2, h1, h2, h3⟩
  · simp only [hx1, if_false, q_hasCoat, q_isCoat, p_cI, p_ifz]
    cases hx : hB (σ 1 1) x
    · exact ⟨_, _, σ, rfl, by simp only [a2, hx, Bool.false_eq_true, if_false], hI⟩
    · obtain ⟨c, hc, rfl⟩ := hB_ix hx
      obtain ⟨r, s1, s2, h1, h2, h3, h4⟩ := main (Or.inr ⟨c, hc, rfl⟩)
      simp only [if_true]
      exact ⟨r, s1, s2, h1, by simp only [h4, hx, if_true]; exact h2, h3⟩
