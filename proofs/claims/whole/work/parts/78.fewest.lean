theorem ge243 {i : Nat} (h : i < 243) : ¬ (243 : Int32) ≤ nI i := x_ge (n := 243) h (by decide)
theorem le243 : (243 : Int32) ≤ nI 243 := by decide
theorem k243 {i : Nat} (h : i < 243) : k_in (nI i) 243 = true := x_in h (by decide)
theorem j243 {i : Nat} (h : i < 243) : Int32.toNatClampNeg (nI i) = i := x_ix (by omega)
theorem q_takeF {s : Sg} : ∃ t, m_X2_takeFollowing s = some t ∧ (∀ c, c ≠ 98 → c ≠ 99 → t c = s c) ∧ ∀ w, w < 243 → t 98 w = s 99 w ∧ t 99 w = 0 := by
  unfold m_X2_takeFollowing
  refine lp1_z (fun o => ∃ t : Sg, o = some t ∧ (∀ c, c ≠ 98 → c ≠ 99 → t c = s c) ∧ ∀ w, w < 243 → t 98 w = s 99 w ∧ t 99 w = 0) (fun i t => (∀ c, c ≠ 98 → c ≠ 99 → t c = s c) ∧ (∀ w, w < i → t 98 w = s 99 w ∧ t 99 w = 0) ∧ ∀ w, i ≤ w → t 99 w = s 99 w) 243 ?_ ?_ (e_F_lt (by omega)) ⟨fun _ _ _ => rfl, fun w hw => by omega, fun _ _ => rfl⟩
  · rintro H t ⟨g1, g2, g3⟩
    simp only [d_X2_takeFollowing_2, le243, if_true]
    exact ⟨t, rfl, g1, g2⟩
  · rintro H i t hi ⟨g1, g2, g3⟩ kk
    simp only [d_X2_takeFollowing_2, ge243 hi, if_false, p_gd (k243 hi), p_wr (k243 hi), j243 hi, x_s]
    refine kk _ ⟨fun c c1 c2 => by rw [up_rw, rw1_ne c2, up_rw, rw1_ne c1]; exact g1 c c1 c2, fun w hw => ?_, fun w hw => ?_⟩
    · simp only [up_rw]
      simp (disch := decide) only [rw1_eq, rw1_ne]
      by_cases e : w = i
      · subst e; rw [upd_s, upd_s, g3 w (Nat.le_refl w)]; exact ⟨rfl, rfl⟩
      · rw [upd_n e, upd_n e]; exact g2 w (by omega)
    · rw [up_rw, rw1_eq, up_rw, rw1_ne (by decide), upd_n (by omega)]; exact g3 w (by omega)
theorem fd_skip0 {A : Type} {op : A → A → A} {u : A} {V : Nat → Bool} {f : Nat → A} {m : Nat} : ∀ j, (∀ e, m ≤ e → e < m + j → V e = false) → fd op u V f (m + j) = fd op u V f m
  | 0, _ => rfl
  | j + 1, h => by
    rw [← Nat.add_assoc, fd_f (h _ (by omega) (by omega))]
    exact fd_skip0 j (fun e e1 e2 => h e e1 (by omega))
theorem q_anyC {σ s : Sg} {N : Nat → Bool} {p : Nat} {q : Option Nat} {z : Nat} (hp : p < 5) (tp : tB (σ 1 0) (nI p) = true) (hq : ∀ x, q = some x → x < 5 ∧ tB (σ 1 0) (nI x) = true) (hz : z ≤ 4) (hf : sF3 σ s) (hb : Bs (s 98) 243 N) :
    ∃ t, m_X2_anyFits (nI p) (yC q) (nI z) s = some (zI (anC N (fitF σ p q z) 7776), t) ∧ ∀ c, c ≠ 62 → c ≠ 63 → c ≠ 84 → t c = s c := by
  unfold m_X2_anyFits
  refine lp1_z (fun o => ∃ t : Sg, o = some (zI (anC N (fitF σ p q z) 7776), t) ∧ ∀ c, c ≠ 62 → c ≠ 63 → c ≠ 84 → t c = s c) (fun w t => (∀ c, c ≠ 62 → c ≠ 63 → c ≠ 84 → t c = s c) ∧ anC N (fitF σ p q z) (32 * w) = false) 243 ?_ ?_ (e_F_lt (by omega)) ⟨fun _ _ _ _ => rfl, rfl⟩
  · rintro H t ⟨g1, g2⟩
    simp only [d_X2_anyFits_3, le243, if_true, p_rz0]
    exact ⟨t, by rw [show 7776 = 32 * 243 from rfl, g2, zI_f], g1⟩
  · rintro H w t hw ⟨g1, g2⟩ kk
    simp only [d_X2_anyFits_3, ge243 hw, if_false]
    refine lp2_z (fun o => ∃ t : Sg, o = some (zI (anC N (fitF σ p q z) 7776), t) ∧ ∀ c, c ≠ 62 → c ≠ 63 → c ≠ 84 → t c = s c) (fun b a u => a = nI w ∧ (∀ c, c ≠ 62 → c ≠ 63 → c ≠ 84 → u c = s c) ∧ anC N (fitF σ p q z) (32 * w + b) = false) 32 ?_ ?_ (e_F_lt (by omega)) ⟨rfl, g1, g2⟩
    · rintro H2 a u ⟨rfl, u1, u2⟩
      simp only [d_X2_anyFits_14, le32, if_true, x_s]
      exact kk u ⟨u1, by rw [Nat.mul_succ]; exact u2⟩
    · rintro H2 b a u hb32 ⟨rfl, u1, u2⟩ kk2
      have e98 : u 98 = s 98 := u1 98 (by decide) (by decide) (by decide)
      have ec : (32 : Int32) * nI w + nI b = nI (32 * w + b) := by
        have : (32 : Int32) * nI w = nI (32 * w) := pk_mul 32 w
        rw [this, nI_ad]
      simp only [d_X2_anyFits_14, ge32 hb32, if_false, p_gd (k243 hw), j243 hw, e98, gb_jsr hb32, hb w hw b hb32, ec, x_s]
      by_cases hz0 : s 98 w = 0
      · rw [if_pos hz0]
        have hN : ∀ e, 32 * w + b ≤ e → e < 32 * w + b + (32 - b) → N e = false := fun e e1 e2 => by
          have := hb w hw (e - 32 * w) (by omega)
          rw [hz0, gb_0, show 32 * w + (e - 32 * w) = e by omega] at this
          exact this.symm
        have e : anC N (fitF σ p q z) (32 * w + b + (32 - b)) = anC N (fitF σ p q z) (32 * w + b) := fd_skip0 _ hN
        exact kk u ⟨u1, by rw [show 32 * (w + 1) = 32 * w + b + (32 - b) by omega, e]; exact u2⟩
      · rw [if_neg hz0]
        by_cases hN : N (32 * w + b) = true
        · rw [if_pos hN]
          have hfu : sF3 σ u := hf.mv (fun c c1 c2 c3 _ _ _ => u1 c c1 c2 c3)
          obtain ⟨v, v1, v2⟩ := q_fitsC (a := 32 * w + b) (q := q) (z := z) (by omega) hp tp hq hz hfu
          rw [v1, p_cI]
          simp only [p_ifz]
          have fv : ∀ c, c ≠ 62 → c ≠ 63 → c ≠ 84 → v c = s c := fun c c1 c2 c3 => by rw [v2 c c1 c2 c3]; exact u1 c c1 c2 c3
          by_cases hF : fitF σ p q z (dc (32 * w + b)) = true
          · rw [if_pos hF, p_rz1]
            have := anC_mono hN hF (7776 - (32 * w + b + 1))
            rw [show 32 * w + b + 1 + (7776 - (32 * w + b + 1)) = 7776 by omega] at this
            exact ⟨v, by rw [this, zI_t], fv⟩
          · rw [if_neg hF]
            refine kk2 _ _ ⟨rfl, fv, ?_⟩
            have e : anC N (fitF σ p q z) (32 * w + b + 1) = (anC N (fitF σ p q z) (32 * w + b) || fitF σ p q z (dc (32 * w + b))) := fd_t (op := bOr) hN
            rw [← Nat.add_assoc, e, u2]
            simpa using hF
        · rw [if_neg hN]
          refine kk2 _ _ ⟨rfl, u1, ?_⟩
          have e : anC N (fitF σ p q z) (32 * w + b + 1) = anC N (fitF σ p q z) (32 * w + b) := fd_f (by simpa using hN)
          rw [← Nat.add_assoc, e]; exact u2
theorem q_allC {σ s : Sg} {Kn N : Nat → Bool} (hI : Inv σ) (hf : sF3 σ s) (hb : Bs (s 98) 243 N) (hr : Rs Kn em s) : ∃ t, m_X2_stepFromAll s = some t ∧ Rs Kn (lT σ N 7776) t ∧ ∀ c, c ≠ 84 → c ≠ 97 → c ≠ 99 → t c = s c := by
  unfold m_X2_stepFromAll
  refine lp1_z (fun o => ∃ t : Sg, o = some t ∧ Rs Kn (lT σ N 7776) t ∧ ∀ c, c ≠ 84 → c ≠ 97 → c ≠ 99 → t c = s c) (fun w t => (∀ c, c ≠ 84 → c ≠ 97 → c ≠ 99 → t c = s c) ∧ Rs Kn (lT σ N (32 * w)) t) 243 ?_ ?_ (e_F_lt (by omega)) ⟨fun _ _ _ _ => rfl, hr⟩
  · rintro H t ⟨g1, g2⟩
    simp only [d_X2_stepFromAll_2, le243, if_true]
    exact ⟨t, rfl, g2, g1⟩
  · rintro H w t hw ⟨g1, g2⟩ kk
    simp only [d_X2_stepFromAll_2, ge243 hw, if_false]
    refine lp2_z (fun o => ∃ t : Sg, o = some t ∧ Rs Kn (lT σ N 7776) t ∧ ∀ c, c ≠ 84 → c ≠ 97 → c ≠ 99 → t c = s c) (fun b a u => a = nI w ∧ (∀ c, c ≠ 84 → c ≠ 97 → c ≠ 99 → u c = s c) ∧ Rs Kn (lT σ N (32 * w + b)) u) 32 ?_ ?_ (e_F_lt (by omega)) ⟨rfl, g1, g2⟩
    · rintro H2 a u ⟨rfl, u1, u2⟩
      simp only [d_X2_stepFromAll_11, le32, if_true, x_s]
      exact kk u ⟨u1, by rw [Nat.mul_succ]; exact u2⟩
    · rintro H2 b a u hb32 ⟨rfl, u1, u2⟩ kk2
      have e98 : u 98 = s 98 := u1 98 (by decide) (by decide) (by decide)
      have ec : (32 : Int32) * nI w + nI b = nI (32 * w + b) := by
        have : (32 : Int32) * nI w = nI (32 * w) := pk_mul 32 w
        rw [this, nI_ad]
      simp only [d_X2_stepFromAll_11, ge32 hb32, if_false, p_gd (k243 hw), j243 hw, e98, gb_jsr hb32, hb w hw b hb32, ec, x_s]
      by_cases hz0 : s 98 w = 0
      · rw [if_pos hz0]
        have hN : ∀ e, 32 * w + b ≤ e → e < 32 * w + b + (32 - b) → N e = false := fun e e1 e2 => by
          have := hb w hw (e - 32 * w) (by omega)
          rw [hz0, gb_0, show 32 * w + (e - 32 * w) = e by omega] at this
          exact this.symm
        have e : lT σ N (32 * w + b + (32 - b)) = lT σ N (32 * w + b) := fd_skip0 _ hN
        exact kk u ⟨u1, by rw [show 32 * (w + 1) = 32 * w + b + (32 - b) by omega, e]; exact u2⟩
      · rw [if_neg hz0]
        by_cases hN : N (32 * w + b) = true
        · rw [if_pos hN]
          have hfu : sF3 σ u := hf.mv (fun c _ _ c3 c4 _ c6 => u1 c c3 c4 c6)
          obtain ⟨v, v1, v2, v3⟩ := q_stepFromC (a := 32 * w + b) hI (by omega) hfu u2
          rw [v1, p_cV]
          refine kk2 _ _ ⟨rfl, fun c c1 c2 c3 => by rw [v3 c c1 c2 c3]; exact u1 c c1 c2 c3, ?_⟩
          rw [← Nat.add_assoc, lT_t hN]; exact v2
        · rw [if_neg hN]
          refine kk2 _ _ ⟨rfl, u1, ?_⟩
          rw [← Nat.add_assoc, lT_f (by simpa using hN)]; exact u2
/-- the first of the levels -/
def frA (A : Nat → Bool) : Nat → Nat → Int32
  | 0, _ => -6
  | f + 1, n => if A n = true then nI n else frA A f (n + 1)
def dz (w : Int32) : Nat := if w = -1 then 0 else w.toNatClampNeg + 1
theorem dz_ok {w : Int32} (h : w = -1 ∨ ∃ c, c < 5 ∧ w = nI c) : dz w < 6 ∧ dI (dz w) = w := by
  rcases h with rfl | ⟨c, hc, rfl⟩
  · decide
  · have : ∀ c, c < 5 → dz (nI c) < 6 ∧ dI (dz (nI c)) = nI c := by decide
    exact this c hc
def D0 (σ : Sg) (p : Nat) : Nat := dz (σ 2 p)
theorem D0_ok {σ : Sg} (hI : Inv σ) : dok (D0 σ) ∧ (∀ p, p < 5 → dI (D0 σ p) = σ 2 p) ∧ gD σ (D0 σ) := by
  refine ⟨fun p hp => (dz_ok (wear_ok hI.1 p hp)).1, fun p hp => (dz_ok (wear_ok hI.1 p hp)).2, fun p hp => ?_⟩
  rcases hI.1.2.2.2.1 p hp with e | ⟨c, h1, h2, h3, h4⟩
  · left
    show dz (σ 2 p) = 0
    simp only [Nat.reduceAdd] at e
    rw [e]; rfl
  · exact Or.inr h4
def AC (σ : Sg) (p : Nat) (q : Option Nat) (z n : Nat) : Bool := anC (lv2 σ (cc (D0 σ)) n).2 (fitF σ p q z) 7776
theorem ge7 {i : Nat} (h : i < 7) : ¬ (6 : Int32) < nI i := nI_nlt (a := 6) (by omega) (by decide)
theorem le7 : (6 : Int32) < nI 7 := by decide
theorem q_fewest {σ : Sg} {p : Nat} {q : Option Nat} {z : Nat} (hI : Inv σ) (hp : p < 5) (tp : tB (σ 1 0) (nI p) = true) (hq : ∀ x, q = some x → x < 5 ∧ tB (σ 1 0) (nI x) = true) (hz : z ≤ 4) :
    ∃ u, m_X2_fewest 1 (nI p) (yC q) (nI z) σ = some (frA (AC σ p q z) 7 0, u) ∧ cS σ u := by
  obtain ⟨d1, d2, d3⟩ := D0_ok hI
  obtain ⟨s1, g0, g1⟩ := q_become (a := 83) (b := 1) (σ := σ) (by omega)
  obtain ⟨s2, l1, l2, l3, l4, l5⟩ := q_lay (k := 83) (σ := s1) tw_83
  have o2 : ∀ c, c ≠ 61 → c ≠ 62 → c ≠ 63 → s2 c = s1 c := l2
  have hf2 : sF3 σ s2 := by
    refine ⟨fun c hc => ?_, fun r hr => ?_, fun j r j1 j2 j3 j4 => ?_, fun c hc => ?_⟩
    · rw [o2 c (by omega) (by omega) (by omega)]; exact g1.1 c (by omega)
    · rw [o2 83 (by decide) (by decide) (by decide)]; exact bec_0 g1 hr
    · rw [o2 (83 + j) (by omega) (by omega) (by omega)]; exact g1.2 j r j1 j4
    · rw [l3 c hc, bec_0 g1 (by decide)]
      exact wv_cong (fun i hi => bec_j g1 (by decide) (by decide) hi) (fun i hi => bec_j g1 (by decide) (by decide) hi)
  have ho2 : oC (D0 σ) s2 := fun r hr => by
    rw [o2 84 (by decide) (by decide) (by decide), d2 r hr]
    exact bec_j (a := 83) (b := 1) (j := 1) g1 (by decide) (by decide) hr
  unfold m_X2_fewest
  rw [g0, p_cV, l1, p_cV]
  refine lp1_z (fun o => ∃ u : Sg, o = some (frA (AC σ p q z) 7 0, u) ∧ cS σ u) (fun i s => (∀ c, c ≠ 97 → c ≠ 98 → c ≠ 99 → s c = s2 c) ∧ ∀ w, w < i → s 97 w = 0 ∧ s 98 w = 0 ∧ s 99 w = 0) 243 ?_ ?_ (e_F_lt (by omega)) ⟨fun _ _ _ _ => rfl, fun w hw => by omega⟩
  · rintro H s3 ⟨f1, f2⟩
    have hf3 : sF3 σ s3 := hf2.mv (fun c _ _ _ c4 c5 c6 => f1 c c4 c5 c6)
    have ho3 : oC (D0 σ) s3 := fun r hr => by rw [f1 84 (by decide) (by decide) (by decide)]; exact ho2 r hr
    have hw : m_X2_wayNumber s3 = some (nI (cc (D0 σ)), s3) := by
      unfold m_X2_wayNumber
      have step : ∀ i, i < 5 → (1 + s3 84 i) * stv 0 i = nI (D0 σ i * 6 ^ i) := fun i hi => by rw [ho3 i hi, one_dI _ (d1 i hi), st0_6 i hi, pk_mul]
      have := lp2_accz (f := d_X2_wayNumber_4 (fun x1q2 σ2 => some (x1q2, σ2))) (σ := s3) (n := e_F) (a := (0 : Int32)) (fun i a => a + nI (D0 σ i * 6 ^ i)) 5 (fun a => some (a, s3)) (fun H a => by simp only [d_X2_wayNumber_4, le5, if_true]) (fun H i a hi => by simp only [d_X2_wayNumber_4, ge5 hi, if_false, p_gd (in5 hi), ix5 hi, p_lt, x_s, step i hi]) (e_F_lt (by decide))
      have ev : fo (fun i (a : Int32) => a + nI (D0 σ i * 6 ^ i)) 0 5 = nI (cc (D0 σ)) := by
        show (((((0 : Int32) + nI (D0 σ 0 * 6 ^ 0)) + nI (D0 σ 1 * 6 ^ 1)) + nI (D0 σ 2 * 6 ^ 2)) + nI (D0 σ 3 * 6 ^ 3)) + nI (D0 σ 4 * 6 ^ 4) = nI (cc (D0 σ))
        have z0 : (0 : Int32) = nI 0 := rfl
        have zz : 0 + D0 σ 0 * 6 ^ 0 + D0 σ 1 * 6 ^ 1 + D0 σ 2 * 6 ^ 2 + D0 σ 3 * 6 ^ 3 + D0 σ 4 * 6 ^ 4 = cc (D0 σ) := by
          unfold cc
          simp only [Nat.reducePow, Nat.pow_zero]
          omega
        rw [z0, nI_ad, nI_ad, nI_ad, nI_ad, nI_ad, zz]
      rw [this, ev]
    have r0 : Rs em em s3 := ⟨fun w hw b hb => by rw [(f2 w hw).1, gb_0]; rfl, fun w hw b hb => by rw [(f2 w hw).2.2, gb_0]; rfl⟩
    obtain ⟨s4, t1, t2, t3⟩ := q_reachC (cc_lt d1) r0
    simp only [d_X2_fewest_22, le243, if_true, hw, p_cI, t1, p_cV]
    have hf4 : sF3 σ s4 := hf3.mv (fun c _ _ _ c4 _ c6 => t3 c c4 c6)
    refine lp1_z (fun o => ∃ u : Sg, o = some (frA (AC σ p q z) 7 0, u) ∧ cS σ u) (fun n u => sF3 σ u ∧ frA (AC σ p q z) 7 0 = frA (AC σ p q z) (7 - n) n ∧ (n ≤ 6 → Bs (u 97) 243 (lv2 σ (cc (D0 σ)) n).1 ∧ Bs (u 99) 243 (lv2 σ (cc (D0 σ)) n).2)) 7 ?_ ?_ (e_F_lt (by omega)) ⟨hf4, rfl, fun _ => ⟨Bs_ext t2.1 (fun a => rfl), Bs_ext t2.2 (fun a => by show (ad em (cc (D0 σ)) a && !em a) = ad em (cc (D0 σ)) a; simp [em])⟩⟩
    · rintro H2 u ⟨u1, u2, -⟩
      simp only [d_X2_fewest_71, le7, if_true]
      exact ⟨u, by rw [u2]; rfl, u1.1⟩
    · rintro H2 n u hn ⟨u1, u2, u3⟩ kk
      obtain ⟨b1, b2⟩ := u3 (by omega)
      obtain ⟨v, v1, v2, v3⟩ := q_takeF (s := u)
      have hfv : sF3 σ v := u1.mv (fun c _ _ _ _ c5 c6 => v2 c c5 c6)
      have hbv : Bs (v 98) 243 (lv2 σ (cc (D0 σ)) n).2 := fun w hw b hb => by rw [(v3 w hw).1]; exact b2 w hw b hb
      obtain ⟨w, w1, w2⟩ := q_anyC (σ := σ) (s := v) (q := q) (z := z) hp tp hq hz hfv hbv
      have hfw : sF3 σ w := hfv.mv (fun c c1 c2 c3 _ _ _ => w2 c c1 c2 c3)
      simp only [d_X2_fewest_71, ge7 hn, if_false, v1, p_cV, w1, p_cI, p_ifz, x_s]
      have e7 : 7 - n = (7 - (n + 1)) + 1 := by omega
      rw [e7] at u2
      by_cases hA : anC (lv2 σ (cc (D0 σ)) n).2 (fitF σ p q z) 7776 = true
      · rw [if_pos hA]
        refine ⟨w, ?_, hfw.1⟩
        have : frA (AC σ p q z) ((7 - (n + 1)) + 1) n = nI n := by
          unfold frA
          rw [if_pos (show AC σ p q z n = true from hA)]
        rw [u2, this]
      · rw [if_neg hA]
        have e2 : frA (AC σ p q z) ((7 - (n + 1)) + 1) n = frA (AC σ p q z) (7 - (n + 1)) (n + 1) := by
          show (if AC σ p q z n = true then nI n else frA (AC σ p q z) (7 - (n + 1)) (n + 1)) = _
          rw [if_neg (show ¬ AC σ p q z n = true from hA)]
        rw [e2] at u2
        have l6 : ((6 : Int32) ≤ nI n) ↔ 6 ≤ n := nI_leI (a := 6) (by decide) (by omega)
        simp only [l6]
        by_cases h6 : 6 ≤ n
        · rw [if_pos h6]
          exact kk _ ⟨hfw, u2, fun h => by omega⟩
        · rw [if_neg h6]
          have hbw : Bs (w 98) 243 (lv2 σ (cc (D0 σ)) n).2 := by rw [w2 98 (by decide) (by decide) (by decide)]; exact hbv
          have hrw : Rs (lv2 σ (cc (D0 σ)) n).1 em w := ⟨by
            rw [w2 97 (by decide) (by decide) (by decide), v2 97 (by decide) (by decide)]
            exact Bs_ext b1 (fun a => by simp [em]), fun x hx b hb => by
            rw [w2 99 (by decide) (by decide) (by decide), (v3 x hx).2, gb_0]; rfl⟩
          obtain ⟨x, x1, x2, x3⟩ := q_allC hI hfw hbw hrw
          rw [x1, p_cV]
          exact kk _ ⟨hfw.mv (fun c _ _ c3 c4 _ c6 => x3 c c3 c4 c6), u2, fun _ => ⟨x2.1, x2.2⟩⟩
  · rintro H i s hi ⟨f1, f2⟩ kk
    simp only [d_X2_fewest_22, ge243 hi, if_false, p_wr (k243 hi), j243 hi, x_s]
    refine kk _ ⟨fun c c1 c2 c3 => by rw [up_rw, rw1_ne c3, up_rw, rw1_ne c2, up_rw, rw1_ne c1]; exact f1 c c1 c2 c3, fun w hw => ?_⟩
    simp only [up_rw]
    simp (disch := decide) only [rw1_eq, rw1_ne]
    by_cases e : w = i
    · subst e; rw [upd_s, upd_s, upd_s]; exact ⟨rfl, rfl, rfl⟩
    · rw [upd_n e, upd_n e, upd_n e]; exact f2 w (by omega)
