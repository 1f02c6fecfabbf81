/-! ===== steps, the class ===== -/
def sF3 (σ s : Sg) : Prop := cS σ s ∧ (∀ r, r < 4 → s 83 r = σ 1 r) ∧ (∀ j r, j < 14 → j ≠ 0 → j ≠ 1 → rng j r = true → s (83 + j) r = σ (1 + j) r) ∧ ∀ c, c < 5 → s 61 c = wv (σ 8) (σ 12) (σ 1 2) (nI c)
theorem sF3.mv {σ s t : Sg} (h : sF3 σ s) (g : ∀ c, c ≠ 62 → c ≠ 63 → c ≠ 84 → c ≠ 97 → c ≠ 98 → c ≠ 99 → t c = s c) : sF3 σ t := by
  obtain ⟨h1, h2, h3, h4⟩ := h
  refine ⟨fun c hc => by rw [g c (by omega) (by omega) (by omega) (by omega) (by omega) (by omega)]; exact h1 c hc, fun r hr => by rw [g 83 (by decide) (by decide) (by decide) (by decide) (by decide) (by decide)]; exact h2 r hr, fun j r a b c d => ?_, fun c hc => by rw [g 61 (by decide) (by decide) (by decide) (by decide) (by decide) (by decide)]; exact h4 c hc⟩
  rw [g (83 + j) (by omega) (by omega) (by omega) (by omega) (by omega) (by omega)]
  exact h3 j r a b c d
def oC (D : Nat → Nat) (s : Sg) : Prop := ∀ p, p < 5 → s 84 p = dI (D p)
theorem r6_dI : ∀ r, r < 6 → nI r - 1 = dI r := by decide
theorem one_dI : ∀ d, d < 6 → 1 + dI d = nI d := by decide
theorem st0_6 : ∀ p, p < 5 → stv 0 p = nI (6 ^ p) := by decide
theorem q_dressC {s : Sg} {a : Nat} (ha : a < 7776) : ∃ t, m_X2_dress (nI a) s = some t ∧ (∀ c, c ≠ 84 → t c = s c) ∧ oC (dc a) t := by
  unfold m_X2_dress
  refine lp2_z (fun o => ∃ t : Sg, o = some t ∧ (∀ c, c ≠ 84 → t c = s c) ∧ oC (dc a) t) (fun i x t => x = nI (a / 6 ^ i) ∧ (∀ c, c ≠ 84 → t c = s c) ∧ ∀ p, p < i → t 84 p = dI (dc a p)) 5 ?_ ?_ (e_F_lt (by omega)) ⟨by simp, fun _ _ => rfl, fun p hp => by omega⟩
  · rintro H x t ⟨-, g1, g2⟩
    simp only [d_X2_dress_4, le5, if_true]
    exact ⟨t, rfl, g1, g2⟩
  · rintro H i x t hi ⟨rfl, g1, g2⟩ kk
    have hb : a / 6 ^ i < 2 ^ 31 := Nat.lt_of_le_of_lt (Nat.div_le_self _ _) (by omega)
    have j6 : jrm (nI (a / 6 ^ i)) 6 - 1 = dI (dc a i) := by
      have : jrm (nI (a / 6 ^ i)) 6 = nI (a / 6 ^ i % 6) := jrm_nI (d := 6) hb (by decide) (by decide)
      rw [this, r6_dI _ (Nat.mod_lt _ (by decide))]; rfl
    have d6 : nI (a / 6 ^ i) / 6 = nI (a / 6 ^ (i + 1)) := by
      have : nI (a / 6 ^ i) / 6 = nI (a / 6 ^ i / 6) := pk_div (d := 6) hb (by decide) (by decide)
      rw [this, Nat.div_div_eq_div_mul, Nat.pow_succ]
    simp only [d_X2_dress_4, ge5 hi, if_false, p_wr (in5 hi), ix5 hi, j6, d6, p_lt, x_s]
    refine kk _ _ ⟨rfl, fun c hc => by rw [up_rw, rw1_ne hc]; exact g1 c hc, fun p hp => ?_⟩
    rw [up_rw, rw1_eq]
    by_cases e : p = i
    · subst e; rw [upd_s]
    · rw [upd_n e]; exact g2 p (by omega)
theorem q_sit83 {σ s : Sg} {D : Nat → Nat} (hD : dok D) (hf : sF3 σ s) (ho : oC D s) : ∃ s', m_X3_sit 83 s = some s' ∧ (∀ c, c ≠ 62 → c ≠ 63 → s' c = s c) ∧ (∀ p, p < 5 → s' 63 p = if tB (σ 1 0) (nI p) = true then nI (sK σ D p) else -6) := by
  obtain ⟨f1, f2, f3, f4⟩ := hf
  obtain ⟨s', h1, h2, h3, h4⟩ := q_sit (k := 83) (σ := s) (by decide)
  have etv : ∀ p, p < 5 → tB (σ 1 0) (nI p) = true → tv s 83 p = wv (σ 8) (σ 12) (σ 1 2) (dI (D p)) := fun p hp tp => by
    unfold tv
    rw [f2 0 (by decide), if_pos tp, show s (83 + 1) p = s 84 p from rfl, ho p hp]
    rcases dI_ok (hD p hp) with e | ⟨c, hc, e⟩
    · rw [e, inB_m1, wv_no]; rfl
    · rw [e, inB_nI hc, if_pos rfl, ix5 hc, f4 c hc]
  refine ⟨s', h1, h2, fun p hp => ?_⟩
  rw [h4 p hp, f2 0 (by decide)]
  by_cases tp : tB (σ 1 0) (nI p) = true
  · rw [if_pos tp, if_pos tp]
    unfold sK seatW
    rw [seatN_cong (fun x hx tx => etv x hx tx) hp tp]
  · rw [if_neg tp, if_neg tp]
/-! what is asked for -/
def fitF (σ : Sg) (p : Nat) (q : Option Nat) (s : Nat) (D : Nat → Nat) : Bool := match q with
  | none => decide (sK σ D p ≤ s)
  | some q => decide (sK σ D p = sK σ D q + 1 ∨ sK σ D q = sK σ D p + 1)
theorem fitF_cong {σ : Sg} {p : Nat} {q : Option Nat} {s : Nat} (hp : p < 5) (hq : ∀ x, q = some x → x < 5) {D E : Nat → Nat} (h : ∀ q, q < 5 → D q = E q) : fitF σ p q s D = fitF σ p q s E := by
  cases q with
  | none => show decide (sK σ D p ≤ s) = decide (sK σ E p ≤ s); rw [sK_cong hp h]
  | some x => show decide (sK σ D p = sK σ D x + 1 ∨ sK σ D x = sK σ D p + 1) = decide (sK σ E p = sK σ E x + 1 ∨ sK σ E x = sK σ E p + 1); rw [sK_cong hp h, sK_cong (hq x rfl) h]
def yC : Option Nat → Int32
  | none => -1
  | some q => nI q
theorem abs_1 : ∀ a, a < 6 → ∀ b, b < 6 → (((if 0 ≤ nI a - nI b then nI a - nI b else 0 - (nI a - nI b)) = 1) ↔ (a = b + 1 ∨ b = a + 1)) := by decide +kernel
theorem off_1 : ∀ a, a < 6 → ∀ b, b < 6 → ((nI a - nI b = 1 ∨ nI a - nI b = -1) ↔ (a = b + 1 ∨ b = a + 1)) := by decide +kernel
theorem q_fitsC {σ s : Sg} {a p : Nat} {q : Option Nat} {z : Nat} (ha : a < 7776) (hp : p < 5) (tp : tB (σ 1 0) (nI p) = true) (hq : ∀ x, q = some x → x < 5 ∧ tB (σ 1 0) (nI x) = true) (hz : z ≤ 4) (hf : sF3 σ s) :
    ∃ t, m_X2_fits (nI a) (nI p) (yC q) (nI z) s = some (zI (fitF σ p q z (dc a)), t) ∧ ∀ c, c ≠ 62 → c ≠ 63 → c ≠ 84 → t c = s c := by
  obtain ⟨t, t1, t2, t3⟩ := q_dressC (s := s) ha
  have hft : sF3 σ t := hf.mv (fun c _ _ c3 _ _ _ => t2 c c3)
  obtain ⟨v, v1, v2, v3⟩ := q_sit83 (dc_ok a) hft t3
  refine ⟨v, ?_, fun c c1 c2 c3 => by rw [v2 c c1 c2]; exact t2 c c3⟩
  unfold m_X2_fits
  rw [t1, p_cV, v1, p_cV, q_seatOf5 hp, p_cI, v3 p hp, if_pos tp]
  have hl := sK_le σ (dc a) p
  cases q with
  | none =>
    have e1 : yC none = -1 := rfl
    have lt : (nI z < nI (sK σ (dc a) p)) ↔ z < sK σ (dc a) p := nI_ltI (by omega) (by omega)
    simp only [e1, if_true, lt, fitF]
    by_cases h : z < sK σ (dc a) p
    · rw [if_pos h, p_rz0, decide_eq_false (by omega), zI_f]
    · rw [if_neg h, p_rz1, decide_eq_true (by omega), zI_t]
  | some x =>
    obtain ⟨hx, tx⟩ := hq x rfl
    have e1 : ¬ yC (some x) = -1 := fun e => m1_c hx e.symm
    have e2 : yC (some x) = nI x := rfl
    have hl2 := sK_le σ (dc a) x
    rw [if_neg e1, e2, q_seatOf5 hx, p_cI, v3 x hx, if_pos tx, m_J9_abs_0f7a4, p_cI]
    simp only [abs_1 _ (show sK σ (dc a) p < 6 by omega) _ (show sK σ (dc a) x < 6 by omega), fitF]
    by_cases h : sK σ (dc a) p = sK σ (dc a) x + 1 ∨ sK σ (dc a) x = sK σ (dc a) p + 1
    · rw [if_pos h, p_rz1, decide_eq_true h, zI_t]
    · rw [if_neg h, p_rz0, decide_eq_false h, zI_f]
/-! reaching -/
def Rs (Kn T : Nat → Bool) (s : Sg) : Prop := Bs (s 97) 243 (fun a => Kn a || T a) ∧ Bs (s 99) 243 (fun a => T a && !Kn a)
theorem Bs_ext {f : Nat → Int32} {W : Nat} {S T : Nat → Bool} (h : Bs f W S) (g : ∀ a, S a = T a) : Bs f W T := fun w hw b hb => by rw [h w hw b hb, g]
theorem q_reachC {Kn T : Nat → Bool} {s : Sg} {b : Nat} (hb : b < 7776) (h : Rs Kn T s) : ∃ t, m_X2_reach (nI b) s = some t ∧ Rs Kn (ad T b) t ∧ ∀ c, c ≠ 97 → c ≠ 99 → t c = s c := by
  obtain ⟨h1, h2⟩ := h
  have d32 : nI b / 32 = nI (b / 32) := pk_div (d := 32) (by omega) (by decide) (by decide)
  have m32 : jrm (nI b) 32 = nI (b % 32) := jrm_nI (d := 32) (by omega) (by decide) (by decide)
  have i1 : inB (nI b) 0 7775 = true := decide_eq_true ⟨nI_pos' (by omega), nI_le (b := 7775) (by omega) (by decide)⟩
  have i2 : inB (nI (b / 32)) 0 242 = true := decide_eq_true ⟨nI_pos' (by omega), nI_le (b := 242) (by omega) (by decide)⟩
  have k1 : k_in (nI (b / 32)) 243 = true := x_in (by omega) (by decide)
  have j1 : Int32.toNatClampNeg (nI (b / 32)) = b / 32 := x_ix (by omega)
  have bit := Bs_get h1 (show b < 32 * 243 by omega)
  unfold m_X2_reach
  simp only [d32, m32, p_lt, q_within, i1, i2, p_cI, p_ifz, if_true, p_gd k1, p_wr k1, j1, gb_and (show b % 32 < 32 by omega), bit]
  cases q : (Kn b || T b)
  · simp only [if_true]
    have kb : Kn b = false ∧ T b = false := by simpa using q
    refine ⟨_, rfl, ⟨?_, ?_⟩, fun c c1 c2 => by rw [up_rw, rw1_ne c2, up_rw, rw1_ne c1]⟩
    · rw [up_rw, rw1_ne (by decide), up_rw, rw1_eq]
      exact Bs_ext (Bs_add h1) (fun a => by unfold ad; rw [Bool.or_assoc])
    · rw [up_rw, rw1_eq, up_rw, rw1_ne (by decide)]
      refine Bs_ext (Bs_add h2) (fun a => ?_)
      unfold ad
      by_cases e : b = a
      · subst e; rw [decide_eq_true rfl, kb.1]; simp
      · rw [decide_eq_false e, Bool.or_false, Bool.or_false]
  · simp only [Bool.true_eq_false, if_false]
    refine ⟨s, rfl, ⟨?_, ?_⟩, fun _ _ _ => rfl⟩
    · refine Bs_ext h1 (fun a => ?_)
      unfold ad
      by_cases e : b = a
      · subst e; rw [decide_eq_true rfl, q]; simp
      · rw [decide_eq_false e, Bool.or_false]
    · refine Bs_ext h2 (fun a => ?_)
      unfold ad
      by_cases e : b = a
      · subst e
        rw [decide_eq_true rfl, Bool.or_true]
        cases k : Kn b
        · rw [k, Bool.false_or] at q; rw [q]
        · simp
      · rw [decide_eq_false e, Bool.or_false]
theorem q_wnT {σ s : Sg} {D : Nat → Nat} {x : Nat} (hD : dok D) (hx : x < 5) (hf : sF3 σ s) (ho : oC D s) : ∃ y, m_X4_whyNotTakeOff 83 (nI x) s = some (y, s) ∧ (y = 0 ↔ cT σ D x = true) := by
  unfold m_X4_whyNotTakeOff cT
  have e : (s (83 + 1) x = -1) ↔ D x = 0 := by
    rw [show s (83 + 1) x = s 84 x from rfl, ho x hx]
    have : ∀ d, d < 6 → (dI d = -1 ↔ d = 0) := by decide
    exact this _ (hD x hx)
  simp only [q_hasPerson, hB_tB hx, hf.2.1 0 (by decide), p_cI, p_ifz, p_gd (in5 hx), ix5 hx, e]
  have n20 : ¬ (2 : Int32) = 0 := by decide
  have n10 : ¬ (1 : Int32) = 0 := by decide
  by_cases h : tB (σ 1 0) (nI x) = true
  · by_cases d : D x = 0
    · exact ⟨2, by simp only [h, d, if_true], by simp [d, n20]⟩
    · exact ⟨0, by simp only [h, d, if_true, if_false], by simp [d, peS, h]⟩
  · exact ⟨1, by simp only [h, if_false, Bool.false_eq_true], by simp [peS, h, n10]⟩
theorem dI_c : ∀ d, d < 6 → ∀ c, c < 5 → (dI d = nI c ↔ d = c + 1) := by decide
theorem dI_m : ∀ d, d < 6 → (dI d = -1 ↔ d = 0) := by decide
theorem q_wnP {σ s : Sg} {D : Nat → Nat} {x c : Nat} (hI : Inv σ) (hD : dok D) (hx : x < 5) (hc : c < 5) (hf : sF3 σ s) (ho : oC D s) : ∃ y, m_X4_whyNotPutOn 83 (nI x) (nI c) s = some (y, s) ∧ (y = 0 ↔ cP σ D x c = true) := by
  unfold m_X4_whyNotPutOn cP
  have e : (s (83 + 1) x = -1) ↔ D x = 0 := by rw [show s (83 + 1) x = s 84 x from rfl, ho x hx]; exact dI_m _ (hD x hx)
  have e8 : s (83 + 8) c = σ 9 c := hf.2.2.1 8 c (by decide) (by decide) (by decide) (by simp [rng, hc])
  have e11 : s (83 + 11) c = nI (hN σ c) := by
    rw [hf.2.2.1 11 c (by decide) (by decide) (by decide) (by simp [rng, hc])]
    unfold hN
    rcases hI.1.2.2.2.2.2.2.2.2.1 c hc with q | q
    · simp only [Nat.reduceAdd] at q ⊢
      rw [q]; rfl
    · simp only [Nat.reduceAdd] at q ⊢
      rw [q]; rfl
  have h1 : hN σ c ≤ 1 := by unfold hN; split <;> omega
  have em : cn5 (fun i => decide (s (83 + 1) i = nI c)) = cD D c := cn5_cong (fun i hi => decide_eq_decide.mpr (by rw [show s (83 + 1) i = s 84 i from rfl, ho i hi]; exact dI_c _ (hD i hi) c hc))
  have hl := cn5_le (fun i => decide (s (83 + 1) i = nI c))
  rw [em] at hl
  have lt : (1 + nI (hN σ c) ≤ nI (cD D c)) ↔ ¬ cD D c ≤ hN σ c := by
    rw [le_1 hl h1, nI_leI (by omega) (by omega)]
  simp only [q_hasPerson, q_hasCoat, hB_tB hx, hB_tB hc, hf.2.1 0 (by decide), hf.2.1 1 (by decide), p_cI, p_ifz, p_gd (in5 hx), p_gd (in5 hc), ix5 hx, ix5 hc, e, e8, q_wearers, q_bitCount, bc_mk5, em, e11, lt]
  have n50 : ¬ (5 : Int32) = 0 := by decide
  have n10 : ¬ (1 : Int32) = 0 := by decide
  have n30 : ¬ (3 : Int32) = 0 := by decide
  have n40 : ¬ (4 : Int32) = 0 := by decide
  by_cases g1 : tB (σ 1 0) (nI x) = true
  · by_cases g2 : D x = 0
    · by_cases g3 : tB (σ 1 1) (nI c) = true
      · by_cases g4 : σ 9 c = nI x
        · by_cases g5 : cD D c ≤ hN σ c
          · exact ⟨0, by simp only [g1, g2, g3, g4, g5, if_true, not_true, if_false], by simp [peS, g1, g2, g3, g4, g5]⟩
          · exact ⟨5, by simp only [g1, g2, g3, g4, g5, if_true, not_false_eq_true], by simp [g5, n50]⟩
        · exact ⟨4, by simp only [g1, g2, g3, g4, if_true, if_false], by simp [g4, n40]⟩
      · exact ⟨4, by simp only [g1, g2, g3, if_true, if_false, Bool.false_eq_true], by simp [g3, n40]⟩
    · exact ⟨3, by simp only [g1, g2, if_true, if_false], by simp [g2, n30]⟩
  · exact ⟨1, by simp only [g1, if_false, Bool.false_eq_true], by simp [peS, g1, n10]⟩
theorem q_wnL {σ s : Sg} {D : Nat → Nat} {x y : Nat} (hD : dok D) (hx : x < 5) (hy : y < 5) (h0 : ¬ D x = 0) (hf : sF3 σ s) (ho : oC D s) : ∃ r, m_X4_whyNotLend 83 (nI x) (nI y) (dI (D x)) s = some (r, s) ∧ (r = 0 ↔ cL σ D x y = true) := by
  unfold m_X4_whyNotLend cL
  have e1 : s (83 + 1) x = dI (D x) := ho x hx
  have e2 : (s (83 + 1) y = -1) ↔ D y = 0 := by rw [show s (83 + 1) y = s 84 y from rfl, ho y hy]; exact dI_m _ (hD y hy)
  simp only [q_hasPerson, hB_tB hx, hB_tB hy, hf.2.1 0 (by decide), p_cI, p_ifz, p_gd (in5 hx), p_gd (in5 hy), ix5 hx, ix5 hy, nI_inj5 hx hy, e1, e2, if_true]
  have n10 : ¬ (1 : Int32) = 0 := by decide
  have n30 : ¬ (3 : Int32) = 0 := by decide
  by_cases g1 : tB (σ 1 0) (nI x) = true
  · by_cases g2 : tB (σ 1 0) (nI y) = true
    · by_cases g3 : x = y
      · exact ⟨1, by simp only [g1, g2, g3, if_true], by simp [g3, n10]⟩
      · by_cases g4 : D y = 0
        · exact ⟨0, by simp only [g1, g2, g3, g4, if_true, if_false], by simp [peS, g1, g2, g3, g4, h0]⟩
        · exact ⟨3, by simp only [g1, g2, g3, g4, if_true, if_false], by simp [g4, n30]⟩
    · exact ⟨1, by simp only [g1, g2, if_true, if_false, Bool.false_eq_true], by simp [peS, g2, n10]⟩
  · exact ⟨1, by simp only [g1, if_false, Bool.false_eq_true], by simp [peS, g1, n10]⟩
theorem Rs.mv {Kn T : Nat → Bool} {s t : Sg} (h : Rs Kn T s) (g : ∀ c, c = 97 ∨ c = 99 → t c = s c) : Rs Kn T t := ⟨by rw [g 97 (by omega)]; exact h.1, by rw [g 99 (by omega)]; exact h.2⟩
theorem q_stepsOfC {σ s : Sg} {Kn T D : _} {x : Nat} (hI : Inv σ) (hD : dok D) (hx : x < 5) (tx : tB (σ 1 0) (nI x) = true) (hf : sF3 σ s) (ho : oC D s) (hr : Rs Kn T s) :
    ∃ t, m_X2_stepsOf (nI x) (nI (cc D)) s = some t ∧ Rs Kn (spr σ D x T) t ∧ ∀ c, c ≠ 97 → c ≠ 99 → t c = s c := by
  have hdx := hD x hx
  have hcl := cc_lt hD
  have hc0 : cc (uN' D x 0) + D x * 6 ^ x = cc D := by have := cc_up (D := D) (x := 0) hx; rw [Nat.zero_mul, Nat.add_zero] at this; exact this
  have ev2 : nI (cc D) - (1 + dI (D x)) * stv 0 x = nI (cc (uN' D x 0)) := by
    rw [one_dI _ hdx, st0_6 x hx, pk_mul, nI_sub (by omega)]
    congr 1
    omega
  have e84 : s 84 x = dI (D x) := ho x hx
  have z1 : ¬ nI x < 0 := nI_pos (by omega)
  have z2 : nI x < 5 := nI_lt (b := 5) hx (by decide)
  unfold m_X2_stepsOf
  simp only [z1, z2, if_false, if_true, p_gd (in5 hx), ix5 hx, p_lt, e84, ev2]
  obtain ⟨y, y1, y2⟩ := q_wnT hD hx hf ho
  rw [y1, p_cI]
  have hm : ∀ u : Sg, Rs Kn (tT σ D x T) u → (∀ c, c ≠ 97 → c ≠ 99 → u c = s c) → ∃ t, b_X2_stepsOf_50 (nI x) (nI (cc D)) (dI (D x)) (nI (cc (uN' D x 0))) u = some t ∧ Rs Kn (spr σ D x T) t ∧ ∀ c, c ≠ 97 → c ≠ 99 → t c = s c := by
    intro u hu1 hu2
    unfold b_X2_stepsOf_50
    refine lp3_z (fun o => ∃ t : Sg, o = some t ∧ Rs Kn (spr σ D x T) t ∧ ∀ c, c ≠ 97 → c ≠ 99 → t c = s c) (fun i a b v => a = dI (D x) ∧ b = nI (cc (uN' D x 0)) ∧ Rs Kn (fo (tP σ D x) (tT σ D x T) i) v ∧ ∀ c, c ≠ 97 → c ≠ 99 → v c = s c) 5 ?_ ?_ (e_F_lt (by omega)) ⟨rfl, rfl, hu1, hu2⟩
    · rintro H a b v ⟨rfl, rfl, v1, v2⟩
      simp only [d_X2_stepsOf_53, le5, if_true]
      refine lp3_z (fun o => ∃ t : Sg, o = some t ∧ Rs Kn (spr σ D x T) t ∧ ∀ c, c ≠ 97 → c ≠ 99 → t c = s c) (fun i a b w => a = dI (D x) ∧ b = nI (cc (uN' D x 0)) ∧ Rs Kn (fo (tL σ D x) (fo (tP σ D x) (tT σ D x T) 5) i) w ∧ ∀ c, c ≠ 97 → c ≠ 99 → w c = s c) 5 ?_ ?_ (e_F_lt (by omega)) ⟨rfl, rfl, v1, v2⟩
      · rintro H2 a b w ⟨rfl, rfl, w1, w2⟩
        simp only [d_X2_stepsOf_98, le5, if_true]
        exact ⟨w, rfl, w1, w2⟩
      · rintro H2 i a b w hi ⟨rfl, rfl, w1, w2⟩ kk
        have hfw : sF3 σ w := hf.mv (fun c _ _ _ c4 _ c6 => w2 c c4 c6)
        have how : oC D w := fun p hp => by rw [w2 84 (by decide) (by decide)]; exact ho p hp
        simp only [d_X2_stepsOf_98, ge5 hi, if_false, dI_m _ hdx, p_gd (in5 hi), ix5 hi, x_s]
        by_cases d0 : D x = 0
        · rw [if_pos d0]
          refine kk _ _ _ ⟨rfl, rfl, ?_, w2⟩
          rw [fo_s]
          have : ¬ cL σ D x i = true := by simp [cL, d0]
          unfold tL
          rw [if_neg this]; exact w1
        · rw [if_neg d0]
          obtain ⟨r, r1, r2⟩ := q_wnL hD hx hi d0 hfw how
          rw [r1, p_cI]
          by_cases q : r = 0
          · rw [if_pos q]
            have hcl' := r2.mp q
            have hz : uN' D x 0 i = 0 := by
              have := hcl'
              unfold cL at this
              simp only [Bool.and_eq_true, decide_eq_true_eq] at this
              unfold uN'
              split
              · rfl
              · exact this.2.2.2.2
            have hcu := cc_up (D := uN' D x 0) (p := i) (x := D x) hi
            rw [hz, Nat.zero_mul, Nat.add_zero] at hcu
            have eb : nI (cc (uN' D x 0)) + (1 + dI (D x)) * stv 0 i = nI (cc (uN' (uN' D x 0) i (D x))) := by
              rw [one_dI _ hdx, st0_6 i hi, pk_mul, nI_ad, hcu]
            rw [eb]
            obtain ⟨t, t1, t2, t3⟩ := q_reachC (b := cc (uN' (uN' D x 0) i (D x))) (cc_lt (dok_up (dok_up hD (by decide)) hdx)) w1
            rw [t1, p_cV]
            refine kk _ _ _ ⟨rfl, rfl, ?_, fun c c1 c2 => by rw [t3 c c1 c2]; exact w2 c c1 c2⟩
            rw [fo_s, tL, if_pos hcl']; exact t2
          · rw [if_neg q]
            refine kk _ _ _ ⟨rfl, rfl, ?_, w2⟩
            rw [fo_s, tL, if_neg (fun h => q (r2.mpr h))]; exact w1
    · rintro H i a b v hi ⟨rfl, rfl, v1, v2⟩ kk
      have hfv : sF3 σ v := hf.mv (fun c _ _ _ c4 _ c6 => v2 c c4 c6)
      have hov : oC D v := fun p hp => by rw [v2 84 (by decide) (by decide)]; exact ho p hp
      obtain ⟨r, r1, r2⟩ := q_wnP hI hD hx hi hfv hov
      simp only [d_X2_stepsOf_53, ge5 hi, if_false, r1, p_cI, p_gd (in5 hx), ix5 hx, x_s]
      by_cases q : r = 0
      · rw [if_pos q]
        have hcu := cc_up (D := D) (p := x) (x := i + 1) hx
        have eb : nI (cc (uN' D x 0)) + (1 + nI i) * stv 0 x = nI (cc (uN' D x (i + 1))) := by
          have e1 : (1 : Int32) + nI i = nI (1 + i) := nI_ad 1 i
          rw [e1, st0_6 x hx, pk_mul, nI_ad]
          congr 1
          have : (1 + i) * 6 ^ x = (i + 1) * 6 ^ x := by rw [Nat.add_comm]
          omega
        rw [eb]
        obtain ⟨t, t1, t2, t3⟩ := q_reachC (b := cc (uN' D x (i + 1))) (cc_lt (dok_up hD (by omega))) v1
        rw [t1, p_cV]
        refine kk _ _ _ ⟨rfl, rfl, ?_, fun c c1 c2 => by rw [t3 c c1 c2]; exact v2 c c1 c2⟩
        rw [fo_s, tP, if_pos (r2.mp q)]; exact t2
      · rw [if_neg q]
        refine kk _ _ _ ⟨rfl, rfl, ?_, v2⟩
        rw [fo_s, tP, if_neg (fun h => q (r2.mpr h))]; exact v1
  by_cases q : y = 0
  · rw [if_pos q]
    obtain ⟨t, t1, t2, t3⟩ := q_reachC (b := cc (uN' D x 0)) (cc_lt (dok_up hD (by decide))) hr
    rw [t1, p_cV]
    exact hm t (by rw [tT, if_pos (y2.mp q)]; exact t2) t3
  · rw [if_neg q]
    exact hm s (by rw [tT, if_neg (fun h => q (y2.mpr h))]; exact hr) (fun _ _ _ => rfl)
theorem spr_no {σ : Sg} {D : Nat → Nat} {x : Nat} {T : Nat → Bool} (h : peS σ x = false) : spr σ D x T = T := by
  have e1 : tT σ D x T = T := by unfold tT cT; rw [h]; simp
  have e2 : ∀ n T, fo (tP σ D x) T n = T := fun n T => by
    induction n with
    | zero => rfl
    | succ n ih => rw [fo_s, ih]; unfold tP cP; rw [h]; simp
  have e3 : ∀ n T, fo (tL σ D x) T n = T := fun n T => by
    induction n with
    | zero => rfl
    | succ n ih => rw [fo_s, ih]; unfold tL cL; rw [h]; simp
  unfold spr
  rw [e1, e2, e3]
theorem q_stepFromC {σ s : Sg} {Kn T : Nat → Bool} {a : Nat} (hI : Inv σ) (ha : a < 7776) (hf : sF3 σ s) (hr : Rs Kn T s) : ∃ t, m_X2_stepFrom (nI a) s = some t ∧ Rs Kn (stp σ (dc a) T) t ∧ ∀ c, c ≠ 84 → c ≠ 97 → c ≠ 99 → t c = s c := by
  obtain ⟨u, u1, u2, u3⟩ := q_dressC (s := s) ha
  unfold m_X2_stepFrom
  rw [u1, p_cV]
  have hfu : sF3 σ u := hf.mv (fun c _ _ c3 _ _ _ => u2 c c3)
  refine lp1_z (fun o => ∃ t : Sg, o = some t ∧ Rs Kn (stp σ (dc a) T) t ∧ ∀ c, c ≠ 84 → c ≠ 97 → c ≠ 99 → t c = s c) (fun i v => Rs Kn (fo (spr σ (dc a)) T i) v ∧ ∀ c, c ≠ 97 → c ≠ 99 → v c = u c) 5 ?_ ?_ (e_F_lt (by omega)) ⟨hr.mv (fun c hc => u2 c (by omega)), fun _ _ _ => rfl⟩
  · rintro H v ⟨v1, v2⟩
    simp only [d_X2_stepFrom_7, le5, if_true]
    exact ⟨v, rfl, v1, fun c c1 c2 c3 => by rw [v2 c c2 c3]; exact u2 c c1⟩
  · rintro H i v hi ⟨v1, v2⟩ kk
    have hfv : sF3 σ v := hfu.mv (fun c _ _ _ c4 _ c6 => v2 c c4 c6)
    have hov : oC (dc a) v := fun p hp => by rw [v2 84 (by decide) (by decide)]; exact u3 p hp
    simp only [d_X2_stepFrom_7, ge5 hi, if_false, q_hasPerson, hB_tB hi, hfv.2.1 0 (by decide), p_cI, p_ifz, x_s]
    by_cases ti : tB (σ 1 0) (nI i) = true
    · rw [if_pos ti]
      obtain ⟨t, t1, t2, t3⟩ := q_stepsOfC (D := dc a) hI (dc_ok a) hi ti hfv hov v1
      rw [cc_dc ha] at t1
      rw [t1, p_cV]
      exact kk _ ⟨t2, fun c c1 c2 => by rw [t3 c c1 c2]; exact v2 c c1 c2⟩
    · rw [if_neg ti]
      refine kk _ ⟨?_, v2⟩
      rw [fo_s, spr_no (by unfold peS; simpa using ti)]; exact v1
