/-! ===== why not: 0 or more ===== -/
theorem wyT_c (P : Int32) (w : Nat → Int32) (p : Nat) : wyT P w p = 0 ∨ 0 < wyT P w p := by
  unfold wyT
  repeat' split
  all_goals decide
theorem wyL_c (P : Int32) (w : Nat → Int32) (p q c : Nat) : wyL P w p q c = 0 ∨ 0 < wyL P w p q c := by
  unfold wyL
  repeat' split
  all_goals decide
theorem wyP_c (P C : Int32) (w ow ha : Nat → Int32) (p c : Nat) : wyP P C w ow ha p c = 0 ∨ 0 < wyP P C w ow ha p c := by
  unfold wyP
  repeat' split
  all_goals decide
theorem lt_n0 {y : Int32} (h : 0 < y) : ¬ y = 0 := fun e => by rw [e] at h; exact absurd h (by decide)
theorem NX.u24 {σ τ : Sg} {b : Nat} {x : Int32} (h : NX σ 15 τ) (hb : b = 24 ∨ b = 25) : NX σ 15 (k_up τ 100 b x) := NX.up (a := 0) h hb
theorem fD.fF {σ s : Sg} (h : fD σ s) : fF σ s := fun c h1 h2 h3 h4 h5 h6 h7 h8 h9 => h c h2 h3 h4 h5 h6 h7 h8
theorem fMo.fG {σ s : Sg} (h : fMo σ s) : fG σ s := ⟨fun c hc => h c (by omega) (by omega) (by omega) (by omega), fun j _ _ => by rw [h 100 (by decide) (by decide) (by decide) (by decide)]⟩
theorem fG.rf (σ : Sg) : fG σ σ := ⟨fun _ _ => rfl, fun _ _ _ => rfl⟩
theorem fF.rf (σ : Sg) : fF σ σ := fun _ _ _ _ _ _ _ _ _ _ => rfl
theorem fF.r16 {σ : Sg} {f : Nat → Int32} : fF σ (rw1 σ 16 f) := fun _ h1 _ _ _ _ _ _ _ _ => rw1_ne h1
theorem fG.r114 {τ t : Sg} {f : Nat → Int32} (h : fG τ t) : fG τ (rw1 t 114 f) := ⟨fun c hc => by rw [rw1_ne (by omega)]; exact h.1 c hc, fun j h1 h2 => by rw [rw1_ne (by decide)]; exact h.2 j h1 h2⟩
theorem up64_2 {s : Sg} {y : Int32} : k_up s 64 2 y 64 2 = y := by rw [up_rw, rw1_eq, upd_s]
theorem up64_1 {s : Sg} {y : Int32} : k_up s 64 2 y 64 1 = s 64 1 := by rw [up_rw, rw1_eq, upd_n (by decide)]
theorem u24_24 {s : Sg} {y : Int32} : k_up s 100 24 y 100 24 = y := by rw [up_rw, rw1_eq, upd_s]
theorem u24_25 {s : Sg} {y : Int32} : k_up s 100 24 y 100 25 = s 100 25 := by rw [up_rw, rw1_eq, upd_n (by decide)]
theorem u24_o {s : Sg} {y : Int32} {c : Nat} (h : c ≠ 100) : k_up s 100 24 y c = s c := by rw [up_rw, rw1_ne h]
theorem u24_2 {s : Sg} {x y : Int32} : k_up (k_up s 100 24 x) 100 24 y = k_up s 100 24 y := by
  simp only [up_rw, rw1_eq, rw1_rw1]
  congr 1
  funext j
  by_cases e : j = 24
  · subst e; rw [upd_s, upd_s]
  · rw [upd_n e, upd_n e, upd_n e]
theorem ev_one {s t : Sg} {n i k : Nat} (hn : n ≤ 60) (h1 : s 58 1 = nI n) (h2 : t 100 16 = nI n) (h3 : ∀ i, i < 60 → t 113 i = s 59 i) (w : Wf s 15) (x : NX s 15 t) (hi : i < n) (hk : k < 60) (h64 : s 64 2 = 0)
    (he : 1 ≤ ev (sg (s 59) n) i ∧ ev (sg (s 59) n) i ≤ 3) :
    ∃ y s1 t1, (∀ K H, d_X0_hold_15 15 K H (nI i) (nI k) s = b_X0_hold_87 15 K H (nI i) (nI k) (evI (ev (sg (s 59) n) i)) s1) ∧ (∀ K H, d_X7_goFeast_11 K H (nI i) t = b_X7_goFeast_258 K H (nI (i + ev (sg (s 59) n) i)) t1) ∧
      s1 64 2 = y ∧ t1 100 24 = y ∧ s1 64 1 = s 64 1 ∧ t1 100 25 = t 100 25 ∧ fF s s1 ∧ fG t t1 ∧ i + ev (sg (s 59) n) i ≤ n ∧ ((y = 0 ∧ Wf s1 15 ∧ NX s1 15 t1) ∨ 0 < y) := by
  have g0 : sg (s 59) n i = s 59 i := by simp [sg, hi]
  have t0 : t 113 i = s 59 i := h3 i (by omega)
  have h60 : ¬ (60 : Int32) ≤ nI k := x_ge (n := 60) hk (by decide)
  have hni : ¬ nI n ≤ nI i := x_ge hi (by omega)
  have ki : k_in (nI i) 60 = true := x_in (by omega) (by decide)
  have ix : (nI i).toNatClampNeg = i := x_ix (by omega)
  have n4 : ¬ (42 : Int32) = 46 := by decide
  have z0 : (0 : Int32) ≤ 0 := by decide
  by_cases a1 : s 59 i = 46
  · have eE : ev (sg (s 59) n) i = 1 := by unfold ev; rw [g0, if_pos (Or.inl a1)]
    obtain ⟨s1, t1, d1, d2, d3, d4, d5, d6⟩ := ev_dine w (x.u24 (b := 24) (x := 0) (Or.inl rfl))
    refine ⟨0, s1, t1, fun K H => ?_, fun K H => ?_, ?_, ?_, ?_, ?_, d5.fF, ((fG.rf t).up (Or.inl rfl)).tr d6.fG, by rw [eE]; omega, Or.inl ⟨rfl, d4, d3⟩⟩
    · simp only [d_X0_hold_15, h60, if_false, h1, hni, q_eventLength hn h1 (show i < 900 by omega), q_signAt hn h1 (show i < 1000 by omega), p_cI, g0, a1, if_true, d1, p_cV]
    · have n46 : ¬ (46 : Int32) = 42 := by decide
      simp only [d_X7_goFeast_11, h2, hni, if_false, p_gd ki, ix, p_lt, t0, a1, if_true, b_X7_goFeast_43, n46, b_X7_goFeast_55, d2, p_cV, x_s, eE]
    · rw [d5 64 (by decide) (by decide) (by decide) (by decide) (by decide) (by decide) (by decide)]; exact h64
    · rw [d6 100 (by decide) (by decide) (by decide) (by decide), u24_24]
    · rw [d5 64 (by decide) (by decide) (by decide) (by decide) (by decide) (by decide) (by decide)]
    · rw [d6 100 (by decide) (by decide) (by decide) (by decide), u24_25]
  · by_cases a2 : s 59 i = 42
    · have eE : ev (sg (s 59) n) i = 1 := by unfold ev; rw [g0, if_pos (Or.inr a2)]
      obtain ⟨s1, t1, d1, d2, d3, d4, d5, d6⟩ := ev_fast w (x.u24 (b := 24) (x := 0) (Or.inl rfl))
      refine ⟨0, s1, t1, fun K H => ?_, fun K H => ?_, ?_, ?_, ?_, ?_, d5.fF, ((fG.rf t).up (Or.inl rfl)).tr d6.fG, by rw [eE]; omega, Or.inl ⟨rfl, d4, d3⟩⟩
      · simp only [d_X0_hold_15, h60, if_false, h1, hni, q_eventLength hn h1 (show i < 900 by omega), q_signAt hn h1 (show i < 1000 by omega), p_cI, g0, a2, n4, if_true, d1, p_cV]
      · simp only [d_X7_goFeast_11, h2, hni, if_false, p_gd ki, ix, p_lt, t0, a2, n4, if_true, b_X7_goFeast_43, b_X7_goFeast_55, d2, p_cV, x_s, eE]
      · rw [d5 64 (by decide) (by decide) (by decide) (by decide) (by decide) (by decide) (by decide)]; exact h64
      · rw [d6 100 (by decide) (by decide) (by decide) (by decide), u24_24]
      · rw [d5 64 (by decide) (by decide) (by decide) (by decide) (by decide) (by decide) (by decide)]
      · rw [d6 100 (by decide) (by decide) (by decide) (by decide), u24_25]
    · have hor : ¬ (sg (s 59) n i = 46 ∨ sg (s 59) n i = 42) := by rw [g0]; exact fun e => e.elim a1 a2
      cases a3 : inB (s 59 i) 65 69
      · have eE : ev (sg (s 59) n) i = 0 := by unfold ev; rw [if_neg hor, g0, a3]; simp
        omega
      · obtain ⟨p, hp, ep, -⟩ := per_ix a3
        have a3' : inB (sg (s 59) n i) 65 69 = true := by rw [g0]; exact a3
        have i1n : i + 1 < n := by
          apply Nat.lt_of_not_le
          intro q
          have s1 : sg (s 59) n (i + 1) = 0 := by simp [sg, show ¬ i + 1 < n by omega]
          have ee : ev (sg (s 59) n) i = 4 := by
            unfold ev
            rw [if_neg hor, if_pos a3', s1, if_neg (show ¬ ((0 : Int32) = 45 ∨ inB 0 97 101 = true) by decide), if_neg (show ¬ (inB 0 65 69 = true) by decide)]
          omega
        have g1 : sg (s 59) n (i + 1) = s 59 (i + 1) := by simp [sg, i1n]
        have t1 : t 113 (i + 1) = s 59 (i + 1) := h3 (i + 1) (by omega)
        have ki1 : k_in (nI (i + 1)) 60 = true := x_in (by omega) (by decide)
        have ix1 : (nI (i + 1)).toNatClampNeg = i + 1 := x_ix (by omega)
        have r1 : ∀ c, k_up t 100 24 0 113 c = t 113 c := fun c => by rw [u24_o (by decide)]
        have hsC : ∀ K H, d_X0_hold_15 15 K H (nI i) (nI k) s = e_cI (m_X0_step 15 (nI i) (evI (ev (sg (s 59) n) i)) s) (fun r10 σ9 => b_X0_hold_87 15 K H (nI i) (nI k) (evI (ev (sg (s 59) n) i)) (k_up σ9 64 2 r10)) := fun K H => by
          simp only [d_X0_hold_15, h60, if_false, h1, hni, q_eventLength hn h1 (show i < 900 by omega), q_signAt hn h1 (show i < 1000 by omega), p_cI, g0, a1, a2, p_lt]
        by_cases a4 : s 59 (i + 1) = 45
        · have eE : ev (sg (s 59) n) i = 2 := by unfold ev; rw [if_neg hor, if_pos a3', g1, if_pos (Or.inl a4)]
          have e21 : nI i + 2 - 1 = nI (i + 1) := by
            have : nI i + 2 = nI (i + 2) := nI_ad i 2
            rw [this]; exact nI_sub (a := i + 2) (b := 1) (by omega)
          have n23 : ¬ (2 : Int32) = 3 := by decide
          have hst : m_X0_step 15 (nI i) 2 s = some (wyT (s 15 0) (s 16) p, if wyT (s 15 0) (s 16) p = 0 then rw1 s 16 (upd (s 16) p (-1)) else s) := by
            unfold m_X0_step
            simp only [q_signAt hn h1 (show i < 1000 by omega), e21, q_signAt hn h1 (show i + 1 < 1000 by omega), p_cI, p_lt, g0, g1, ep, a4, n23, if_false, if_true, q_takeOff hp]
          have hT : ∀ K H, d_X7_goFeast_11 K H (nI i) t = b_X7_goFeast_114 K H (nI i) (nI p) (wyT (s 15 0) (s 16) p) (k_up t 100 24 0) := fun K H => by
            have q1 : (t 114 p = 5) ↔ s 16 p = -1 := by rw [(x.2.2.2 p hp).1]; exact (mc_5 (wear_ok w p hp)).1
            have q0 : k_up t 100 24 0 100 0 = s 15 0 := by rw [up_rw, rw1_eq, upd_n (by decide)]; exact x.1
            simp only [d_X7_goFeast_11, h2, hni, if_false, p_gd ki, ix, p_lt, t0, a1, a2, ep, x_s, p_gd ki1, ix1, r1, t1, a4, if_true, q_isThere, q0, hB_tB hp, p_cI, p_ifz, p_gd (in5 hp), ix5 hp, u24_o (show (114 : Nat) ≠ 100 by decide), q1, wyT]
            repeat' split
            all_goals rfl
          have p114 : k_ar 114 = true := by decide
          have l114 : k_ln 114 = 5 := by decide
          have e2 : nI i + 2 = nI (i + 2) := nI_ad i 2
          have eI : evI (ev (sg (s 59) n) i) = 2 := by rw [eE]; rfl
          rcases wyT_c (s 15 0) (s 16) p with y0 | y0
          · obtain ⟨v1, v2⟩ := ev_T w x hp y0
            refine ⟨0, k_up (rw1 s 16 (upd (s 16) p (-1))) 64 2 0, rw1 (k_up t 100 24 0) 114 (upd (t 114) p 5), fun K H => ?_, fun K H => ?_, up64_2, ?_, ?_, ?_, fF.r16.up, ((fG.rf t).up (Or.inl rfl)).r114, by omega, Or.inl ⟨rfl, v1.up64, ?_⟩⟩
            · rw [hsC, eI, hst, p_cI, if_pos y0, y0]
            · rw [hT, y0]
              simp only [b_X7_goFeast_114, p_lt, u24_2, u24_24, if_true, b_X7_goFeast_139, p_gd p114, l114, p_wr (in5 hp), ix5 hp, e2, eE]
              rw [up_rw (c := 114), u24_o (by decide)]
            · rw [rw1_ne (by decide), u24_24]
            · rw [up64_1, rw1_ne (by decide)]
            · rw [rw1_ne (by decide), u24_25]
            · have : NX (k_up (rw1 s 16 (upd (s 16) p (-1))) 64 2 0) 15 (k_up (rw1 t 114 (upd (t 114) p 5)) 100 24 0) := v2.up64.u24 (Or.inl rfl)
              have e : k_up (rw1 t 114 (upd (t 114) p 5)) 100 24 0 = rw1 (k_up t 100 24 0) 114 (upd (t 114) p 5) := by
                simp only [up_rw]
                rw [rw1_ne (by decide)]
                funext c
                by_cases c1 : c = 100
                · subst c1; rw [rw1_eq, rw1_ne (by decide), rw1_eq]
                · by_cases c2 : c = 114
                  · subst c2; rw [rw1_ne (by decide), rw1_eq, rw1_eq]
                  · rw [rw1_ne c1, rw1_ne c2, rw1_ne c2, rw1_ne c1]
              rw [← e]; exact this
          · refine ⟨wyT (s 15 0) (s 16) p, k_up s 64 2 (wyT (s 15 0) (s 16) p), k_up (k_up t 100 24 (wyT (s 15 0) (s 16) p)) 114 p (t 114 p), fun K H => ?_, fun K H => ?_, up64_2, ?_, up64_1, ?_, (fF.rf s).up, ?_, by omega, Or.inr y0⟩
            · rw [hsC, eI, hst, p_cI, if_neg (lt_n0 y0)]
            · rw [hT]
              simp only [b_X7_goFeast_114, p_lt, u24_2, u24_24, lt_n0 y0, if_false, p_gd (in5 hp), b_X7_goFeast_139, p_gd p114, l114, p_wr (in5 hp), ix5 hp, e2, eE]
              rw [u24_o (c := 114) (by decide)]
            · rw [up_rw (c := 114), rw1_ne (by decide), u24_24]
            · rw [up_rw (c := 114), rw1_ne (by decide), u24_25]
            · rw [up_rw (c := 114)]; exact ((fG.rf t).up (Or.inl rfl)).r114
        · cases a5 : inB (s 59 (i + 1)) 97 101
          · cases a6 : inB (s 59 (i + 1)) 65 69
            · have eE : ev (sg (s 59) n) i = 4 := by unfold ev; rw [if_neg hor, if_pos a3', g1, if_neg (by simp [a4, a5]), a6]; simp
              omega
            · have i2n : i + 2 < n := by
                apply Nat.lt_of_not_le
                intro q
                have s1 : sg (s 59) n (i + 2) = 0 := by simp [sg, show ¬ i + 2 < n by omega]
                have ee : ev (sg (s 59) n) i = 5 := by
                  unfold ev
                  rw [if_neg hor, if_pos a3', g1, if_neg (by simp [a4, a5]), a6, if_pos rfl, s1]
                  decide
                omega
              have g2 : sg (s 59) n (i + 2) = s 59 (i + 2) := by simp [sg, i2n]
              have t2 : t 113 (i + 2) = s 59 (i + 2) := h3 (i + 2) (by omega)
              have ki2 : k_in (nI (i + 2)) 60 = true := x_in (by omega) (by decide)
              have ix2 : (nI (i + 2)).toNatClampNeg = i + 2 := x_ix (by omega)
              cases a7 : inB (s 59 (i + 2)) 97 101
              · have eE : ev (sg (s 59) n) i = 5 := by unfold ev; rw [if_neg hor, if_pos a3', g1, if_neg (by simp [a4, a5]), a6, if_pos rfl, g2, a7]; simp
                omega
              · obtain ⟨q, hq, eq, eq'⟩ := per_ix a6
                obtain ⟨c, hc, ec, ec'⟩ := coat_ix a7
                have eE : ev (sg (s 59) n) i = 3 := by unfold ev; rw [if_neg hor, if_pos a3', g1, if_neg (by simp [a4, a5]), a6, if_pos rfl, g2, a7]; simp
                have e3 : nI i + 3 = nI (i + 3) := nI_ad i 3
                have e2 : nI i + 2 = nI (i + 2) := nI_ad i 2
                have e31 : nI i + 3 - 1 = nI (i + 2) := by rw [e3]; exact nI_sub (a := i + 3) (b := 1) (by omega)
                have eI : evI (ev (sg (s 59) n) i) = 3 := by rw [eE]; rfl
                have hst : m_X0_step 15 (nI i) 3 s = some (wyL (s 15 0) (s 16) p q c, if wyL (s 15 0) (s 16) p q c = 0 then rw1 s 16 (upd (upd (s 16) p (-1)) q (nI c)) else s) := by
                  unfold m_X0_step
                  simp only [q_signAt hn h1 (show i < 1000 by omega), e31, x_s, q_signAt hn h1 (show i + 1 < 1000 by omega), q_signAt hn h1 (show i + 2 < 1000 by omega), p_cI, p_lt, g0, g1, g2, ep, eq, ec, if_true, q_lend hp hq]
                have l97 : s 59 (i + 1) < 97 := by rw [eq']; exact nI_lt (b := 97) (by omega) (by decide)
                have hx0 : NX s 15 (k_up t 100 24 0) := x.u24 (Or.inl rfl)
                have hT : ∀ K H, d_X7_goFeast_11 K H (nI i) t = (if wyL (s 15 0) (s 16) p q c = 0 then b_X7_goFeast_255 K H (nI i) (k_up (k_up (k_up t 100 24 (wyL (s 15 0) (s 16) p q c)) 114 p 5) 114 q (nI c)) else b_X7_goFeast_255 K H (nI i) (k_up t 100 24 (wyL (s 15 0) (s 16) p q c))) := fun K H => by
                  simp only [d_X7_goFeast_11, h2, hni, if_false, p_gd ki, ix, p_lt, t0, a1, a2, ep, x_s, p_gd ki1, ix1, r1, t1, a4, l97, if_true, e2, p_gd ki2, ix2, t2, eq, ec, q_whyL w hx0 hp hq hc, p_cI, u24_2, u24_24, p_wr (in5 hp), p_wr (in5 hq), ix5 hp, ix5 hq]
                rcases wyL_c (s 15 0) (s 16) p q c with y0 | y0
                · obtain ⟨v1, v2⟩ := ev_L w x hp hq hc y0
                  have e : k_up (k_up (k_up t 100 24 0) 114 p 5) 114 q (nI c) = k_up (rw1 t 114 (upd (upd (t 114) p 5) q (nI c))) 100 24 0 := by
                    simp only [up_rw, rw1_eq, rw1_rw1]
                    rw [rw1_ne (by decide), rw1_ne (by decide)]
                    funext c
                    by_cases c1 : c = 100
                    · subst c1; rw [rw1_eq, rw1_ne (by decide), rw1_eq]
                    · by_cases c2 : c = 114
                      · subst c2; rw [rw1_ne (c := 100) (by decide), rw1_eq, rw1_eq]
                      · rw [rw1_ne c1, rw1_ne c2, rw1_ne c2, rw1_ne c1]
                  refine ⟨0, k_up (rw1 s 16 (upd (upd (s 16) p (-1)) q (nI c))) 64 2 0, k_up (k_up (k_up t 100 24 0) 114 p 5) 114 q (nI c), fun K H => ?_, fun K H => ?_, up64_2, ?_, ?_, ?_, fF.r16.up, ?_, by omega, Or.inl ⟨rfl, v1.up64, ?_⟩⟩
                  · rw [hsC, eI, hst, p_cI, if_pos y0, y0]
                  · rw [hT, if_pos y0, y0, b_X7_goFeast_255, e3, eE]
                  · rw [e, u24_24]
                  · rw [up64_1, rw1_ne (by decide)]
                  · rw [e, u24_25, rw1_ne (by decide)]
                  · rw [e]; exact ((fG.rf t).r114).up (Or.inl rfl)
                  · rw [e]; exact v2.up64.u24 (Or.inl rfl)
                · refine ⟨wyL (s 15 0) (s 16) p q c, k_up s 64 2 (wyL (s 15 0) (s 16) p q c), k_up t 100 24 (wyL (s 15 0) (s 16) p q c), fun K H => ?_, fun K H => ?_, up64_2, u24_24, up64_1, u24_25, (fF.rf s).up, (fG.rf t).up (Or.inl rfl), by omega, Or.inr y0⟩
                  · rw [hsC, eI, hst, p_cI, if_neg (lt_n0 y0)]
                  · rw [hT, if_neg (lt_n0 y0), b_X7_goFeast_255, e3, eE]
          · obtain ⟨c, hc, ec, ec'⟩ := coat_ix a5
            have eE : ev (sg (s 59) n) i = 2 := by unfold ev; rw [if_neg hor, if_pos a3', g1, if_pos (Or.inr a5)]
            have e2 : nI i + 2 = nI (i + 2) := nI_ad i 2
            have e21 : nI i + 2 - 1 = nI (i + 1) := by rw [e2]; exact nI_sub (a := i + 2) (b := 1) (by omega)
            have n23 : ¬ (2 : Int32) = 3 := by decide
            have eI : evI (ev (sg (s 59) n) i) = 2 := by rw [eE]; rfl
            have hh : s 26 c = 0 ∨ s 26 c = 1 := w.2.2.2.2.2.2.2.2.1 c hc
            have hst : m_X0_step 15 (nI i) 2 s = some (wyP (s 15 0) (s 15 1) (s 16) (s 23) (s 26) p c, if wyP (s 15 0) (s 15 1) (s 16) (s 23) (s 26) p c = 0 then rw1 s 16 (upd (s 16) p (nI c)) else s) := by
              unfold m_X0_step
              simp only [q_signAt hn h1 (show i < 1000 by omega), e21, q_signAt hn h1 (show i + 1 < 1000 by omega), p_cI, p_lt, g0, g1, ep, ec, a4, n23, if_false, q_putOn hp hc hh]
            have l97 : ¬ s 59 (i + 1) < 97 := by rw [ec']; exact nI_nlt (b := 97) (by omega) (by omega)
            have hx0 : NX s 15 (k_up t 100 24 0) := x.u24 (Or.inl rfl)
            have p114 : k_ar 114 = true := by decide
            have l114 : k_ln 114 = 5 := by decide
            have hT : ∀ K H, d_X7_goFeast_11 K H (nI i) t = (if wyP (s 15 0) (s 15 1) (s 16) (s 23) (s 26) p c = 0 then b_X7_goFeast_258 K H (nI (i + 2)) (k_up (k_up t 100 24 (wyP (s 15 0) (s 15 1) (s 16) (s 23) (s 26) p c)) 114 p (nI c)) else b_X7_goFeast_258 K H (nI (i + 2)) (k_up (k_up t 100 24 (wyP (s 15 0) (s 15 1) (s 16) (s 23) (s 26) p c)) 114 p (t 114 p))) := fun K H => by
              simp only [d_X7_goFeast_11, h2, hni, if_false, p_gd ki, ix, p_lt, t0, a1, a2, ep, x_s, p_gd ki1, ix1, r1, t1, a4, l97, ec, q_whyP w hx0 hp hc, p_cI, u24_2, u24_24, p_gd (in5 hp), ix5 hp, b_X7_goFeast_193, p_gd p114, l114, p_wr (in5 hp), e2, u24_o (show (114 : Nat) ≠ 100 by decide)]
            rcases wyP_c (s 15 0) (s 15 1) (s 16) (s 23) (s 26) p c with y0 | y0
            · obtain ⟨v1, v2⟩ := ev_P w x hp hc y0
              have e : k_up (k_up t 100 24 0) 114 p (nI c) = k_up (rw1 t 114 (upd (t 114) p (nI c))) 100 24 0 := by
                simp only [up_rw]
                rw [rw1_ne (by decide), rw1_ne (by decide)]
                funext c
                by_cases c1 : c = 100
                · subst c1; rw [rw1_eq, rw1_ne (by decide), rw1_eq]
                · by_cases c2 : c = 114
                  · subst c2; rw [rw1_ne (c := 100) (by decide), rw1_eq, rw1_eq]
                  · rw [rw1_ne c1, rw1_ne c2, rw1_ne c2, rw1_ne c1]
              refine ⟨0, k_up (rw1 s 16 (upd (s 16) p (nI c))) 64 2 0, k_up (k_up t 100 24 0) 114 p (nI c), fun K H => ?_, fun K H => ?_, up64_2, ?_, ?_, ?_, fF.r16.up, ?_, by omega, Or.inl ⟨rfl, v1.up64, ?_⟩⟩
              · rw [hsC, eI, hst, p_cI, if_pos y0, y0]
              · rw [hT, if_pos y0, y0, eE]
              · rw [e, u24_24]
              · rw [up64_1, rw1_ne (by decide)]
              · rw [e, u24_25, rw1_ne (by decide)]
              · rw [e]; exact ((fG.rf t).r114).up (Or.inl rfl)
              · rw [e]; exact v2.up64.u24 (Or.inl rfl)
            · refine ⟨wyP (s 15 0) (s 15 1) (s 16) (s 23) (s 26) p c, k_up s 64 2 (wyP (s 15 0) (s 15 1) (s 16) (s 23) (s 26) p c), k_up (k_up t 100 24 (wyP (s 15 0) (s 15 1) (s 16) (s 23) (s 26) p c)) 114 p (t 114 p), fun K H => ?_, fun K H => ?_, up64_2, ?_, up64_1, ?_, (fF.rf s).up, ?_, by omega, Or.inr y0⟩
              · rw [hsC, eI, hst, p_cI, if_neg (lt_n0 y0)]
              · rw [hT, if_neg (lt_n0 y0), eE]
              · rw [up_rw (c := 114), rw1_ne (by decide), u24_24]
              · rw [up_rw (c := 114), rw1_ne (by decide), u24_25]
              · rw [up_rw (c := 114)]; exact ((fG.rf t).up (Or.inl rfl)).r114
