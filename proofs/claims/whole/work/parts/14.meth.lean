/-! CoatDinnerModel.hired(III)I -/
def b_X7_hired_128 (x1 : Int32) (x2 : Int32) (x3 : Int32) (K : Int32 → Int32 → Sg → Option (Int32 × Sg)) (H : Int32 → Int32 → Int32 → Sg → Option (Int32 × Sg)) (x4 : Int32) (x5 : Int32) (x6 : Int32) (s0 : Int32) (σ : Sg) : Option (Int32 × Sg) := e_cI (m_X7_seatOf x1 σ) (fun r12 σ11 => (if x2 < r12 then H x4 x5 (x6 + 1) σ11 else (if x4 ≤ s0 then H x4 x5 (x6 + 1) σ11 else H s0 x6 (x6 + 1) σ11)))
def b_X7_hired_87 (x1 : Int32) (x2 : Int32) (x3 : Int32) (K : Int32 → Int32 → Sg → Option (Int32 × Sg)) (H : Int32 → Int32 → Int32 → Sg → Option (Int32 × Sg)) (x4 : Int32) (x5 : Int32) (x6 : Int32) (s0 : Int32) (σ : Sg) : Option (Int32 × Sg) := (if s0 = 0 then H x4 x5 (x6 + 1) σ else e_cV (m_X7_asNow σ) (fun σ9 => e_wr σ9 114 x1 5 x6 (fun σ10 => e_gd (k_in x6 5) ((if (σ10 102 (Int32.toNatClampNeg x6)) = x1 then b_X7_hired_128 x1 x2 x3 K H x4 x5 x6 0 σ10 else e_gd (k_in x6 5) (b_X7_hired_128 x1 x2 x3 K H x4 x5 x6 (σ10 103 (Int32.toNatClampNeg x6)) σ10))))))
def b_X7_hired_86 (x1 : Int32) (x2 : Int32) (x3 : Int32) (K : Int32 → Int32 → Sg → Option (Int32 × Sg)) (H : Int32 → Int32 → Int32 → Sg → Option (Int32 × Sg)) (x4 : Int32) (x5 : Int32) (x6 : Int32) (σ : Sg) : Option (Int32 × Sg) := b_X7_hired_87 x1 x2 x3 K H x4 x5 x6 0 σ
def b_X7_hired_82 (x1 : Int32) (x2 : Int32) (x3 : Int32) (K : Int32 → Int32 → Sg → Option (Int32 × Sg)) (H : Int32 → Int32 → Int32 → Sg → Option (Int32 × Sg)) (x4 : Int32) (x5 : Int32) (x6 : Int32) (σ : Sg) : Option (Int32 × Sg) := b_X7_hired_87 x1 x2 x3 K H x4 x5 x6 1 σ
def d_X7_hired_43 (x1 : Int32) (x2 : Int32) (x3 : Int32) (K : Int32 → Int32 → Sg → Option (Int32 × Sg)) (H : Int32 → Int32 → Int32 → Sg → Option (Int32 × Sg)) (x4 : Int32) (x5 : Int32) (x6 : Int32) (σ : Sg) : Option (Int32 × Sg) := (if 5 ≤ x6 then K x4 x5 σ else e_cI (m_X7_has (σ 100 1) x6 σ) (fun r8 σ7 => (if r8 = 0 then b_X7_hired_86 x1 x2 x3 K H x4 x5 x6 σ7 else e_cI (m_X7_isFreeFor x6 x1 σ7) (fun r14 σ13 => (if r14 = 0 then e_gd (k_in x1 5) ((if (σ13 106 (Int32.toNatClampNeg x1)) = x6 then b_X7_hired_82 x1 x2 x3 K H x4 x5 x6 σ13 else b_X7_hired_86 x1 x2 x3 K H x4 x5 x6 σ13)) else b_X7_hired_82 x1 x2 x3 K H x4 x5 x6 σ13)))))
def b_X7_hired_170 (x1 : Int32) (x2 : Int32) (x3 : Int32) (x5 : Int32) (σ : Sg) : Option (Int32 × Sg) := some (x5, σ)
theorem ob_X7_hired_128 {G : KW} {l : Launch} (x1 : Int32) (x2 : Int32) (x3 : Int32)  {K : Int32 → Int32 → Sg → Option (Int32 × Sg)} {H : Int32 → Int32 → Int32 → Sg → Option (Int32 × Sg)} (hK : ∀ (x4 : Int32) (x5 : Int32) (σ : Sg), Okk G l cX7_hired 9 RX7 (some .int) (rmo 3 66) ccI 160 [none, none, none, some (.int x3), some (.int x4), some (.int x5), none, none, none] [] σ (K x4 x5 σ)) (hH : ∀ (x4 : Int32) (x5 : Int32) (x6 : Int32) (σ : Sg), Okk G l cX7_hired 9 RX7 (some .int) (rmo 3 66) ccI 43 [some (k_rr G 100), some (.int x1), some (.int x2), some (.int x3), some (.int x4), some (.int x5), some (.int x6), none, none] [] σ (H x4 x5 x6 σ)) (x4 : Int32) (x5 : Int32) (x6 : Int32) (s0 : Int32)  (σ : Sg) : Okk G l cX7_hired 9 RX7 (some .int) (rmo 3 66) ccI 128 [some (k_rr G 100), some (.int x1), some (.int x2), some (.int x3), some (.int x4), some (.int x5), some (.int x6), none, none] [.int s0] σ (b_X7_hired_128 x1 x2 x3 K H x4 x5 x6 s0 σ) := by
  unfold b_X7_hired_128
  refine ok_istore8 (dq_of td_X7_hired 68 rfl) rfl (by decide) ?_
  refine ok_aload0 (dq_of td_X7_hired 69 rfl) ?_
  refine ok_iload1 (dq_of td_X7_hired 70 rfl) ?_
  refine call_X7_seatOf ml_X7_126  ⟨Nat.le_of_ble_eq_true rfl, Nat.le_of_ble_eq_true rfl⟩ ⟨Nat.zero_le _, Nat.zero_le _⟩ (Nat.le_of_ble_eq_true rfl) (dq_of td_X7_hired 71 rfl) (fun r12 σ11 => ?_)
  refine ok_iload2 (dq_of td_X7_hired 72 rfl) ?_
  refine ok_ic_gt (tgt := 154) (dq_of td_X7_hired 73 rfl) (by decide) ?_ ?_
  · refine ok_jinc6 (w := 1) (dq_of td_X7_hired 81 rfl) (by decide) rfl (by decide) ?_
    refine ok_goto (tgt := 43) (dq_of td_X7_hired 82 rfl) (by decide) ?_
    refine ok_wk (wk_s (wk_s (wk_s (wk_s (wk_s (wk_s (wk_s (wk_n (wk_n wk_0))))))))) ?_
    exact hH _ _ _ _
  · refine ok_iload8 (dq_of td_X7_hired 74 rfl) ?_
    refine ok_iload4 (dq_of td_X7_hired 75 rfl) ?_
    refine ok_ic_ge (tgt := 154) (dq_of td_X7_hired 76 rfl) (by decide) ?_ ?_
    · refine ok_jinc6 (w := 1) (dq_of td_X7_hired 81 rfl) (by decide) rfl (by decide) ?_
      refine ok_goto (tgt := 43) (dq_of td_X7_hired 82 rfl) (by decide) ?_
      refine ok_wk (wk_s (wk_s (wk_s (wk_s (wk_s (wk_s (wk_s (wk_n (wk_n wk_0))))))))) ?_
      exact hH _ _ _ _
    · refine ok_iload8 (dq_of td_X7_hired 77 rfl) ?_
      refine ok_istore4 (dq_of td_X7_hired 78 rfl) rfl (by decide) ?_
      refine ok_iload6 (dq_of td_X7_hired 79 rfl) ?_
      refine ok_istore5 (dq_of td_X7_hired 80 rfl) rfl (by decide) ?_
      refine ok_jinc6 (w := 1) (dq_of td_X7_hired 81 rfl) (by decide) rfl (by decide) ?_
      refine ok_goto (tgt := 43) (dq_of td_X7_hired 82 rfl) (by decide) ?_
      refine ok_wk (wk_s (wk_s (wk_s (wk_s (wk_s (wk_s (wk_s (wk_n (wk_n wk_0))))))))) ?_
      exact hH _ _ _ _
theorem ob_X7_hired_87 {G : KW} {l : Launch} (x1 : Int32) (x2 : Int32) (x3 : Int32)  {K : Int32 → Int32 → Sg → Option (Int32 × Sg)} {H : Int32 → Int32 → Int32 → Sg → Option (Int32 × Sg)} (hK : ∀ (x4 : Int32) (x5 : Int32) (σ : Sg), Okk G l cX7_hired 9 RX7 (some .int) (rmo 3 66) ccI 160 [none, none, none, some (.int x3), some (.int x4), some (.int x5), none, none, none] [] σ (K x4 x5 σ)) (hH : ∀ (x4 : Int32) (x5 : Int32) (x6 : Int32) (σ : Sg), Okk G l cX7_hired 9 RX7 (some .int) (rmo 3 66) ccI 43 [some (k_rr G 100), some (.int x1), some (.int x2), some (.int x3), some (.int x4), some (.int x5), some (.int x6), none, none] [] σ (H x4 x5 x6 σ)) (x4 : Int32) (x5 : Int32) (x6 : Int32) (s0 : Int32)  (σ : Sg) : Okk G l cX7_hired 9 RX7 (some .int) (rmo 3 66) ccI 87 [some (k_rr G 100), some (.int x1), some (.int x2), some (.int x3), some (.int x4), some (.int x5), some (.int x6), none, none] [.int s0] σ (b_X7_hired_87 x1 x2 x3 K H x4 x5 x6 s0 σ) := by
  unfold b_X7_hired_87
  refine ok_istore7 (dq_of td_X7_hired 46 rfl) rfl (by decide) ?_
  refine ok_iload7 (dq_of td_X7_hired 47 rfl) ?_
  refine ok_if_eq (tgt := 154) (dq_of td_X7_hired 48 rfl) (by decide) ?_ ?_
  · refine ok_jinc6 (w := 1) (dq_of td_X7_hired 81 rfl) (by decide) rfl (by decide) ?_
    refine ok_goto (tgt := 43) (dq_of td_X7_hired 82 rfl) (by decide) ?_
    refine ok_wk (wk_s (wk_s (wk_s (wk_s (wk_s (wk_s (wk_s (wk_n (wk_n wk_0))))))))) ?_
    exact hH _ _ _ _
  · refine ok_aload0 (dq_of td_X7_hired 49 rfl) ?_
    refine call_X7_asNow ml_X7_132  ⟨Nat.le_of_ble_eq_true rfl, Nat.le_of_ble_eq_true rfl⟩ ⟨Nat.zero_le _, Nat.zero_le _⟩ (Nat.le_of_ble_eq_true rfl) (dq_of td_X7_hired 50 rfl) (fun σ9 => ?_)
    refine ok_aload0 (dq_of td_X7_hired 51 rfl) ?_
    refine ok_get (v := k_rr G 114) fl_X7_53 (by decide) ko_100 rfl (dq_of td_X7_hired 52 rfl) ?_
    refine ok_iload1 (dq_of td_X7_hired 53 rfl) ?_
    refine ok_iload6 (dq_of td_X7_hired 54 rfl) ?_
    refine ok_iast ka_114 (dq_of td_X7_hired 55 rfl) (fun σ10 => ?_)
    refine ok_aload0 (dq_of td_X7_hired 56 rfl) ?_
    refine ok_get (v := k_rr G 102) fl_X7_13 (by decide) ko_100 rfl (dq_of td_X7_hired 57 rfl) ?_
    refine ok_iload6 (dq_of td_X7_hired 58 rfl) ?_
    refine ok_iald ka_102 (dq_of td_X7_hired 59 rfl) ?_
    refine ok_iload1 (dq_of td_X7_hired 60 rfl) ?_
    refine ok_ic_ne (tgt := 121) (dq_of td_X7_hired 61 rfl) (by decide) ?_ ?_
    · refine ok_aload0 (dq_of td_X7_hired 64 rfl) ?_
      refine ok_get (v := k_rr G 103) fl_X7_16 (by decide) ko_100 rfl (dq_of td_X7_hired 65 rfl) ?_
      refine ok_iload6 (dq_of td_X7_hired 66 rfl) ?_
      refine ok_iald ka_103 (dq_of td_X7_hired 67 rfl) ?_
      refine ok_wk (wk_s (wk_s (wk_s (wk_s (wk_s (wk_s (wk_s (wk_n (wk_n wk_0))))))))) ?_
      exact ob_X7_hired_128 _ _ _  hK hH _ _ _ _  _
    · refine ok_iconst (v := 0) (dq_of td_X7_hired 62 rfl) (by decide) ?_
      refine ok_goto (tgt := 128) (dq_of td_X7_hired 63 rfl) (by decide) ?_
      refine ok_wk (wk_s (wk_s (wk_s (wk_s (wk_s (wk_s (wk_s (wk_n (wk_n wk_0))))))))) ?_
      exact ob_X7_hired_128 _ _ _  hK hH _ _ _ _  _
theorem ob_X7_hired_86 {G : KW} {l : Launch} (x1 : Int32) (x2 : Int32) (x3 : Int32)  {K : Int32 → Int32 → Sg → Option (Int32 × Sg)} {H : Int32 → Int32 → Int32 → Sg → Option (Int32 × Sg)} (hK : ∀ (x4 : Int32) (x5 : Int32) (σ : Sg), Okk G l cX7_hired 9 RX7 (some .int) (rmo 3 66) ccI 160 [none, none, none, some (.int x3), some (.int x4), some (.int x5), none, none, none] [] σ (K x4 x5 σ)) (hH : ∀ (x4 : Int32) (x5 : Int32) (x6 : Int32) (σ : Sg), Okk G l cX7_hired 9 RX7 (some .int) (rmo 3 66) ccI 43 [some (k_rr G 100), some (.int x1), some (.int x2), some (.int x3), some (.int x4), some (.int x5), some (.int x6), none, none] [] σ (H x4 x5 x6 σ)) (x4 : Int32) (x5 : Int32) (x6 : Int32)  (σ : Sg) : Okk G l cX7_hired 9 RX7 (some .int) (rmo 3 66) ccI 86 [some (k_rr G 100), some (.int x1), some (.int x2), some (.int x3), some (.int x4), some (.int x5), some (.int x6), none, none] [] σ (b_X7_hired_86 x1 x2 x3 K H x4 x5 x6 σ) := by
  unfold b_X7_hired_86
  refine ok_iconst (v := 0) (dq_of td_X7_hired 45 rfl) (by decide) ?_
  refine ok_wk (wk_s (wk_s (wk_s (wk_s (wk_s (wk_s (wk_s (wk_n (wk_n wk_0))))))))) ?_
  exact ob_X7_hired_87 _ _ _  hK hH _ _ _ _  _
theorem ob_X7_hired_82 {G : KW} {l : Launch} (x1 : Int32) (x2 : Int32) (x3 : Int32)  {K : Int32 → Int32 → Sg → Option (Int32 × Sg)} {H : Int32 → Int32 → Int32 → Sg → Option (Int32 × Sg)} (hK : ∀ (x4 : Int32) (x5 : Int32) (σ : Sg), Okk G l cX7_hired 9 RX7 (some .int) (rmo 3 66) ccI 160 [none, none, none, some (.int x3), some (.int x4), some (.int x5), none, none, none] [] σ (K x4 x5 σ)) (hH : ∀ (x4 : Int32) (x5 : Int32) (x6 : Int32) (σ : Sg), Okk G l cX7_hired 9 RX7 (some .int) (rmo 3 66) ccI 43 [some (k_rr G 100), some (.int x1), some (.int x2), some (.int x3), some (.int x4), some (.int x5), some (.int x6), none, none] [] σ (H x4 x5 x6 σ)) (x4 : Int32) (x5 : Int32) (x6 : Int32)  (σ : Sg) : Okk G l cX7_hired 9 RX7 (some .int) (rmo 3 66) ccI 82 [some (k_rr G 100), some (.int x1), some (.int x2), some (.int x3), some (.int x4), some (.int x5), some (.int x6), none, none] [] σ (b_X7_hired_82 x1 x2 x3 K H x4 x5 x6 σ) := by
  unfold b_X7_hired_82
  refine ok_iconst (v := 1) (dq_of td_X7_hired 43 rfl) (by decide) ?_
  refine ok_goto (tgt := 87) (dq_of td_X7_hired 44 rfl) (by decide) ?_
  refine ok_wk (wk_s (wk_s (wk_s (wk_s (wk_s (wk_s (wk_s (wk_n (wk_n wk_0))))))))) ?_
  exact ob_X7_hired_87 _ _ _  hK hH _ _ _ _  _
theorem od_X7_hired_43 {G : KW} {l : Launch} (x1 : Int32) (x2 : Int32) (x3 : Int32)  {K : Int32 → Int32 → Sg → Option (Int32 × Sg)} {H : Int32 → Int32 → Int32 → Sg → Option (Int32 × Sg)} (hK : ∀ (x4 : Int32) (x5 : Int32) (σ : Sg), Okk G l cX7_hired 9 RX7 (some .int) (rmo 3 66) ccI 160 [none, none, none, some (.int x3), some (.int x4), some (.int x5), none, none, none] [] σ (K x4 x5 σ)) (hH : ∀ (x4 : Int32) (x5 : Int32) (x6 : Int32) (σ : Sg), Okk G l cX7_hired 9 RX7 (some .int) (rmo 3 66) ccI 43 [some (k_rr G 100), some (.int x1), some (.int x2), some (.int x3), some (.int x4), some (.int x5), some (.int x6), none, none] [] σ (H x4 x5 x6 σ)) (x4 : Int32) (x5 : Int32) (x6 : Int32)  (σ : Sg) : Okk G l cX7_hired 9 RX7 (some .int) (rmo 3 66) ccI 43 [some (k_rr G 100), some (.int x1), some (.int x2), some (.int x3), some (.int x4), some (.int x5), some (.int x6), none, none] [] σ (d_X7_hired_43 x1 x2 x3 K H x4 x5 x6 σ) := by
  unfold d_X7_hired_43
  refine ok_iload6 (dq_of td_X7_hired 24 rfl) ?_
  refine ok_iconst (v := 5) (dq_of td_X7_hired 25 rfl) (by decide) ?_
  refine ok_ic_ge (tgt := 160) (dq_of td_X7_hired 26 rfl) (by decide) ?_ ?_
  · refine ok_wk (wk_n (wk_n (wk_n (wk_s (wk_s (wk_s (wk_n (wk_n (wk_n wk_0))))))))) ?_
    exact hK _ _ _
  · refine ok_aload0 (dq_of td_X7_hired 27 rfl) ?_
    refine ok_get (v := .int (σ 100 1)) fl_X7_92 (by decide) ko_100 rfl (dq_of td_X7_hired 28 rfl) ?_
    refine ok_iload6 (dq_of td_X7_hired 29 rfl) ?_
    refine call_X7_has ml_X7_88  ⟨Nat.le_of_ble_eq_true rfl, Nat.le_of_ble_eq_true rfl⟩ ⟨Nat.zero_le _, Nat.zero_le _⟩ (Nat.le_of_ble_eq_true rfl) (dq_of td_X7_hired 30 rfl) (fun r8 σ7 => ?_)
    refine ok_if_eq (tgt := 86) (dq_of td_X7_hired 31 rfl) (by decide) ?_ ?_
    · refine ok_wk (wk_s (wk_s (wk_s (wk_s (wk_s (wk_s (wk_s (wk_n (wk_n wk_0))))))))) ?_
      exact ob_X7_hired_86 _ _ _  hK hH _ _ _  _
    · refine ok_aload0 (dq_of td_X7_hired 32 rfl) ?_
      refine ok_iload6 (dq_of td_X7_hired 33 rfl) ?_
      refine ok_iload1 (dq_of td_X7_hired 34 rfl) ?_
      refine call_X7_isFreeFor ml_X7_186  ⟨Nat.le_of_ble_eq_true rfl, Nat.le_of_ble_eq_true rfl⟩ ⟨Nat.zero_le _, Nat.zero_le _⟩ (Nat.le_of_ble_eq_true rfl) (dq_of td_X7_hired 35 rfl) (fun r14 σ13 => ?_)
      refine ok_if_ne (tgt := 82) (dq_of td_X7_hired 36 rfl) (by decide) ?_ ?_
      · refine ok_wk (wk_s (wk_s (wk_s (wk_s (wk_s (wk_s (wk_s (wk_n (wk_n wk_0))))))))) ?_
        exact ob_X7_hired_82 _ _ _  hK hH _ _ _  _
      · refine ok_aload0 (dq_of td_X7_hired 37 rfl) ?_
        refine ok_get (v := k_rr G 106) fl_X7_29 (by decide) ko_100 rfl (dq_of td_X7_hired 38 rfl) ?_
        refine ok_iload1 (dq_of td_X7_hired 39 rfl) ?_
        refine ok_iald ka_106 (dq_of td_X7_hired 40 rfl) ?_
        refine ok_iload6 (dq_of td_X7_hired 41 rfl) ?_
        refine ok_ic_ne (tgt := 86) (dq_of td_X7_hired 42 rfl) (by decide) ?_ ?_
        · refine ok_wk (wk_s (wk_s (wk_s (wk_s (wk_s (wk_s (wk_s (wk_n (wk_n wk_0))))))))) ?_
          exact ob_X7_hired_86 _ _ _  hK hH _ _ _  _
        · refine ok_wk (wk_s (wk_s (wk_s (wk_s (wk_s (wk_s (wk_s (wk_n (wk_n wk_0))))))))) ?_
          exact ob_X7_hired_82 _ _ _  hK hH _ _ _  _
theorem ld_X7_hired_43 {G : KW} {l : Launch} (x1 : Int32) (x2 : Int32) (x3 : Int32)  {K : Int32 → Int32 → Sg → Option (Int32 × Sg)} (hK : ∀ (x4 : Int32) (x5 : Int32) (σ : Sg), Okk G l cX7_hired 9 RX7 (some .int) (rmo 3 66) ccI 160 [none, none, none, some (.int x3), some (.int x4), some (.int x5), none, none, none] [] σ (K x4 x5 σ)) (n : Nat) (x4 : Int32) (x5 : Int32) (x6 : Int32) (σ : Sg) : Okk G l cX7_hired 9 RX7 (some .int) (rmo 3 66) ccI 43 [some (k_rr G 100), some (.int x1), some (.int x2), some (.int x3), some (.int x4), some (.int x5), some (.int x6), none, none] [] σ (e_lp3 (d_X7_hired_43 x1 x2 x3 K) n x4 x5 x6 σ) :=
  ok_lp3 (Lf := fun (x4 : Int32) (x5 : Int32) (x6 : Int32) => [some (k_rr G 100), some (.int x1), some (.int x2), some (.int x3), some (.int x4), some (.int x5), some (.int x6), none, none]) (fun _ hH x4 x5 x6 σ => od_X7_hired_43 _ _ _  hK hH x4 x5 x6 σ) n x4 x5 x6 σ
theorem ob_X7_hired_170 {G : KW} {l : Launch} (x1 : Int32) (x2 : Int32) (x3 : Int32)  (x5 : Int32)  (σ : Sg) : Okk G l cX7_hired 9 RX7 (some .int) (rmo 3 66) ccI 170 [none, none, none, none, none, some (.int x5), none, none, none] [] σ (b_X7_hired_170 x1 x2 x3 x5 σ) := by
  unfold b_X7_hired_170
  refine ok_iload5 (dq_of td_X7_hired 88 rfl) ?_
  refine ok_goto (tgt := 177) (dq_of td_X7_hired 89 rfl) (by decide) ?_
  exact ok_iret (dq_of td_X7_hired 91 rfl)
def m_X7_hired (x1 : Int32) (x2 : Int32) (x3 : Int32) (σ : Sg) : Option (Int32 × Sg) := e_cI (m_X7_isThere x1 σ) (fun r2 σ1 => (if r2 = 0 then some ((-1), σ1) else e_cI (m_X7_in x2 0 4 σ1) (fun r4 σ3 => (if r4 = 0 then some ((-2), σ3) else e_cI (m_X7_in x3 0 1 σ3) (fun r6 σ5 => (if r6 = 0 then some ((-2), σ5) else e_lp3 (d_X7_hired_43 x1 x2 x3 (fun x4q15 x5q15 σ15 => (if x5q15 < 0 then b_X7_hired_170 x1 x2 x3 x5q15 σ15 else (if x3 = 1 then b_X7_hired_170 x1 x2 x3 x5q15 σ15 else some (x4q15, σ15))))) e_F 1000 ((-6)) 0 σ5))))))
theorem om_X7_hired {G : KW} {l : Launch} (x1 : Int32) (x2 : Int32) (x3 : Int32)  (σ : Sg) : Okk G l cX7_hired 9 RX7 (some .int) (rmo 3 66) ccI 0 [some (k_rr G 100), some (.int x1), some (.int x2), some (.int x3), none, none, none, none, none] [] σ (m_X7_hired x1 x2 x3 σ) := by
  unfold m_X7_hired
  refine ok_aload0 (dq_of td_X7_hired 0 rfl) ?_
  refine ok_iload1 (dq_of td_X7_hired 1 rfl) ?_
  refine call_X7_isThere ml_X7_95  ⟨Nat.le_of_ble_eq_true rfl, Nat.le_of_ble_eq_true rfl⟩ ⟨Nat.zero_le _, Nat.zero_le _⟩ (Nat.le_of_ble_eq_true rfl) (dq_of td_X7_hired 2 rfl) (fun r2 σ1 => ?_)
  refine ok_if_ne (tgt := 10) (dq_of td_X7_hired 3 rfl) (by decide) ?_ ?_
  · refine ok_iload2 (dq_of td_X7_hired 6 rfl) ?_
    refine ok_iconst (v := 0) (dq_of td_X7_hired 7 rfl) (by decide) ?_
    refine ok_iconst (v := 4) (dq_of td_X7_hired 8 rfl) (by decide) ?_
    refine call_X7_in ml_X7_81  ⟨Nat.le_of_ble_eq_true rfl, Nat.le_of_ble_eq_true rfl⟩ ⟨Nat.zero_le _, Nat.zero_le _⟩ (Nat.le_of_ble_eq_true rfl) (dq_of td_X7_hired 9 rfl) (fun r4 σ3 => ?_)
    refine ok_if_eq (tgt := 28) (dq_of td_X7_hired 10 rfl) (by decide) ?_ ?_
    · refine ok_bipush (v := (-2)) (dq_of td_X7_hired 16 rfl) (by decide) ?_
      exact ok_iret (dq_of td_X7_hired 17 rfl)
    · refine ok_iload3 (dq_of td_X7_hired 11 rfl) ?_
      refine ok_iconst (v := 0) (dq_of td_X7_hired 12 rfl) (by decide) ?_
      refine ok_iconst (v := 1) (dq_of td_X7_hired 13 rfl) (by decide) ?_
      refine call_X7_in ml_X7_81  ⟨Nat.le_of_ble_eq_true rfl, Nat.le_of_ble_eq_true rfl⟩ ⟨Nat.zero_le _, Nat.zero_le _⟩ (Nat.le_of_ble_eq_true rfl) (dq_of td_X7_hired 14 rfl) (fun r6 σ5 => ?_)
      refine ok_if_ne (tgt := 31) (dq_of td_X7_hired 15 rfl) (by decide) ?_ ?_
      · refine ok_sipush (v := 1000) (dq_of td_X7_hired 18 rfl) (by decide) ?_
        refine ok_istore4 (dq_of td_X7_hired 19 rfl) rfl (by decide) ?_
        refine ok_bipush (v := (-6)) (dq_of td_X7_hired 20 rfl) (by decide) ?_
        refine ok_istore5 (dq_of td_X7_hired 21 rfl) rfl (by decide) ?_
        refine ok_iconst (v := 0) (dq_of td_X7_hired 22 rfl) (by decide) ?_
        refine ok_istore6 (dq_of td_X7_hired 23 rfl) rfl (by decide) ?_
        refine ok_wk (wk_s (wk_s (wk_s (wk_s (wk_s (wk_s (wk_s (wk_n (wk_n wk_0))))))))) ?_
        refine ld_X7_hired_43 _ _ _  (fun x4q15 x5q15 σ15 => ?_) _ _ _ _ _
        refine ok_iload5 (dq_of td_X7_hired 83 rfl) ?_
        refine ok_if_lt (tgt := 170) (dq_of td_X7_hired 84 rfl) (by decide) ?_ ?_
        · refine ok_wk (wk_n (wk_n (wk_n (wk_n (wk_n (wk_s (wk_n (wk_n (wk_n wk_0))))))))) ?_
          exact ob_X7_hired_170 _ _ _  _  _
        · refine ok_iload3 (dq_of td_X7_hired 85 rfl) ?_
          refine ok_iconst (v := 1) (dq_of td_X7_hired 86 rfl) (by decide) ?_
          refine ok_ic_ne (tgt := 175) (dq_of td_X7_hired 87 rfl) (by decide) ?_ ?_
          · refine ok_iload4 (dq_of td_X7_hired 90 rfl) ?_
            exact ok_iret (dq_of td_X7_hired 91 rfl)
          · refine ok_wk (wk_n (wk_n (wk_n (wk_n (wk_n (wk_s (wk_n (wk_n (wk_n wk_0))))))))) ?_
            exact ob_X7_hired_170 _ _ _  _  _
      · refine ok_bipush (v := (-2)) (dq_of td_X7_hired 16 rfl) (by decide) ?_
        exact ok_iret (dq_of td_X7_hired 17 rfl)
  · refine ok_iconst (v := (-1)) (dq_of td_X7_hired 4 rfl) (by decide) ?_
    exact ok_iret (dq_of td_X7_hired 5 rfl)
theorem ct_X7_hired {G : KW} {l : Launch} (x1 : Int32) (x2 : Int32) (x3 : Int32)  (σ : Sg) : ∀ b, m_X7_hired x1 x2 x3 σ = some b → MetF G l yX7_hired cX7_hired 9 (some .int) 3 66 [k_rr G 100, .int x1, .int x2, .int x3] (k_wl G σ) (ccI b).1 (k_wl G (ccI b).2) :=
  met_of (by decide) (Nat.le_of_ble_eq_true rfl) rfl (om_X7_hired _ _ _  σ)
theorem call_X7_hired {G : KW} {l : Launch} {cc : ByteArray} {nL : Nat} {own : String} {rt : Option FieldType} {R : Room} {α : Type} {X : State → Array Value → Method → Prop} {Z : α → List Frame → Array Value → State → State → Prop} {k0 n0 pc index : Nat} {L : List (Option Value)} {S : List Value} {σ : Sg} {F : Int32 → Sg → Option α} {x1 : Int32} {x2 : Int32} {x3 : Int32} (lk : MLk own index yX7_hired)  (hR : R.frames ≥ 3 + 1 ∧ R.locals ≥ 8 + (9 + 11) + 66) (hcs : k0 ≤ R.cells ∧ n0 ≤ R.slots) (hro : (S.map fun v => v.category).sum ≤ 8) (d : decode cc pc = .ok (.invokevirtual index, 3)) (kk : ∀ (r : Int32) (σ' : Sg), Okg G l cc nL own rt R X Z k0 n0 (pc + 3) L (.int r :: S) σ' (F r σ')) : Okg G l cc nL own rt R X Z k0 n0 pc L (.int x3 :: .int x2 :: .int x1 :: k_rr G 100 :: S) σ (e_cI (m_X7_hired x1 x2 x3 σ) F) :=
  ok_cV (cb := ccI) (As := [.int x1, .int x2, .int x3]) (ct_X7_hired _ _ _  σ) mo_X7_hired hi_X7_hired lk rfl (ci := 7) rfl rfl (by decide) ko_100 hR rfl hcs hro d (fun b => kk b.1 b.2)
/-! CoatDinnerModel.rises(I)I -/
def b_X7_rises_67 (x1 : Int32) (K : Int32 → Sg → Option (Int32 × Sg)) (H : Int32 → Int32 → Sg → Option (Int32 × Sg)) (x3 : Int32) (s0 : Int32) (s1 : Int32) (σ : Sg) : Option (Int32 × Sg) := e_lt (s1 ||| s0) (fun v11 => H v11 (x3 + 1) σ)
def d_X7_rises_17 (x1 : Int32) (K : Int32 → Sg → Option (Int32 × Sg)) (H : Int32 → Int32 → Sg → Option (Int32 × Sg)) (x2 : Int32) (x3 : Int32) (σ : Sg) : Option (Int32 × Sg) := (if 5 ≤ x3 then K x2 σ else e_cI (m_X7_has (σ 100 0) x3 σ) (fun r4 σ3 => (if r4 = 0 then H x2 (x3 + 1) σ3 else e_cV (m_X7_asNow σ3) (fun σ5 => e_cI (m_X7_seatOf x3 σ5) (fun r7 σ6 => e_lt (k_up σ6 100 23 x1) (fun σ8 => e_cI (m_X7_seatOf x3 σ8) (fun r10 σ9 => (if r7 ≤ r10 then b_X7_rises_67 x1 K H x3 0 x2 σ9 else b_X7_rises_67 x1 K H x3 (jsl 1 x3) x2 σ9))))))))
theorem ob_X7_rises_67 {G : KW} {l : Launch} (x1 : Int32)  {K : Int32 → Sg → Option (Int32 × Sg)} {H : Int32 → Int32 → Sg → Option (Int32 × Sg)} (hK : ∀ (x2 : Int32) (σ : Sg), Okk G l cX7_rises 5 RX7 (some .int) (rmo 2 47) ccI 75 [none, none, some (.int x2), none, none] [] σ (K x2 σ)) (hH : ∀ (x2 : Int32) (x3 : Int32) (σ : Sg), Okk G l cX7_rises 5 RX7 (some .int) (rmo 2 47) ccI 17 [some (k_rr G 100), some (.int x1), some (.int x2), some (.int x3), none] [] σ (H x2 x3 σ)) (x3 : Int32) (s0 : Int32) (s1 : Int32)  (σ : Sg) : Okk G l cX7_rises 5 RX7 (some .int) (rmo 2 47) ccI 67 [some (k_rr G 100), some (.int x1), none, some (.int x3), none] [.int s0, .int s1] σ (b_X7_rises_67 x1 K H x3 s0 s1 σ) := by
  unfold b_X7_rises_67
  refine ok_ior (dq_of td_X7_rises 39 rfl) ?_
  refine ok_gI (fun v11 => ?_)
  refine ok_istore2 (dq_of td_X7_rises 40 rfl) rfl (by decide) ?_
  refine ok_jinc3 (w := 1) (dq_of td_X7_rises 41 rfl) (by decide) rfl (by decide) ?_
  refine ok_goto (tgt := 17) (dq_of td_X7_rises 42 rfl) (by decide) ?_
  refine ok_wk (wk_s (wk_s (wk_s (wk_s (wk_n wk_0))))) ?_
  exact hH _ _ _
theorem od_X7_rises_17 {G : KW} {l : Launch} (x1 : Int32)  {K : Int32 → Sg → Option (Int32 × Sg)} {H : Int32 → Int32 → Sg → Option (Int32 × Sg)} (hK : ∀ (x2 : Int32) (σ : Sg), Okk G l cX7_rises 5 RX7 (some .int) (rmo 2 47) ccI 75 [none, none, some (.int x2), none, none] [] σ (K x2 σ)) (hH : ∀ (x2 : Int32) (x3 : Int32) (σ : Sg), Okk G l cX7_rises 5 RX7 (some .int) (rmo 2 47) ccI 17 [some (k_rr G 100), some (.int x1), some (.int x2), some (.int x3), none] [] σ (H x2 x3 σ)) (x2 : Int32) (x3 : Int32)  (σ : Sg) : Okk G l cX7_rises 5 RX7 (some .int) (rmo 2 47) ccI 17 [some (k_rr G 100), some (.int x1), some (.int x2), some (.int x3), none] [] σ (d_X7_rises_17 x1 K H x2 x3 σ) := by
  unfold d_X7_rises_17
  refine ok_iload3 (dq_of td_X7_rises 11 rfl) ?_
  refine ok_iconst (v := 5) (dq_of td_X7_rises 12 rfl) (by decide) ?_
  refine ok_ic_ge (tgt := 75) (dq_of td_X7_rises 13 rfl) (by decide) ?_ ?_
  · refine ok_wk (wk_n (wk_n (wk_s (wk_n (wk_n wk_0))))) ?_
    exact hK _ _
  · refine ok_aload0 (dq_of td_X7_rises 14 rfl) ?_
    refine ok_get (v := .int (σ 100 0)) fl_X7_85 (by decide) ko_100 rfl (dq_of td_X7_rises 15 rfl) ?_
    refine ok_iload3 (dq_of td_X7_rises 16 rfl) ?_
    refine call_X7_has ml_X7_88  ⟨Nat.le_of_ble_eq_true rfl, Nat.le_of_ble_eq_true rfl⟩ ⟨Nat.zero_le _, Nat.zero_le _⟩ (Nat.le_of_ble_eq_true rfl) (dq_of td_X7_rises 17 rfl) (fun r4 σ3 => ?_)
    refine ok_if_eq (tgt := 69) (dq_of td_X7_rises 18 rfl) (by decide) ?_ ?_
    · refine ok_jinc3 (w := 1) (dq_of td_X7_rises 41 rfl) (by decide) rfl (by decide) ?_
      refine ok_goto (tgt := 17) (dq_of td_X7_rises 42 rfl) (by decide) ?_
      refine ok_wk (wk_s (wk_s (wk_s (wk_s (wk_n wk_0))))) ?_
      exact hH _ _ _
    · refine ok_aload0 (dq_of td_X7_rises 19 rfl) ?_
      refine call_X7_asNow ml_X7_132  ⟨Nat.le_of_ble_eq_true rfl, Nat.le_of_ble_eq_true rfl⟩ ⟨Nat.zero_le _, Nat.zero_le _⟩ (Nat.le_of_ble_eq_true rfl) (dq_of td_X7_rises 20 rfl) (fun σ5 => ?_)
      refine ok_aload0 (dq_of td_X7_rises 21 rfl) ?_
      refine ok_iload3 (dq_of td_X7_rises 22 rfl) ?_
      refine call_X7_seatOf ml_X7_126  ⟨Nat.le_of_ble_eq_true rfl, Nat.le_of_ble_eq_true rfl⟩ ⟨Nat.zero_le _, Nat.zero_le _⟩ (Nat.le_of_ble_eq_true rfl) (dq_of td_X7_rises 23 rfl) (fun r7 σ6 => ?_)
      refine ok_istore4 (dq_of td_X7_rises 24 rfl) rfl (by decide) ?_
      refine ok_aload0 (dq_of td_X7_rises 25 rfl) ?_
      refine ok_iload1 (dq_of td_X7_rises 26 rfl) ?_
      refine put_7_23 fl_X7_120 ko_100 (dq_of td_X7_rises 27 rfl) (fun σ8 => ?_)
      refine ok_iload2 (dq_of td_X7_rises 28 rfl) ?_
      refine ok_aload0 (dq_of td_X7_rises 29 rfl) ?_
      refine ok_iload3 (dq_of td_X7_rises 30 rfl) ?_
      refine call_X7_seatOf ml_X7_126  ⟨Nat.le_of_ble_eq_true rfl, Nat.le_of_ble_eq_true rfl⟩ ⟨Nat.zero_le _, Nat.zero_le _⟩ (Nat.le_of_ble_eq_true rfl) (dq_of td_X7_rises 31 rfl) (fun r10 σ9 => ?_)
      refine ok_iload4 (dq_of td_X7_rises 32 rfl) ?_
      refine ok_ic_ge (tgt := 66) (dq_of td_X7_rises 33 rfl) (by decide) ?_ ?_
      · refine ok_iconst (v := 0) (dq_of td_X7_rises 38 rfl) (by decide) ?_
        refine ok_wk (wk_s (wk_s (wk_n (wk_s (wk_n wk_0))))) ?_
        exact ob_X7_rises_67 _  hK hH _ _ _  _
      · refine ok_iconst (v := 1) (dq_of td_X7_rises 34 rfl) (by decide) ?_
        refine ok_iload3 (dq_of td_X7_rises 35 rfl) ?_
        refine ok_ishl (dq_of td_X7_rises 36 rfl) ?_
        refine ok_goto (tgt := 67) (dq_of td_X7_rises 37 rfl) (by decide) ?_
        refine ok_wk (wk_s (wk_s (wk_n (wk_s (wk_n wk_0))))) ?_
        exact ob_X7_rises_67 _  hK hH _ _ _  _
theorem ld_X7_rises_17 {G : KW} {l : Launch} (x1 : Int32)  {K : Int32 → Sg → Option (Int32 × Sg)} (hK : ∀ (x2 : Int32) (σ : Sg), Okk G l cX7_rises 5 RX7 (some .int) (rmo 2 47) ccI 75 [none, none, some (.int x2), none, none] [] σ (K x2 σ)) (n : Nat) (x2 : Int32) (x3 : Int32) (σ : Sg) : Okk G l cX7_rises 5 RX7 (some .int) (rmo 2 47) ccI 17 [some (k_rr G 100), some (.int x1), some (.int x2), some (.int x3), none] [] σ (e_lp2 (d_X7_rises_17 x1 K) n x2 x3 σ) :=
  ok_lp2 (Lf := fun (x2 : Int32) (x3 : Int32) => [some (k_rr G 100), some (.int x1), some (.int x2), some (.int x3), none]) (fun _ hH x2 x3 σ => od_X7_rises_17 _  hK hH x2 x3 σ) n x2 x3 σ
def m_X7_rises (x1 : Int32) (σ : Sg) : Option (Int32 × Sg) := e_cI (m_X7_in x1 1 99 σ) (fun r2 σ1 => (if r2 = 0 then some ((-2), σ1) else e_lp2 (d_X7_rises_17 x1 (fun x2q12 σ12 => some (x2q12, σ12))) e_F 0 0 σ1))
theorem om_X7_rises {G : KW} {l : Launch} (x1 : Int32)  (σ : Sg) : Okk G l cX7_rises 5 RX7 (some .int) (rmo 2 47) ccI 0 [some (k_rr G 100), some (.int x1), none, none, none] [] σ (m_X7_rises x1 σ) := by
  unfold m_X7_rises
  refine ok_iload1 (dq_of td_X7_rises 0 rfl) ?_
  refine ok_iconst (v := 1) (dq_of td_X7_rises 1 rfl) (by decide) ?_
  refine ok_bipush (v := 99) (dq_of td_X7_rises 2 rfl) (by decide) ?_
  refine call_X7_in ml_X7_81  ⟨Nat.le_of_ble_eq_true rfl, Nat.le_of_ble_eq_true rfl⟩ ⟨Nat.zero_le _, Nat.zero_le _⟩ (Nat.le_of_ble_eq_true rfl) (dq_of td_X7_rises 3 rfl) (fun r2 σ1 => ?_)
  refine ok_if_ne (tgt := 13) (dq_of td_X7_rises 4 rfl) (by decide) ?_ ?_
  · refine ok_iconst (v := 0) (dq_of td_X7_rises 7 rfl) (by decide) ?_
    refine ok_istore2 (dq_of td_X7_rises 8 rfl) rfl (by decide) ?_
    refine ok_iconst (v := 0) (dq_of td_X7_rises 9 rfl) (by decide) ?_
    refine ok_istore3 (dq_of td_X7_rises 10 rfl) rfl (by decide) ?_
    refine ok_wk (wk_s (wk_s (wk_s (wk_s (wk_n wk_0))))) ?_
    refine ld_X7_rises_17 _  (fun x2q12 σ12 => ?_) _ _ _ _
    refine ok_iload2 (dq_of td_X7_rises 43 rfl) ?_
    exact ok_iret (dq_of td_X7_rises 44 rfl)
  · refine ok_bipush (v := (-2)) (dq_of td_X7_rises 5 rfl) (by decide) ?_
    exact ok_iret (dq_of td_X7_rises 6 rfl)
theorem ct_X7_rises {G : KW} {l : Launch} (x1 : Int32)  (σ : Sg) : ∀ b, m_X7_rises x1 σ = some b → MetF G l yX7_rises cX7_rises 5 (some .int) 2 47 [k_rr G 100, .int x1] (k_wl G σ) (ccI b).1 (k_wl G (ccI b).2) :=
  met_of (by decide) (Nat.le_of_ble_eq_true rfl) rfl (om_X7_rises _  σ)
theorem call_X7_rises {G : KW} {l : Launch} {cc : ByteArray} {nL : Nat} {own : String} {rt : Option FieldType} {R : Room} {α : Type} {X : State → Array Value → Method → Prop} {Z : α → List Frame → Array Value → State → State → Prop} {k0 n0 pc index : Nat} {L : List (Option Value)} {S : List Value} {σ : Sg} {F : Int32 → Sg → Option α} {x1 : Int32} (lk : MLk own index yX7_rises)  (hR : R.frames ≥ 2 + 1 ∧ R.locals ≥ 8 + (5 + 11) + 47) (hcs : k0 ≤ R.cells ∧ n0 ≤ R.slots) (hro : (S.map fun v => v.category).sum ≤ 8) (d : decode cc pc = .ok (.invokevirtual index, 3)) (kk : ∀ (r : Int32) (σ' : Sg), Okg G l cc nL own rt R X Z k0 n0 (pc + 3) L (.int r :: S) σ' (F r σ')) : Okg G l cc nL own rt R X Z k0 n0 pc L (.int x1 :: k_rr G 100 :: S) σ (e_cI (m_X7_rises x1 σ) F) :=
  ok_cV (cb := ccI) (As := [.int x1]) (ct_X7_rises _  σ) mo_X7_rises hi_X7_rises lk rfl (ci := 7) rfl rfl (by decide) ko_100 hR rfl hcs hro d (fun b => kk b.1 b.2)
/-! CoatDinnerModel.worthOf(I)I -/
def b_X7_worthOf_105 (x1 : Int32) (K : Int32 → Int32 → Int32 → Int32 → Sg → Option (Int32 × Sg)) (H : Int32 → Int32 → Int32 → Int32 → Int32 → Sg → Option (Int32 × Sg)) (x2 : Int32) (x3 : Int32) (x4 : Int32) (x6 : Int32) (s0 : Int32) (σ : Sg) : Option (Int32 × Sg) := H x2 x3 x4 s0 (x6 + 1) σ
def b_X7_worthOf_103 (x1 : Int32) (K : Int32 → Int32 → Int32 → Int32 → Sg → Option (Int32 × Sg)) (H : Int32 → Int32 → Int32 → Int32 → Int32 → Sg → Option (Int32 × Sg)) (x2 : Int32) (x3 : Int32) (x4 : Int32) (x5 : Int32) (x6 : Int32) (σ : Sg) : Option (Int32 × Sg) := b_X7_worthOf_105 x1 K H x2 x3 x4 x6 x5 σ
def b_X7_worthOf_98 (x1 : Int32) (K : Int32 → Int32 → Int32 → Int32 → Sg → Option (Int32 × Sg)) (H : Int32 → Int32 → Int32 → Int32 → Int32 → Sg → Option (Int32 × Sg)) (x2 : Int32) (x3 : Int32) (x4 : Int32) (x6 : Int32) (σ : Sg) : Option (Int32 × Sg) := b_X7_worthOf_105 x1 K H x2 x3 x4 x6 x6 σ
def b_X7_worthOf_69 (x1 : Int32) (K : Int32 → Int32 → Int32 → Int32 → Sg → Option (Int32 × Sg)) (H : Int32 → Int32 → Int32 → Int32 → Int32 → Sg → Option (Int32 × Sg)) (x2 : Int32) (x3 : Int32) (x4 : Int32) (x5 : Int32) (x6 : Int32) (s0 : Int32) (σ : Sg) : Option (Int32 × Sg) := (if s0 = 0 then b_X7_worthOf_103 x1 K H x2 x3 x4 x5 x6 σ else (if x5 < 0 then b_X7_worthOf_98 x1 K H x2 x3 x4 x6 σ else e_gd (k_in x6 5) (e_gd (k_in x5 5) ((if (σ 101 (Int32.toNatClampNeg x6)) ≤ (σ 101 (Int32.toNatClampNeg x5)) then b_X7_worthOf_103 x1 K H x2 x3 x4 x5 x6 σ else b_X7_worthOf_98 x1 K H x2 x3 x4 x6 σ)))))
def b_X7_worthOf_68 (x1 : Int32) (K : Int32 → Int32 → Int32 → Int32 → Sg → Option (Int32 × Sg)) (H : Int32 → Int32 → Int32 → Int32 → Int32 → Sg → Option (Int32 × Sg)) (x2 : Int32) (x3 : Int32) (x4 : Int32) (x5 : Int32) (x6 : Int32) (σ : Sg) : Option (Int32 × Sg) := b_X7_worthOf_69 x1 K H x2 x3 x4 x5 x6 0 σ
def d_X7_worthOf_23 (x1 : Int32) (K : Int32 → Int32 → Int32 → Int32 → Sg → Option (Int32 × Sg)) (H : Int32 → Int32 → Int32 → Int32 → Int32 → Sg → Option (Int32 × Sg)) (x2 : Int32) (x3 : Int32) (x4 : Int32) (x5 : Int32) (x6 : Int32) (σ : Sg) : Option (Int32 × Sg) := (if 5 ≤ x6 then K x2 x3 x4 x5 σ else e_cI (m_X7_has (σ 100 1) x6 σ) (fun r4 σ3 => (if r4 = 0 then b_X7_worthOf_68 x1 K H x2 x3 x4 x5 x6 σ3 else e_gd (k_in x6 5) (e_cI (m_X7_has x1 (σ3 102 (Int32.toNatClampNeg x6)) σ3) (fun r6 σ5 => (if r6 = 0 then b_X7_worthOf_68 x1 K H x2 x3 x4 x5 x6 σ5 else e_cI (m_X7_has x2 x6 σ5) (fun r8 σ7 => (if r8 = 0 then b_X7_worthOf_69 x1 K H x2 x3 x4 x5 x6 1 σ7 else b_X7_worthOf_68 x1 K H x2 x3 x4 x5 x6 σ7))))))))
def d_X7_worthOf_7 (x1 : Int32) (K : Int32 → Sg → Option (Int32 × Sg)) (H : Int32 → Int32 → Int32 → Sg → Option (Int32 × Sg)) (x2 : Int32) (x3 : Int32) (x4 : Int32) (σ : Sg) : Option (Int32 × Sg) := e_cI (m_X7_bits x1 σ) (fun r2 σ1 => (if r2 ≤ x4 then K x3 σ1 else e_lp5 (d_X7_worthOf_23 x1 (fun x2q9 x3q9 x4q9 x5q9 σ9 => (if x5q9 < 0 then H x2q9 x3q9 (x4q9 + 1) σ9 else e_lt (x2q9 ||| (jsl 1 x5q9)) (fun v10 => e_gd (k_in x5q9 5) (e_lt (x3q9 + (σ9 101 (Int32.toNatClampNeg x5q9))) (fun v11 => H v10 v11 (x4q9 + 1) σ9)))))) e_F x2 x3 x4 ((-6)) 0 σ1))
theorem ob_X7_worthOf_105 {G : KW} {l : Launch} (x1 : Int32)  {K : Int32 → Int32 → Int32 → Int32 → Sg → Option (Int32 × Sg)} {H : Int32 → Int32 → Int32 → Int32 → Int32 → Sg → Option (Int32 × Sg)} (hK : ∀ (x2 : Int32) (x3 : Int32) (x4 : Int32) (x5 : Int32) (σ : Sg), Okk G l cX7_worthOf 8 RX7 (some .int) (rmo 1 22) ccI 113 [some (k_rr G 100), some (.int x1), some (.int x2), some (.int x3), some (.int x4), some (.int x5), none, none] [] σ (K x2 x3 x4 x5 σ)) (hH : ∀ (x2 : Int32) (x3 : Int32) (x4 : Int32) (x5 : Int32) (x6 : Int32) (σ : Sg), Okk G l cX7_worthOf 8 RX7 (some .int) (rmo 1 22) ccI 23 [some (k_rr G 100), some (.int x1), some (.int x2), some (.int x3), some (.int x4), some (.int x5), some (.int x6), none] [] σ (H x2 x3 x4 x5 x6 σ)) (x2 : Int32) (x3 : Int32) (x4 : Int32) (x6 : Int32) (s0 : Int32)  (σ : Sg) : Okk G l cX7_worthOf 8 RX7 (some .int) (rmo 1 22) ccI 105 [some (k_rr G 100), some (.int x1), some (.int x2), some (.int x3), some (.int x4), none, some (.int x6), none] [.int s0] σ (b_X7_worthOf_105 x1 K H x2 x3 x4 x6 s0 σ) := by
  unfold b_X7_worthOf_105
  refine ok_istore5 (dq_of td_X7_worthOf 53 rfl) rfl (by decide) ?_
  refine ok_jinc6 (w := 1) (dq_of td_X7_worthOf 54 rfl) (by decide) rfl (by decide) ?_
  refine ok_goto (tgt := 23) (dq_of td_X7_worthOf 55 rfl) (by decide) ?_
  refine ok_wk (wk_s (wk_s (wk_s (wk_s (wk_s (wk_s (wk_s (wk_n wk_0)))))))) ?_
  exact hH _ _ _ _ _ _
theorem ob_X7_worthOf_103 {G : KW} {l : Launch} (x1 : Int32)  {K : Int32 → Int32 → Int32 → Int32 → Sg → Option (Int32 × Sg)} {H : Int32 → Int32 → Int32 → Int32 → Int32 → Sg → Option (Int32 × Sg)} (hK : ∀ (x2 : Int32) (x3 : Int32) (x4 : Int32) (x5 : Int32) (σ : Sg), Okk G l cX7_worthOf 8 RX7 (some .int) (rmo 1 22) ccI 113 [some (k_rr G 100), some (.int x1), some (.int x2), some (.int x3), some (.int x4), some (.int x5), none, none] [] σ (K x2 x3 x4 x5 σ)) (hH : ∀ (x2 : Int32) (x3 : Int32) (x4 : Int32) (x5 : Int32) (x6 : Int32) (σ : Sg), Okk G l cX7_worthOf 8 RX7 (some .int) (rmo 1 22) ccI 23 [some (k_rr G 100), some (.int x1), some (.int x2), some (.int x3), some (.int x4), some (.int x5), some (.int x6), none] [] σ (H x2 x3 x4 x5 x6 σ)) (x2 : Int32) (x3 : Int32) (x4 : Int32) (x5 : Int32) (x6 : Int32)  (σ : Sg) : Okk G l cX7_worthOf 8 RX7 (some .int) (rmo 1 22) ccI 103 [some (k_rr G 100), some (.int x1), some (.int x2), some (.int x3), some (.int x4), some (.int x5), some (.int x6), none] [] σ (b_X7_worthOf_103 x1 K H x2 x3 x4 x5 x6 σ) := by
  unfold b_X7_worthOf_103
  refine ok_iload5 (dq_of td_X7_worthOf 52 rfl) ?_
  refine ok_wk (wk_s (wk_s (wk_s (wk_s (wk_s (wk_n (wk_s (wk_n wk_0)))))))) ?_
  exact ob_X7_worthOf_105 _  hK hH _ _ _ _ _  _
theorem ob_X7_worthOf_98 {G : KW} {l : Launch} (x1 : Int32)  {K : Int32 → Int32 → Int32 → Int32 → Sg → Option (Int32 × Sg)} {H : Int32 → Int32 → Int32 → Int32 → Int32 → Sg → Option (Int32 × Sg)} (hK : ∀ (x2 : Int32) (x3 : Int32) (x4 : Int32) (x5 : Int32) (σ : Sg), Okk G l cX7_worthOf 8 RX7 (some .int) (rmo 1 22) ccI 113 [some (k_rr G 100), some (.int x1), some (.int x2), some (.int x3), some (.int x4), some (.int x5), none, none] [] σ (K x2 x3 x4 x5 σ)) (hH : ∀ (x2 : Int32) (x3 : Int32) (x4 : Int32) (x5 : Int32) (x6 : Int32) (σ : Sg), Okk G l cX7_worthOf 8 RX7 (some .int) (rmo 1 22) ccI 23 [some (k_rr G 100), some (.int x1), some (.int x2), some (.int x3), some (.int x4), some (.int x5), some (.int x6), none] [] σ (H x2 x3 x4 x5 x6 σ)) (x2 : Int32) (x3 : Int32) (x4 : Int32) (x6 : Int32)  (σ : Sg) : Okk G l cX7_worthOf 8 RX7 (some .int) (rmo 1 22) ccI 98 [some (k_rr G 100), some (.int x1), some (.int x2), some (.int x3), some (.int x4), none, some (.int x6), none] [] σ (b_X7_worthOf_98 x1 K H x2 x3 x4 x6 σ) := by
  unfold b_X7_worthOf_98
  refine ok_iload6 (dq_of td_X7_worthOf 50 rfl) ?_
  refine ok_goto (tgt := 105) (dq_of td_X7_worthOf 51 rfl) (by decide) ?_
  refine ok_wk (wk_s (wk_s (wk_s (wk_s (wk_s (wk_n (wk_s (wk_n wk_0)))))))) ?_
  exact ob_X7_worthOf_105 _  hK hH _ _ _ _ _  _
theorem ob_X7_worthOf_69 {G : KW} {l : Launch} (x1 : Int32)  {K : Int32 → Int32 → Int32 → Int32 → Sg → Option (Int32 × Sg)} {H : Int32 → Int32 → Int32 → Int32 → Int32 → Sg → Option (Int32 × Sg)} (hK : ∀ (x2 : Int32) (x3 : Int32) (x4 : Int32) (x5 : Int32) (σ : Sg), Okk G l cX7_worthOf 8 RX7 (some .int) (rmo 1 22) ccI 113 [some (k_rr G 100), some (.int x1), some (.int x2), some (.int x3), some (.int x4), some (.int x5), none, none] [] σ (K x2 x3 x4 x5 σ)) (hH : ∀ (x2 : Int32) (x3 : Int32) (x4 : Int32) (x5 : Int32) (x6 : Int32) (σ : Sg), Okk G l cX7_worthOf 8 RX7 (some .int) (rmo 1 22) ccI 23 [some (k_rr G 100), some (.int x1), some (.int x2), some (.int x3), some (.int x4), some (.int x5), some (.int x6), none] [] σ (H x2 x3 x4 x5 x6 σ)) (x2 : Int32) (x3 : Int32) (x4 : Int32) (x5 : Int32) (x6 : Int32) (s0 : Int32)  (σ : Sg) : Okk G l cX7_worthOf 8 RX7 (some .int) (rmo 1 22) ccI 69 [some (k_rr G 100), some (.int x1), some (.int x2), some (.int x3), some (.int x4), some (.int x5), some (.int x6), none] [.int s0] σ (b_X7_worthOf_69 x1 K H x2 x3 x4 x5 x6 s0 σ) := by
  unfold b_X7_worthOf_69
  refine ok_istore7 (dq_of td_X7_worthOf 36 rfl) rfl (by decide) ?_
  refine ok_iload7 (dq_of td_X7_worthOf 37 rfl) ?_
  refine ok_if_eq (tgt := 103) (dq_of td_X7_worthOf 38 rfl) (by decide) ?_ ?_
  · refine ok_wk (wk_s (wk_s (wk_s (wk_s (wk_s (wk_s (wk_s (wk_n wk_0)))))))) ?_
    exact ob_X7_worthOf_103 _  hK hH _ _ _ _ _  _
  · refine ok_iload5 (dq_of td_X7_worthOf 39 rfl) ?_
    refine ok_if_lt (tgt := 98) (dq_of td_X7_worthOf 40 rfl) (by decide) ?_ ?_
    · refine ok_wk (wk_s (wk_s (wk_s (wk_s (wk_s (wk_n (wk_s (wk_n wk_0)))))))) ?_
      exact ob_X7_worthOf_98 _  hK hH _ _ _ _  _
    · refine ok_aload0 (dq_of td_X7_worthOf 41 rfl) ?_
      refine ok_get (v := k_rr G 101) fl_X7_7 (by decide) ko_100 rfl (dq_of td_X7_worthOf 42 rfl) ?_
      refine ok_iload6 (dq_of td_X7_worthOf 43 rfl) ?_
      refine ok_iald ka_101 (dq_of td_X7_worthOf 44 rfl) ?_
      refine ok_aload0 (dq_of td_X7_worthOf 45 rfl) ?_
      refine ok_get (v := k_rr G 101) fl_X7_7 (by decide) ko_100 rfl (dq_of td_X7_worthOf 46 rfl) ?_
      refine ok_iload5 (dq_of td_X7_worthOf 47 rfl) ?_
      refine ok_iald ka_101 (dq_of td_X7_worthOf 48 rfl) ?_
      refine ok_ic_le (tgt := 103) (dq_of td_X7_worthOf 49 rfl) (by decide) ?_ ?_
      · refine ok_wk (wk_s (wk_s (wk_s (wk_s (wk_s (wk_s (wk_s (wk_n wk_0)))))))) ?_
        exact ob_X7_worthOf_103 _  hK hH _ _ _ _ _  _
      · refine ok_wk (wk_s (wk_s (wk_s (wk_s (wk_s (wk_n (wk_s (wk_n wk_0)))))))) ?_
        exact ob_X7_worthOf_98 _  hK hH _ _ _ _  _
theorem ob_X7_worthOf_68 {G : KW} {l : Launch} (x1 : Int32)  {K : Int32 → Int32 → Int32 → Int32 → Sg → Option (Int32 × Sg)} {H : Int32 → Int32 → Int32 → Int32 → Int32 → Sg → Option (Int32 × Sg)} (hK : ∀ (x2 : Int32) (x3 : Int32) (x4 : Int32) (x5 : Int32) (σ : Sg), Okk G l cX7_worthOf 8 RX7 (some .int) (rmo 1 22) ccI 113 [some (k_rr G 100), some (.int x1), some (.int x2), some (.int x3), some (.int x4), some (.int x5), none, none] [] σ (K x2 x3 x4 x5 σ)) (hH : ∀ (x2 : Int32) (x3 : Int32) (x4 : Int32) (x5 : Int32) (x6 : Int32) (σ : Sg), Okk G l cX7_worthOf 8 RX7 (some .int) (rmo 1 22) ccI 23 [some (k_rr G 100), some (.int x1), some (.int x2), some (.int x3), some (.int x4), some (.int x5), some (.int x6), none] [] σ (H x2 x3 x4 x5 x6 σ)) (x2 : Int32) (x3 : Int32) (x4 : Int32) (x5 : Int32) (x6 : Int32)  (σ : Sg) : Okk G l cX7_worthOf 8 RX7 (some .int) (rmo 1 22) ccI 68 [some (k_rr G 100), some (.int x1), some (.int x2), some (.int x3), some (.int x4), some (.int x5), some (.int x6), none] [] σ (b_X7_worthOf_68 x1 K H x2 x3 x4 x5 x6 σ) := by
  unfold b_X7_worthOf_68
  refine ok_iconst (v := 0) (dq_of td_X7_worthOf 35 rfl) (by decide) ?_
  refine ok_wk (wk_s (wk_s (wk_s (wk_s (wk_s (wk_s (wk_s (wk_n wk_0)))))))) ?_
  exact ob_X7_worthOf_69 _  hK hH _ _ _ _ _ _  _
theorem od_X7_worthOf_23 {G : KW} {l : Launch} (x1 : Int32)  {K : Int32 → Int32 → Int32 → Int32 → Sg → Option (Int32 × Sg)} {H : Int32 → Int32 → Int32 → Int32 → Int32 → Sg → Option (Int32 × Sg)} (hK : ∀ (x2 : Int32) (x3 : Int32) (x4 : Int32) (x5 : Int32) (σ : Sg), Okk G l cX7_worthOf 8 RX7 (some .int) (rmo 1 22) ccI 113 [some (k_rr G 100), some (.int x1), some (.int x2), some (.int x3), some (.int x4), some (.int x5), none, none] [] σ (K x2 x3 x4 x5 σ)) (hH : ∀ (x2 : Int32) (x3 : Int32) (x4 : Int32) (x5 : Int32) (x6 : Int32) (σ : Sg), Okk G l cX7_worthOf 8 RX7 (some .int) (rmo 1 22) ccI 23 [some (k_rr G 100), some (.int x1), some (.int x2), some (.int x3), some (.int x4), some (.int x5), some (.int x6), none] [] σ (H x2 x3 x4 x5 x6 σ)) (x2 : Int32) (x3 : Int32) (x4 : Int32) (x5 : Int32) (x6 : Int32)  (σ : Sg) : Okk G l cX7_worthOf 8 RX7 (some .int) (rmo 1 22) ccI 23 [some (k_rr G 100), some (.int x1), some (.int x2), some (.int x3), some (.int x4), some (.int x5), some (.int x6), none] [] σ (d_X7_worthOf_23 x1 K H x2 x3 x4 x5 x6 σ) := by
  unfold d_X7_worthOf_23
  refine ok_iload6 (dq_of td_X7_worthOf 14 rfl) ?_
  refine ok_iconst (v := 5) (dq_of td_X7_worthOf 15 rfl) (by decide) ?_
  refine ok_ic_ge (tgt := 113) (dq_of td_X7_worthOf 16 rfl) (by decide) ?_ ?_
  · refine ok_wk (wk_s (wk_s (wk_s (wk_s (wk_s (wk_s (wk_n (wk_n wk_0)))))))) ?_
    exact hK _ _ _ _ _
  · refine ok_aload0 (dq_of td_X7_worthOf 17 rfl) ?_
    refine ok_get (v := .int (σ 100 1)) fl_X7_92 (by decide) ko_100 rfl (dq_of td_X7_worthOf 18 rfl) ?_
    refine ok_iload6 (dq_of td_X7_worthOf 19 rfl) ?_
    refine call_X7_has ml_X7_88  ⟨Nat.le_of_ble_eq_true rfl, Nat.le_of_ble_eq_true rfl⟩ ⟨Nat.zero_le _, Nat.zero_le _⟩ (Nat.le_of_ble_eq_true rfl) (dq_of td_X7_worthOf 20 rfl) (fun r4 σ3 => ?_)
    refine ok_if_eq (tgt := 68) (dq_of td_X7_worthOf 21 rfl) (by decide) ?_ ?_
    · refine ok_wk (wk_s (wk_s (wk_s (wk_s (wk_s (wk_s (wk_s (wk_n wk_0)))))))) ?_
      exact ob_X7_worthOf_68 _  hK hH _ _ _ _ _  _
    · refine ok_iload1 (dq_of td_X7_worthOf 22 rfl) ?_
      refine ok_aload0 (dq_of td_X7_worthOf 23 rfl) ?_
      refine ok_get (v := k_rr G 102) fl_X7_13 (by decide) ko_100 rfl (dq_of td_X7_worthOf 24 rfl) ?_
      refine ok_iload6 (dq_of td_X7_worthOf 25 rfl) ?_
      refine ok_iald ka_102 (dq_of td_X7_worthOf 26 rfl) ?_
      refine call_X7_has ml_X7_88  ⟨Nat.le_of_ble_eq_true rfl, Nat.le_of_ble_eq_true rfl⟩ ⟨Nat.zero_le _, Nat.zero_le _⟩ (Nat.le_of_ble_eq_true rfl) (dq_of td_X7_worthOf 27 rfl) (fun r6 σ5 => ?_)
      refine ok_if_eq (tgt := 68) (dq_of td_X7_worthOf 28 rfl) (by decide) ?_ ?_
      · refine ok_wk (wk_s (wk_s (wk_s (wk_s (wk_s (wk_s (wk_s (wk_n wk_0)))))))) ?_
        exact ob_X7_worthOf_68 _  hK hH _ _ _ _ _  _
      · refine ok_iload2 (dq_of td_X7_worthOf 29 rfl) ?_
        refine ok_iload6 (dq_of td_X7_worthOf 30 rfl) ?_
        refine call_X7_has ml_X7_88  ⟨Nat.le_of_ble_eq_true rfl, Nat.le_of_ble_eq_true rfl⟩ ⟨Nat.zero_le _, Nat.zero_le _⟩ (Nat.le_of_ble_eq_true rfl) (dq_of td_X7_worthOf 31 rfl) (fun r8 σ7 => ?_)
        refine ok_if_ne (tgt := 68) (dq_of td_X7_worthOf 32 rfl) (by decide) ?_ ?_
        · refine ok_wk (wk_s (wk_s (wk_s (wk_s (wk_s (wk_s (wk_s (wk_n wk_0)))))))) ?_
          exact ob_X7_worthOf_68 _  hK hH _ _ _ _ _  _
        · refine ok_iconst (v := 1) (dq_of td_X7_worthOf 33 rfl) (by decide) ?_
          refine ok_goto (tgt := 69) (dq_of td_X7_worthOf 34 rfl) (by decide) ?_
          refine ok_wk (wk_s (wk_s (wk_s (wk_s (wk_s (wk_s (wk_s (wk_n wk_0)))))))) ?_
          exact ob_X7_worthOf_69 _  hK hH _ _ _ _ _ _  _
theorem ld_X7_worthOf_23 {G : KW} {l : Launch} (x1 : Int32)  {K : Int32 → Int32 → Int32 → Int32 → Sg → Option (Int32 × Sg)} (hK : ∀ (x2 : Int32) (x3 : Int32) (x4 : Int32) (x5 : Int32) (σ : Sg), Okk G l cX7_worthOf 8 RX7 (some .int) (rmo 1 22) ccI 113 [some (k_rr G 100), some (.int x1), some (.int x2), some (.int x3), some (.int x4), some (.int x5), none, none] [] σ (K x2 x3 x4 x5 σ)) (n : Nat) (x2 : Int32) (x3 : Int32) (x4 : Int32) (x5 : Int32) (x6 : Int32) (σ : Sg) : Okk G l cX7_worthOf 8 RX7 (some .int) (rmo 1 22) ccI 23 [some (k_rr G 100), some (.int x1), some (.int x2), some (.int x3), some (.int x4), some (.int x5), some (.int x6), none] [] σ (e_lp5 (d_X7_worthOf_23 x1 K) n x2 x3 x4 x5 x6 σ) :=
  ok_lp5 (Lf := fun (x2 : Int32) (x3 : Int32) (x4 : Int32) (x5 : Int32) (x6 : Int32) => [some (k_rr G 100), some (.int x1), some (.int x2), some (.int x3), some (.int x4), some (.int x5), some (.int x6), none]) (fun _ hH x2 x3 x4 x5 x6 σ => od_X7_worthOf_23 _  hK hH x2 x3 x4 x5 x6 σ) n x2 x3 x4 x5 x6 σ
theorem od_X7_worthOf_7 {G : KW} {l : Launch} (x1 : Int32)  {K : Int32 → Sg → Option (Int32 × Sg)} {H : Int32 → Int32 → Int32 → Sg → Option (Int32 × Sg)} (hK : ∀ (x3 : Int32) (σ : Sg), Okk G l cX7_worthOf 8 RX7 (some .int) (rmo 1 22) ccI 141 [none, none, none, some (.int x3), none, none, none, none] [] σ (K x3 σ)) (hH : ∀ (x2 : Int32) (x3 : Int32) (x4 : Int32) (σ : Sg), Okk G l cX7_worthOf 8 RX7 (some .int) (rmo 1 22) ccI 7 [some (k_rr G 100), some (.int x1), some (.int x2), some (.int x3), some (.int x4), none, none, none] [] σ (H x2 x3 x4 σ)) (x2 : Int32) (x3 : Int32) (x4 : Int32)  (σ : Sg) : Okk G l cX7_worthOf 8 RX7 (some .int) (rmo 1 22) ccI 7 [some (k_rr G 100), some (.int x1), some (.int x2), some (.int x3), some (.int x4), none, none, none] [] σ (d_X7_worthOf_7 x1 K H x2 x3 x4 σ) := by
  unfold d_X7_worthOf_7
  refine ok_iload4 (dq_of td_X7_worthOf 6 rfl) ?_
  refine ok_iload1 (dq_of td_X7_worthOf 7 rfl) ?_
  refine call_X7_bits ml_X7_99  ⟨Nat.le_of_ble_eq_true rfl, Nat.le_of_ble_eq_true rfl⟩ ⟨Nat.zero_le _, Nat.zero_le _⟩ (Nat.le_of_ble_eq_true rfl) (dq_of td_X7_worthOf 8 rfl) (fun r2 σ1 => ?_)
  refine ok_ic_ge (tgt := 141) (dq_of td_X7_worthOf 9 rfl) (by decide) ?_ ?_
  · refine ok_wk (wk_n (wk_n (wk_n (wk_s (wk_n (wk_n (wk_n (wk_n wk_0)))))))) ?_
    exact hK _ _
  · refine ok_bipush (v := (-6)) (dq_of td_X7_worthOf 10 rfl) (by decide) ?_
    refine ok_istore5 (dq_of td_X7_worthOf 11 rfl) rfl (by decide) ?_
    refine ok_iconst (v := 0) (dq_of td_X7_worthOf 12 rfl) (by decide) ?_
    refine ok_istore6 (dq_of td_X7_worthOf 13 rfl) rfl (by decide) ?_
    refine ok_wk (wk_s (wk_s (wk_s (wk_s (wk_s (wk_s (wk_s (wk_n wk_0)))))))) ?_
    refine ld_X7_worthOf_23 _  (fun x2q9 x3q9 x4q9 x5q9 σ9 => ?_) _ _ _ _ _ _ _
    refine ok_iload5 (dq_of td_X7_worthOf 56 rfl) ?_
    refine ok_if_lt (tgt := 135) (dq_of td_X7_worthOf 57 rfl) (by decide) ?_ ?_
    · refine ok_jinc4 (w := 1) (dq_of td_X7_worthOf 71 rfl) (by decide) rfl (by decide) ?_
      refine ok_goto (tgt := 7) (dq_of td_X7_worthOf 72 rfl) (by decide) ?_
      refine ok_wk (wk_s (wk_s (wk_s (wk_s (wk_s (wk_n (wk_n (wk_n wk_0)))))))) ?_
      exact hH _ _ _ _
    · refine ok_iload2 (dq_of td_X7_worthOf 58 rfl) ?_
      refine ok_iconst (v := 1) (dq_of td_X7_worthOf 59 rfl) (by decide) ?_
      refine ok_iload5 (dq_of td_X7_worthOf 60 rfl) ?_
      refine ok_ishl (dq_of td_X7_worthOf 61 rfl) ?_
      refine ok_ior (dq_of td_X7_worthOf 62 rfl) ?_
      refine ok_gI (fun v10 => ?_)
      refine ok_istore2 (dq_of td_X7_worthOf 63 rfl) rfl (by decide) ?_
      refine ok_iload3 (dq_of td_X7_worthOf 64 rfl) ?_
      refine ok_aload0 (dq_of td_X7_worthOf 65 rfl) ?_
      refine ok_get (v := k_rr G 101) fl_X7_7 (by decide) ko_100 rfl (dq_of td_X7_worthOf 66 rfl) ?_
      refine ok_iload5 (dq_of td_X7_worthOf 67 rfl) ?_
      refine ok_iald ka_101 (dq_of td_X7_worthOf 68 rfl) ?_
      refine ok_iadd (dq_of td_X7_worthOf 69 rfl) ?_
      refine ok_gI (fun v11 => ?_)
      refine ok_istore3 (dq_of td_X7_worthOf 70 rfl) rfl (by decide) ?_
      refine ok_jinc4 (w := 1) (dq_of td_X7_worthOf 71 rfl) (by decide) rfl (by decide) ?_
      refine ok_goto (tgt := 7) (dq_of td_X7_worthOf 72 rfl) (by decide) ?_
      refine ok_wk (wk_s (wk_s (wk_s (wk_s (wk_s (wk_n (wk_n (wk_n wk_0)))))))) ?_
      exact hH _ _ _ _
theorem ld_X7_worthOf_7 {G : KW} {l : Launch} (x1 : Int32)  {K : Int32 → Sg → Option (Int32 × Sg)} (hK : ∀ (x3 : Int32) (σ : Sg), Okk G l cX7_worthOf 8 RX7 (some .int) (rmo 1 22) ccI 141 [none, none, none, some (.int x3), none, none, none, none] [] σ (K x3 σ)) (n : Nat) (x2 : Int32) (x3 : Int32) (x4 : Int32) (σ : Sg) : Okk G l cX7_worthOf 8 RX7 (some .int) (rmo 1 22) ccI 7 [some (k_rr G 100), some (.int x1), some (.int x2), some (.int x3), some (.int x4), none, none, none] [] σ (e_lp3 (d_X7_worthOf_7 x1 K) n x2 x3 x4 σ) :=
  ok_lp3 (Lf := fun (x2 : Int32) (x3 : Int32) (x4 : Int32) => [some (k_rr G 100), some (.int x1), some (.int x2), some (.int x3), some (.int x4), none, none, none]) (fun _ hH x2 x3 x4 σ => od_X7_worthOf_7 _  hK hH x2 x3 x4 σ) n x2 x3 x4 σ
def m_X7_worthOf (x1 : Int32) (σ : Sg) : Option (Int32 × Sg) := e_lp3 (d_X7_worthOf_7 x1 (fun x3q12 σ12 => some (x3q12, σ12))) e_F 0 0 0 σ
theorem om_X7_worthOf {G : KW} {l : Launch} (x1 : Int32)  (σ : Sg) : Okk G l cX7_worthOf 8 RX7 (some .int) (rmo 1 22) ccI 0 [some (k_rr G 100), some (.int x1), none, none, none, none, none, none] [] σ (m_X7_worthOf x1 σ) := by
  unfold m_X7_worthOf
  refine ok_iconst (v := 0) (dq_of td_X7_worthOf 0 rfl) (by decide) ?_
  refine ok_istore2 (dq_of td_X7_worthOf 1 rfl) rfl (by decide) ?_
  refine ok_iconst (v := 0) (dq_of td_X7_worthOf 2 rfl) (by decide) ?_
  refine ok_istore3 (dq_of td_X7_worthOf 3 rfl) rfl (by decide) ?_
  refine ok_iconst (v := 0) (dq_of td_X7_worthOf 4 rfl) (by decide) ?_
  refine ok_istore4 (dq_of td_X7_worthOf 5 rfl) rfl (by decide) ?_
  refine ok_wk (wk_s (wk_s (wk_s (wk_s (wk_s (wk_n (wk_n (wk_n wk_0)))))))) ?_
  refine ld_X7_worthOf_7 _  (fun x3q12 σ12 => ?_) _ _ _ _ _
  refine ok_iload3 (dq_of td_X7_worthOf 73 rfl) ?_
  exact ok_iret (dq_of td_X7_worthOf 74 rfl)
theorem ct_X7_worthOf {G : KW} {l : Launch} (x1 : Int32)  (σ : Sg) : ∀ b, m_X7_worthOf x1 σ = some b → MetF G l yX7_worthOf cX7_worthOf 8 (some .int) 1 22 [k_rr G 100, .int x1] (k_wl G σ) (ccI b).1 (k_wl G (ccI b).2) :=
  met_of (by decide) (Nat.le_of_ble_eq_true rfl) rfl (om_X7_worthOf _  σ)
theorem call_X7_worthOf {G : KW} {l : Launch} {cc : ByteArray} {nL : Nat} {own : String} {rt : Option FieldType} {R : Room} {α : Type} {X : State → Array Value → Method → Prop} {Z : α → List Frame → Array Value → State → State → Prop} {k0 n0 pc index : Nat} {L : List (Option Value)} {S : List Value} {σ : Sg} {F : Int32 → Sg → Option α} {x1 : Int32} (lk : MLk own index yX7_worthOf)  (hR : R.frames ≥ 1 + 1 ∧ R.locals ≥ 8 + (8 + 11) + 22) (hcs : k0 ≤ R.cells ∧ n0 ≤ R.slots) (hro : (S.map fun v => v.category).sum ≤ 8) (d : decode cc pc = .ok (.invokevirtual index, 3)) (kk : ∀ (r : Int32) (σ' : Sg), Okg G l cc nL own rt R X Z k0 n0 (pc + 3) L (.int r :: S) σ' (F r σ')) : Okg G l cc nL own rt R X Z k0 n0 pc L (.int x1 :: k_rr G 100 :: S) σ (e_cI (m_X7_worthOf x1 σ) F) :=
  ok_cV (cb := ccI) (As := [.int x1]) (ct_X7_worthOf _  σ) mo_X7_worthOf hi_X7_worthOf lk rfl (ci := 7) rfl rfl (by decide) ko_100 hR rfl hcs hro d (fun b => kk b.1 b.2)
/-! CoatDinnerModel.areThere(I)Z -/
def m_X7_areThere (x1 : Int32) (σ : Sg) : Option (Int32 × Sg) := e_cI (m_X7_in x1 0 31 σ) (fun r2 σ1 => (if r2 = 0 then e_rz 0 σ1 else (if (x1 &&& ((σ1 100 0) ^^^ ((-1)))) = 0 then e_rz 1 σ1 else e_rz 0 σ1)))
theorem om_X7_areThere {G : KW} {l : Launch} (x1 : Int32)  (σ : Sg) : Okk G l cX7_areThere 2 RX7 (some .boolean) (rmo 1 22) ccI 0 [some (k_rr G 100), some (.int x1)] [] σ (m_X7_areThere x1 σ) := by
  unfold m_X7_areThere
  refine ok_iload1 (dq_of td_X7_areThere 0 rfl) ?_
  refine ok_iconst (v := 0) (dq_of td_X7_areThere 1 rfl) (by decide) ?_
  refine ok_bipush (v := 31) (dq_of td_X7_areThere 2 rfl) (by decide) ?_
  refine call_X7_in ml_X7_81  ⟨Nat.le_of_ble_eq_true rfl, Nat.le_of_ble_eq_true rfl⟩ ⟨Nat.zero_le _, Nat.zero_le _⟩ (Nat.le_of_ble_eq_true rfl) (dq_of td_X7_areThere 3 rfl) (fun r2 σ1 => ?_)
  refine ok_if_eq (tgt := 25) (dq_of td_X7_areThere 4 rfl) (by decide) ?_ ?_
  · refine ok_iconst (v := 0) (dq_of td_X7_areThere 14 rfl) (by decide) ?_
    exact ok_zret (dq_of td_X7_areThere 15 rfl)
  · refine ok_iload1 (dq_of td_X7_areThere 5 rfl) ?_
    refine ok_aload0 (dq_of td_X7_areThere 6 rfl) ?_
    refine ok_get (v := .int (σ1 100 0)) fl_X7_85 (by decide) ko_100 rfl (dq_of td_X7_areThere 7 rfl) ?_
    refine ok_iconst (v := (-1)) (dq_of td_X7_areThere 8 rfl) (by decide) ?_
    refine ok_ixor (dq_of td_X7_areThere 9 rfl) ?_
    refine ok_iand (dq_of td_X7_areThere 10 rfl) ?_
    refine ok_if_ne (tgt := 25) (dq_of td_X7_areThere 11 rfl) (by decide) ?_ ?_
    · refine ok_iconst (v := 0) (dq_of td_X7_areThere 14 rfl) (by decide) ?_
      exact ok_zret (dq_of td_X7_areThere 15 rfl)
    · refine ok_iconst (v := 1) (dq_of td_X7_areThere 12 rfl) (by decide) ?_
      refine ok_goto (tgt := 26) (dq_of td_X7_areThere 13 rfl) (by decide) ?_
      exact ok_zret (dq_of td_X7_areThere 15 rfl)
theorem ct_X7_areThere {G : KW} {l : Launch} (x1 : Int32)  (σ : Sg) : ∀ b, m_X7_areThere x1 σ = some b → MetF G l yX7_areThere cX7_areThere 2 (some .boolean) 1 22 [k_rr G 100, .int x1] (k_wl G σ) (ccI b).1 (k_wl G (ccI b).2) :=
  met_of (by decide) (Nat.le_of_ble_eq_true rfl) rfl (om_X7_areThere _  σ)
theorem call_X7_areThere {G : KW} {l : Launch} {cc : ByteArray} {nL : Nat} {own : String} {rt : Option FieldType} {R : Room} {α : Type} {X : State → Array Value → Method → Prop} {Z : α → List Frame → Array Value → State → State → Prop} {k0 n0 pc index : Nat} {L : List (Option Value)} {S : List Value} {σ : Sg} {F : Int32 → Sg → Option α} {x1 : Int32} (lk : MLk own index yX7_areThere)  (hR : R.frames ≥ 1 + 1 ∧ R.locals ≥ 8 + (2 + 11) + 22) (hcs : k0 ≤ R.cells ∧ n0 ≤ R.slots) (hro : (S.map fun v => v.category).sum ≤ 8) (d : decode cc pc = .ok (.invokevirtual index, 3)) (kk : ∀ (r : Int32) (σ' : Sg), Okg G l cc nL own rt R X Z k0 n0 (pc + 3) L (.int r :: S) σ' (F r σ')) : Okg G l cc nL own rt R X Z k0 n0 pc L (.int x1 :: k_rr G 100 :: S) σ (e_cI (m_X7_areThere x1 σ) F) :=
  ok_cV (cb := ccI) (As := [.int x1]) (ct_X7_areThere _  σ) mo_X7_areThere hi_X7_areThere lk rfl (ci := 7) rfl rfl (by decide) ko_100 hR rfl hcs hro d (fun b => kk b.1 b.2)
/-! CoatDinnerModel.league(I)I -/
def m_X7_league (x1 : Int32) (σ : Sg) : Option (Int32 × Sg) := e_cI (m_X7_areThere x1 σ) (fun r2 σ1 => (if r2 = 0 then some ((-2), σ1) else e_cI (m_X7_worthOf x1 σ1) (fun r4 σ3 => some (r4, σ3))))
theorem om_X7_league {G : KW} {l : Launch} (x1 : Int32)  (σ : Sg) : Okk G l cX7_league 2 RX7 (some .int) (rmo 2 49) ccI 0 [some (k_rr G 100), some (.int x1)] [] σ (m_X7_league x1 σ) := by
  unfold m_X7_league
  refine ok_aload0 (dq_of td_X7_league 0 rfl) ?_
  refine ok_iload1 (dq_of td_X7_league 1 rfl) ?_
  refine call_X7_areThere ml_X7_189  ⟨Nat.le_of_ble_eq_true rfl, Nat.le_of_ble_eq_true rfl⟩ ⟨Nat.zero_le _, Nat.zero_le _⟩ (Nat.le_of_ble_eq_true rfl) (dq_of td_X7_league 2 rfl) (fun r2 σ1 => ?_)
  refine ok_if_eq (tgt := 16) (dq_of td_X7_league 3 rfl) (by decide) ?_ ?_
  · refine ok_bipush (v := (-2)) (dq_of td_X7_league 8 rfl) (by decide) ?_
    exact ok_iret (dq_of td_X7_league 9 rfl)
  · refine ok_aload0 (dq_of td_X7_league 4 rfl) ?_
    refine ok_iload1 (dq_of td_X7_league 5 rfl) ?_
    refine call_X7_worthOf ml_X7_192  ⟨Nat.le_of_ble_eq_true rfl, Nat.le_of_ble_eq_true rfl⟩ ⟨Nat.zero_le _, Nat.zero_le _⟩ (Nat.le_of_ble_eq_true rfl) (dq_of td_X7_league 6 rfl) (fun r4 σ3 => ?_)
    refine ok_goto (tgt := 18) (dq_of td_X7_league 7 rfl) (by decide) ?_
    exact ok_iret (dq_of td_X7_league 9 rfl)
theorem ct_X7_league {G : KW} {l : Launch} (x1 : Int32)  (σ : Sg) : ∀ b, m_X7_league x1 σ = some b → MetF G l yX7_league cX7_league 2 (some .int) 2 49 [k_rr G 100, .int x1] (k_wl G σ) (ccI b).1 (k_wl G (ccI b).2) :=
  met_of (by decide) (Nat.le_of_ble_eq_true rfl) rfl (om_X7_league _  σ)
theorem call_X7_league {G : KW} {l : Launch} {cc : ByteArray} {nL : Nat} {own : String} {rt : Option FieldType} {R : Room} {α : Type} {X : State → Array Value → Method → Prop} {Z : α → List Frame → Array Value → State → State → Prop} {k0 n0 pc index : Nat} {L : List (Option Value)} {S : List Value} {σ : Sg} {F : Int32 → Sg → Option α} {x1 : Int32} (lk : MLk own index yX7_league)  (hR : R.frames ≥ 2 + 1 ∧ R.locals ≥ 8 + (2 + 11) + 49) (hcs : k0 ≤ R.cells ∧ n0 ≤ R.slots) (hro : (S.map fun v => v.category).sum ≤ 8) (d : decode cc pc = .ok (.invokevirtual index, 3)) (kk : ∀ (r : Int32) (σ' : Sg), Okg G l cc nL own rt R X Z k0 n0 (pc + 3) L (.int r :: S) σ' (F r σ')) : Okg G l cc nL own rt R X Z k0 n0 pc L (.int x1 :: k_rr G 100 :: S) σ (e_cI (m_X7_league x1 σ) F) :=
  ok_cV (cb := ccI) (As := [.int x1]) (ct_X7_league _  σ) mo_X7_league hi_X7_league lk rfl (ci := 7) rfl rfl (by decide) ko_100 hR rfl hcs hro d (fun b => kk b.1 b.2)
/-! CoatDinnerModel.orders(I)I -/
def d_X7_orders_4 (x0 : Int32) (K : Int32 → Sg → Option (Int32 × Sg)) (H : Int32 → Int32 → Sg → Option (Int32 × Sg)) (x1 : Int32) (x2 : Int32) (σ : Sg) : Option (Int32 × Sg) := (if x0 < x2 then K x1 σ else e_lt (x1 * x2) (fun v1 => H v1 (x2 + 1) σ))
theorem od_X7_orders_4 {G : KW} {l : Launch} (x0 : Int32)  {K : Int32 → Sg → Option (Int32 × Sg)} {H : Int32 → Int32 → Sg → Option (Int32 × Sg)} (hK : ∀ (x1 : Int32) (σ : Sg), Okk G l cX7_orders 3 RX7 (some .int) (rmo 0 0) ccI 19 [none, some (.int x1), none] [] σ (K x1 σ)) (hH : ∀ (x1 : Int32) (x2 : Int32) (σ : Sg), Okk G l cX7_orders 3 RX7 (some .int) (rmo 0 0) ccI 4 [some (.int x0), some (.int x1), some (.int x2)] [] σ (H x1 x2 σ)) (x1 : Int32) (x2 : Int32)  (σ : Sg) : Okk G l cX7_orders 3 RX7 (some .int) (rmo 0 0) ccI 4 [some (.int x0), some (.int x1), some (.int x2)] [] σ (d_X7_orders_4 x0 K H x1 x2 σ) := by
  unfold d_X7_orders_4
  refine ok_iload2 (dq_of td_X7_orders 4 rfl) ?_
  refine ok_iload0 (dq_of td_X7_orders 5 rfl) ?_
  refine ok_ic_gt (tgt := 19) (dq_of td_X7_orders 6 rfl) (by decide) ?_ ?_
  · refine ok_wk (wk_n (wk_s (wk_n wk_0))) ?_
    exact hK _ _
  · refine ok_iload1 (dq_of td_X7_orders 7 rfl) ?_
    refine ok_iload2 (dq_of td_X7_orders 8 rfl) ?_
    refine ok_imul (dq_of td_X7_orders 9 rfl) ?_
    refine ok_gI (fun v1 => ?_)
    refine ok_istore1 (dq_of td_X7_orders 10 rfl) rfl (by decide) ?_
    refine ok_jinc2 (w := 1) (dq_of td_X7_orders 11 rfl) (by decide) rfl (by decide) ?_
    refine ok_goto (tgt := 4) (dq_of td_X7_orders 12 rfl) (by decide) ?_
    refine ok_wk (wk_s (wk_s (wk_s wk_0))) ?_
    exact hH _ _ _
theorem ld_X7_orders_4 {G : KW} {l : Launch} (x0 : Int32)  {K : Int32 → Sg → Option (Int32 × Sg)} (hK : ∀ (x1 : Int32) (σ : Sg), Okk G l cX7_orders 3 RX7 (some .int) (rmo 0 0) ccI 19 [none, some (.int x1), none] [] σ (K x1 σ)) (n : Nat) (x1 : Int32) (x2 : Int32) (σ : Sg) : Okk G l cX7_orders 3 RX7 (some .int) (rmo 0 0) ccI 4 [some (.int x0), some (.int x1), some (.int x2)] [] σ (e_lp2 (d_X7_orders_4 x0 K) n x1 x2 σ) :=
  ok_lp2 (Lf := fun (x1 : Int32) (x2 : Int32) => [some (.int x0), some (.int x1), some (.int x2)]) (fun _ hH x1 x2 σ => od_X7_orders_4 _  hK hH x1 x2 σ) n x1 x2 σ
def m_X7_orders (x0 : Int32) (σ : Sg) : Option (Int32 × Sg) := e_lp2 (d_X7_orders_4 x0 (fun x1q2 σ2 => some (x1q2, σ2))) e_F 1 2 σ
theorem om_X7_orders {G : KW} {l : Launch} (x0 : Int32)  (σ : Sg) : Okk G l cX7_orders 3 RX7 (some .int) (rmo 0 0) ccI 0 [some (.int x0), none, none] [] σ (m_X7_orders x0 σ) := by
  unfold m_X7_orders
  refine ok_iconst (v := 1) (dq_of td_X7_orders 0 rfl) (by decide) ?_
  refine ok_istore1 (dq_of td_X7_orders 1 rfl) rfl (by decide) ?_
  refine ok_iconst (v := 2) (dq_of td_X7_orders 2 rfl) (by decide) ?_
  refine ok_istore2 (dq_of td_X7_orders 3 rfl) rfl (by decide) ?_
  refine ok_wk (wk_s (wk_s (wk_s wk_0))) ?_
  refine ld_X7_orders_4 _  (fun x1q2 σ2 => ?_) _ _ _ _
  refine ok_iload1 (dq_of td_X7_orders 13 rfl) ?_
  exact ok_iret (dq_of td_X7_orders 14 rfl)
theorem ct_X7_orders {G : KW} {l : Launch} (x0 : Int32)  (σ : Sg) : ∀ b, m_X7_orders x0 σ = some b → MetF G l yX7_orders cX7_orders 3 (some .int) 0 0 [.int x0] (k_wl G σ) (ccI b).1 (k_wl G (ccI b).2) :=
  met_of (by decide) (Nat.le_of_ble_eq_true rfl) rfl (om_X7_orders _  σ)
theorem call_X7_orders {G : KW} {l : Launch} {cc : ByteArray} {nL : Nat} {own : String} {rt : Option FieldType} {R : Room} {α : Type} {X : State → Array Value → Method → Prop} {Z : α → List Frame → Array Value → State → State → Prop} {k0 n0 pc index : Nat} {L : List (Option Value)} {S : List Value} {σ : Sg} {F : Int32 → Sg → Option α} {x0 : Int32} (lk : MLk own index yX7_orders)  (hR : R.frames ≥ 0 + 1 ∧ R.locals ≥ 8 + (3 + 11) + 0) (hcs : k0 ≤ R.cells ∧ n0 ≤ R.slots) (hro : (S.map fun v => v.category).sum ≤ 8) (d : decode cc pc = .ok (.invokestatic index, 3)) (kk : ∀ (r : Int32) (σ' : Sg), Okg G l cc nL own rt R X Z k0 n0 (pc + 3) L (.int r :: S) σ' (F r σ')) : Okg G l cc nL own rt R X Z k0 n0 pc L (.int x0 :: S) σ (e_cI (m_X7_orders x0 σ) F) :=
  ok_cS (cb := ccI) (ct_X7_orders _  σ) mo_X7_orders hi_X7_orders lk rfl hR rfl hcs hro d (fun b => kk b.1 b.2)
/-! CoatDinnerModel.share(II)J -/
def d_X7_share_39 (x1 : Int32) (x2 : Int32) (K : Int32 → Int64 → Sg → Option (Int64 × Sg)) (H : Int32 → Int64 → Int32 → Sg → Option (Int64 × Sg)) (x3 : Int32) (x4 : Int64) (x6 : Int32) (σ : Sg) : Option (Int64 × Sg) := (if 32 ≤ x6 then K x3 x4 σ else (if (x6 &&& ((σ 100 0) ^^^ ((-1)))) = 0 then e_cI (m_X7_has x6 x1 σ) (fun r8 σ7 => (if r8 = 0 then e_cI (m_X7_bits x6 σ7) (fun r10 σ9 => e_cI (m_X7_orders r10 σ9) (fun r12 σ11 => e_cI (m_X7_bits x6 σ11) (fun r14 σ13 => e_cI (m_X7_orders ((x3 - r14) - 1) σ13) (fun r16 σ15 => e_lt (r12 * r16) (fun v17 => e_cI (m_X7_worthOf (x6 ||| (jsl 1 x1)) σ15) (fun r19 σ18 => e_cI (m_X7_worthOf x6 σ18) (fun r21 σ20 => e_lt (x4 + ((Int32.toInt64 v17) * (Int32.toInt64 (r19 - r21)))) (fun v22 => H x3 v22 (x6 + 1) σ20)))))))) else H x3 x4 (x6 + 1) σ7)) else H x3 x4 (x6 + 1) σ))
def d_X7_share_134 (x1 : Int32) (x2 : Int32) (K : Int32 → Int64 → Int64 → Sg → Option (Int64 × Sg)) (H : Int32 → Int64 → Int64 → Int64 → Sg → Option (Int64 × Sg)) (x3 : Int32) (x4 : Int64) (x6 : Int64) (x8 : Int64) (σ : Sg) : Option (Int64 × Sg) := (if (lg_cmp x8 0) = 0 then K x3 x4 x6 σ else if x8 = 0 then none else e_lt (jrl x6 x8) (fun v27 => H x3 x4 x8 v27 σ))
theorem od_X7_share_39 {G : KW} {l : Launch} (x1 : Int32) (x2 : Int32)  {K : Int32 → Int64 → Sg → Option (Int64 × Sg)} {H : Int32 → Int64 → Int32 → Sg → Option (Int64 × Sg)} (hK : ∀ (x3 : Int32) (x4 : Int64) (σ : Sg), Okk G l cX7_share 12 RX7 (some .long) (rmo 2 49) ccJ 123 [none, none, some (.int x2), some (.int x3), some (.long x4), none, none, none, none, none, none, none] [] σ (K x3 x4 σ)) (hH : ∀ (x3 : Int32) (x4 : Int64) (x6 : Int32) (σ : Sg), Okk G l cX7_share 12 RX7 (some .long) (rmo 2 49) ccJ 39 [some (k_rr G 100), some (.int x1), some (.int x2), some (.int x3), some (.long x4), none, some (.int x6), none, none, none, none, none] [] σ (H x3 x4 x6 σ)) (x3 : Int32) (x4 : Int64) (x6 : Int32)  (σ : Sg) : Okk G l cX7_share 12 RX7 (some .long) (rmo 2 49) ccJ 39 [some (k_rr G 100), some (.int x1), some (.int x2), some (.int x3), some (.long x4), none, some (.int x6), none, none, none, none, none] [] σ (d_X7_share_39 x1 x2 K H x3 x4 x6 σ) := by
  unfold d_X7_share_39
  refine ok_iload6 (dq_of td_X7_share 21 rfl) ?_
  refine ok_bipush (v := 32) (dq_of td_X7_share 22 rfl) (by decide) ?_
  refine ok_ic_ge (tgt := 123) (dq_of td_X7_share 23 rfl) (by decide) ?_ ?_
  · refine ok_wk (wk_n (wk_n (wk_s (wk_s (wk_s (wk_n (wk_n (wk_n (wk_n (wk_n (wk_n (wk_n wk_0)))))))))))) ?_
    exact hK _ _ _
  · refine ok_iload6 (dq_of td_X7_share 24 rfl) ?_
    refine ok_aload0 (dq_of td_X7_share 25 rfl) ?_
    refine ok_get (v := .int (σ 100 0)) fl_X7_85 (by decide) ko_100 rfl (dq_of td_X7_share 26 rfl) ?_
    refine ok_iconst (v := (-1)) (dq_of td_X7_share 27 rfl) (by decide) ?_
    refine ok_ixor (dq_of td_X7_share 28 rfl) ?_
    refine ok_iand (dq_of td_X7_share 29 rfl) ?_
    refine ok_if_ne (tgt := 117) (dq_of td_X7_share 30 rfl) (by decide) ?_ ?_
    · refine ok_jinc6 (w := 1) (dq_of td_X7_share 65 rfl) (by decide) rfl (by decide) ?_
      refine ok_goto (tgt := 39) (dq_of td_X7_share 66 rfl) (by decide) ?_
      refine ok_wk (wk_s (wk_s (wk_s (wk_s (wk_s (wk_n (wk_s (wk_n (wk_n (wk_n (wk_n (wk_n wk_0)))))))))))) ?_
      exact hH _ _ _ _
    · refine ok_iload6 (dq_of td_X7_share 31 rfl) ?_
      refine ok_iload1 (dq_of td_X7_share 32 rfl) ?_
      refine call_X7_has ml_X7_88  ⟨Nat.le_of_ble_eq_true rfl, Nat.le_of_ble_eq_true rfl⟩ ⟨Nat.zero_le _, Nat.zero_le _⟩ (Nat.le_of_ble_eq_true rfl) (dq_of td_X7_share 33 rfl) (fun r8 σ7 => ?_)
      refine ok_if_ne (tgt := 117) (dq_of td_X7_share 34 rfl) (by decide) ?_ ?_
      · refine ok_jinc6 (w := 1) (dq_of td_X7_share 65 rfl) (by decide) rfl (by decide) ?_
        refine ok_goto (tgt := 39) (dq_of td_X7_share 66 rfl) (by decide) ?_
        refine ok_wk (wk_s (wk_s (wk_s (wk_s (wk_s (wk_n (wk_s (wk_n (wk_n (wk_n (wk_n (wk_n wk_0)))))))))))) ?_
        exact hH _ _ _ _
      · refine ok_iload6 (dq_of td_X7_share 35 rfl) ?_
        refine call_X7_bits ml_X7_99  ⟨Nat.le_of_ble_eq_true rfl, Nat.le_of_ble_eq_true rfl⟩ ⟨Nat.zero_le _, Nat.zero_le _⟩ (Nat.le_of_ble_eq_true rfl) (dq_of td_X7_share 36 rfl) (fun r10 σ9 => ?_)
        refine call_X7_orders ml_X7_199  ⟨Nat.le_of_ble_eq_true rfl, Nat.le_of_ble_eq_true rfl⟩ ⟨Nat.zero_le _, Nat.zero_le _⟩ (Nat.le_of_ble_eq_true rfl) (dq_of td_X7_share 37 rfl) (fun r12 σ11 => ?_)
        refine ok_iload3 (dq_of td_X7_share 38 rfl) ?_
        refine ok_iload6 (dq_of td_X7_share 39 rfl) ?_
        refine call_X7_bits ml_X7_99  ⟨Nat.le_of_ble_eq_true rfl, Nat.le_of_ble_eq_true rfl⟩ ⟨Nat.zero_le _, Nat.zero_le _⟩ (Nat.le_of_ble_eq_true rfl) (dq_of td_X7_share 40 rfl) (fun r14 σ13 => ?_)
        refine ok_isub (dq_of td_X7_share 41 rfl) ?_
        refine ok_iconst (v := 1) (dq_of td_X7_share 42 rfl) (by decide) ?_
        refine ok_isub (dq_of td_X7_share 43 rfl) ?_
        refine call_X7_orders ml_X7_199  ⟨Nat.le_of_ble_eq_true rfl, Nat.le_of_ble_eq_true rfl⟩ ⟨Nat.zero_le _, Nat.zero_le _⟩ (Nat.le_of_ble_eq_true rfl) (dq_of td_X7_share 44 rfl) (fun r16 σ15 => ?_)
        refine ok_imul (dq_of td_X7_share 45 rfl) ?_
        refine ok_gI (fun v17 => ?_)
        refine ok_istore7 (dq_of td_X7_share 46 rfl) rfl (by decide) ?_
        refine ok_lload4 (dq_of td_X7_share 47 rfl) ?_
        refine ok_iload7 (dq_of td_X7_share 48 rfl) ?_
        refine ok_i2l (dq_of td_X7_share 49 rfl) ?_
        refine ok_aload0 (dq_of td_X7_share 50 rfl) ?_
        refine ok_iload6 (dq_of td_X7_share 51 rfl) ?_
        refine ok_iconst (v := 1) (dq_of td_X7_share 52 rfl) (by decide) ?_
        refine ok_iload1 (dq_of td_X7_share 53 rfl) ?_
        refine ok_ishl (dq_of td_X7_share 54 rfl) ?_
        refine ok_ior (dq_of td_X7_share 55 rfl) ?_
        refine call_X7_worthOf ml_X7_192  ⟨Nat.le_of_ble_eq_true rfl, Nat.le_of_ble_eq_true rfl⟩ ⟨Nat.zero_le _, Nat.zero_le _⟩ (Nat.le_of_ble_eq_true rfl) (dq_of td_X7_share 56 rfl) (fun r19 σ18 => ?_)
        refine ok_aload0 (dq_of td_X7_share 57 rfl) ?_
        refine ok_iload6 (dq_of td_X7_share 58 rfl) ?_
        refine call_X7_worthOf ml_X7_192  ⟨Nat.le_of_ble_eq_true rfl, Nat.le_of_ble_eq_true rfl⟩ ⟨Nat.zero_le _, Nat.zero_le _⟩ (Nat.le_of_ble_eq_true rfl) (dq_of td_X7_share 59 rfl) (fun r21 σ20 => ?_)
        refine ok_isub (dq_of td_X7_share 60 rfl) ?_
        refine ok_i2l (dq_of td_X7_share 61 rfl) ?_
        refine ok_lmul (dq_of td_X7_share 62 rfl) ?_
        refine ok_ladd (dq_of td_X7_share 63 rfl) ?_
        refine ok_gJ (fun v22 => ?_)
        refine ok_lstore4 (dq_of td_X7_share 64 rfl) rfl (by decide) ?_
        refine ok_jinc6 (w := 1) (dq_of td_X7_share 65 rfl) (by decide) rfl (by decide) ?_
        refine ok_goto (tgt := 39) (dq_of td_X7_share 66 rfl) (by decide) ?_
        refine ok_wk (wk_s (wk_s (wk_s (wk_s (wk_s (wk_n (wk_s (wk_n (wk_n (wk_n (wk_n (wk_n wk_0)))))))))))) ?_
        exact hH _ _ _ _
theorem ld_X7_share_39 {G : KW} {l : Launch} (x1 : Int32) (x2 : Int32)  {K : Int32 → Int64 → Sg → Option (Int64 × Sg)} (hK : ∀ (x3 : Int32) (x4 : Int64) (σ : Sg), Okk G l cX7_share 12 RX7 (some .long) (rmo 2 49) ccJ 123 [none, none, some (.int x2), some (.int x3), some (.long x4), none, none, none, none, none, none, none] [] σ (K x3 x4 σ)) (n : Nat) (x3 : Int32) (x4 : Int64) (x6 : Int32) (σ : Sg) : Okk G l cX7_share 12 RX7 (some .long) (rmo 2 49) ccJ 39 [some (k_rr G 100), some (.int x1), some (.int x2), some (.int x3), some (.long x4), none, some (.int x6), none, none, none, none, none] [] σ (e_lp3 (d_X7_share_39 x1 x2 K) n x3 x4 x6 σ) :=
  ok_lp3 (Lf := fun (x3 : Int32) (x4 : Int64) (x6 : Int32) => [some (k_rr G 100), some (.int x1), some (.int x2), some (.int x3), some (.long x4), none, some (.int x6), none, none, none, none, none]) (fun _ hH x3 x4 x6 σ => od_X7_share_39 _ _  hK hH x3 x4 x6 σ) n x3 x4 x6 σ
theorem od_X7_share_134 {G : KW} {l : Launch} (x1 : Int32) (x2 : Int32)  {K : Int32 → Int64 → Int64 → Sg → Option (Int64 × Sg)} {H : Int32 → Int64 → Int64 → Int64 → Sg → Option (Int64 × Sg)} (hK : ∀ (x3 : Int32) (x4 : Int64) (x6 : Int64) (σ : Sg), Okk G l cX7_share 12 RX7 (some .long) (rmo 2 49) ccJ 159 [none, none, some (.int x2), some (.int x3), some (.long x4), none, some (.long x6), none, none, none, none, none] [] σ (K x3 x4 x6 σ)) (hH : ∀ (x3 : Int32) (x4 : Int64) (x6 : Int64) (x8 : Int64) (σ : Sg), Okk G l cX7_share 12 RX7 (some .long) (rmo 2 49) ccJ 134 [none, none, some (.int x2), some (.int x3), some (.long x4), none, some (.long x6), none, some (.long x8), none, none, none] [] σ (H x3 x4 x6 x8 σ)) (x3 : Int32) (x4 : Int64) (x6 : Int64) (x8 : Int64)  (σ : Sg) : Okk G l cX7_share 12 RX7 (some .long) (rmo 2 49) ccJ 134 [none, none, some (.int x2), some (.int x3), some (.long x4), none, some (.long x6), none, some (.long x8), none, none, none] [] σ (d_X7_share_134 x1 x2 K H x3 x4 x6 x8 σ) := by
  unfold d_X7_share_134
  refine ok_lload8 (dq_of td_X7_share 73 rfl) ?_
  refine ok_lconst (v := 0) (dq_of td_X7_share 74 rfl) (by decide) ?_
  refine ok_lcmp (dq_of td_X7_share 75 rfl) ?_
  refine ok_if_eq (tgt := 159) (dq_of td_X7_share 76 rfl) (by decide) ?_ ?_
  · refine ok_wk (wk_n (wk_n (wk_s (wk_s (wk_s (wk_n (wk_s (wk_n (wk_n (wk_n (wk_n (wk_n wk_0)))))))))))) ?_
    exact hK _ _ _ _
  · refine ok_lload6 (dq_of td_X7_share 77 rfl) ?_
    refine ok_lload8 (dq_of td_X7_share 78 rfl) ?_
    refine ok_lremG (dq_of td_X7_share 79 rfl) ?_
    refine ok_gJ (fun v27 => ?_)
    refine ok_lstore10 (dq_of td_X7_share 80 rfl) rfl (by decide) ?_
    refine ok_lload8 (dq_of td_X7_share 81 rfl) ?_
    refine ok_lstore6 (dq_of td_X7_share 82 rfl) rfl (by decide) ?_
    refine ok_lload10 (dq_of td_X7_share 83 rfl) ?_
    refine ok_lstore8 (dq_of td_X7_share 84 rfl) rfl (by decide) ?_
    refine ok_goto (tgt := 134) (dq_of td_X7_share 85 rfl) (by decide) ?_
    refine ok_wk (wk_n (wk_n (wk_s (wk_s (wk_s (wk_n (wk_s (wk_n (wk_s (wk_n (wk_n (wk_n wk_0)))))))))))) ?_
    exact hH _ _ _ _ _
theorem ld_X7_share_134 {G : KW} {l : Launch} (x1 : Int32) (x2 : Int32)  {K : Int32 → Int64 → Int64 → Sg → Option (Int64 × Sg)} (hK : ∀ (x3 : Int32) (x4 : Int64) (x6 : Int64) (σ : Sg), Okk G l cX7_share 12 RX7 (some .long) (rmo 2 49) ccJ 159 [none, none, some (.int x2), some (.int x3), some (.long x4), none, some (.long x6), none, none, none, none, none] [] σ (K x3 x4 x6 σ)) (n : Nat) (x3 : Int32) (x4 : Int64) (x6 : Int64) (x8 : Int64) (σ : Sg) : Okk G l cX7_share 12 RX7 (some .long) (rmo 2 49) ccJ 134 [none, none, some (.int x2), some (.int x3), some (.long x4), none, some (.long x6), none, some (.long x8), none, none, none] [] σ (e_lp4 (d_X7_share_134 x1 x2 K) n x3 x4 x6 x8 σ) :=
  ok_lp4 (Lf := fun (x3 : Int32) (x4 : Int64) (x6 : Int64) (x8 : Int64) => [none, none, some (.int x2), some (.int x3), some (.long x4), none, some (.long x6), none, some (.long x8), none, none, none]) (fun _ hH x3 x4 x6 x8 σ => od_X7_share_134 _ _  hK hH x3 x4 x6 x8 σ) n x3 x4 x6 x8 σ
def m_X7_share (x1 : Int32) (x2 : Int32) (σ : Sg) : Option (Int64 × Sg) := e_cI (m_X7_isThere x1 σ) (fun r2 σ1 => (if r2 = 0 then some ((-1000000000000000001), σ1) else e_cI (m_X7_in x2 0 1 σ1) (fun r4 σ3 => (if r4 = 0 then some ((-1000000000000000002), σ3) else e_cI (m_X7_bits (σ3 100 0) σ3) (fun r6 σ5 => e_lp3 (d_X7_share_39 x1 x2 (fun x3q23 x4q23 σ23 => e_cI (m_X7_orders x3q23 σ23) (fun r25 σ24 => e_lt (Int32.toInt64 r25) (fun v26 => e_lp4 (d_X7_share_134 x1 x2 (fun x3q28 x4q28 x6q28 σ28 => (if x2 = 0 then if x6q28 = 0 then none else some (x4q28 / x6q28, σ28) else e_cI (m_X7_orders x3q28 σ28) (fun r30 σ29 => if x6q28 = 0 then none else some ((Int32.toInt64 r30) / x6q28, σ29))))) e_F x3q23 x4q23 x4q23 v26 σ24)))) e_F r6 0 0 σ5)))))
theorem om_X7_share {G : KW} {l : Launch} (x1 : Int32) (x2 : Int32)  (σ : Sg) : Okk G l cX7_share 12 RX7 (some .long) (rmo 2 49) ccJ 0 [some (k_rr G 100), some (.int x1), some (.int x2), none, none, none, none, none, none, none, none, none] [] σ (m_X7_share x1 x2 σ) := by
  unfold m_X7_share
  refine ok_aload0 (dq_of td_X7_share 0 rfl) ?_
  refine ok_iload1 (dq_of td_X7_share 1 rfl) ?_
  refine call_X7_isThere ml_X7_95  ⟨Nat.le_of_ble_eq_true rfl, Nat.le_of_ble_eq_true rfl⟩ ⟨Nat.zero_le _, Nat.zero_le _⟩ (Nat.le_of_ble_eq_true rfl) (dq_of td_X7_share 2 rfl) (fun r2 σ1 => ?_)
  refine ok_if_ne (tgt := 12) (dq_of td_X7_share 3 rfl) (by decide) ?_ ?_
  · refine ok_iload2 (dq_of td_X7_share 6 rfl) ?_
    refine ok_iconst (v := 0) (dq_of td_X7_share 7 rfl) (by decide) ?_
    refine ok_iconst (v := 1) (dq_of td_X7_share 8 rfl) (by decide) ?_
    refine call_X7_in ml_X7_81  ⟨Nat.le_of_ble_eq_true rfl, Nat.le_of_ble_eq_true rfl⟩ ⟨Nat.zero_le _, Nat.zero_le _⟩ (Nat.le_of_ble_eq_true rfl) (dq_of td_X7_share 9 rfl) (fun r4 σ3 => ?_)
    refine ok_if_ne (tgt := 25) (dq_of td_X7_share 10 rfl) (by decide) ?_ ?_
    · refine ok_aload0 (dq_of td_X7_share 13 rfl) ?_
      refine ok_get (v := .int (σ3 100 0)) fl_X7_85 (by decide) ko_100 rfl (dq_of td_X7_share 14 rfl) ?_
      refine call_X7_bits ml_X7_99  ⟨Nat.le_of_ble_eq_true rfl, Nat.le_of_ble_eq_true rfl⟩ ⟨Nat.zero_le _, Nat.zero_le _⟩ (Nat.le_of_ble_eq_true rfl) (dq_of td_X7_share 15 rfl) (fun r6 σ5 => ?_)
      refine ok_istore3 (dq_of td_X7_share 16 rfl) rfl (by decide) ?_
      refine ok_lconst (v := 0) (dq_of td_X7_share 17 rfl) (by decide) ?_
      refine ok_lstore4 (dq_of td_X7_share 18 rfl) rfl (by decide) ?_
      refine ok_iconst (v := 0) (dq_of td_X7_share 19 rfl) (by decide) ?_
      refine ok_istore6 (dq_of td_X7_share 20 rfl) rfl (by decide) ?_
      refine ok_wk (wk_s (wk_s (wk_s (wk_s (wk_s (wk_n (wk_s (wk_n (wk_n (wk_n (wk_n (wk_n wk_0)))))))))))) ?_
      refine ld_X7_share_39 _ _  (fun x3q23 x4q23 σ23 => ?_) _ _ _ _ _
      refine ok_lload4 (dq_of td_X7_share 67 rfl) ?_
      refine ok_lstore6 (dq_of td_X7_share 68 rfl) rfl (by decide) ?_
      refine ok_iload3 (dq_of td_X7_share 69 rfl) ?_
      refine call_X7_orders ml_X7_199  ⟨Nat.le_of_ble_eq_true rfl, Nat.le_of_ble_eq_true rfl⟩ ⟨Nat.zero_le _, Nat.zero_le _⟩ (Nat.le_of_ble_eq_true rfl) (dq_of td_X7_share 70 rfl) (fun r25 σ24 => ?_)
      refine ok_i2l (dq_of td_X7_share 71 rfl) ?_
      refine ok_gJ (fun v26 => ?_)
      refine ok_lstore8 (dq_of td_X7_share 72 rfl) rfl (by decide) ?_
      refine ok_wk (wk_n (wk_n (wk_s (wk_s (wk_s (wk_n (wk_s (wk_n (wk_s (wk_n (wk_n (wk_n wk_0)))))))))))) ?_
      refine ld_X7_share_134 _ _  (fun x3q28 x4q28 x6q28 σ28 => ?_) _ _ _ _ _ _
      refine ok_iload2 (dq_of td_X7_share 86 rfl) ?_
      refine ok_if_ne (tgt := 171) (dq_of td_X7_share 87 rfl) (by decide) ?_ ?_
      · refine ok_iload3 (dq_of td_X7_share 92 rfl) ?_
        refine call_X7_orders ml_X7_199  ⟨Nat.le_of_ble_eq_true rfl, Nat.le_of_ble_eq_true rfl⟩ ⟨Nat.zero_le _, Nat.zero_le _⟩ (Nat.le_of_ble_eq_true rfl) (dq_of td_X7_share 93 rfl) (fun r30 σ29 => ?_)
        refine ok_i2l (dq_of td_X7_share 94 rfl) ?_
        refine ok_lload6 (dq_of td_X7_share 95 rfl) ?_
        refine ok_ldivG (dq_of td_X7_share 96 rfl) ?_
        exact ok_lret (dq_of td_X7_share 97 rfl)
      · refine ok_lload4 (dq_of td_X7_share 88 rfl) ?_
        refine ok_lload6 (dq_of td_X7_share 89 rfl) ?_
        refine ok_ldivG (dq_of td_X7_share 90 rfl) ?_
        refine ok_goto (tgt := 179) (dq_of td_X7_share 91 rfl) (by decide) ?_
        exact ok_lret (dq_of td_X7_share 97 rfl)
    · refine ok_ldc2 (v := (-1000000000000000002)) (dq_of td_X7_share 11 rfl) kc_X7_197 ?_
      exact ok_lret (dq_of td_X7_share 12 rfl)
  · refine ok_ldc2 (v := (-1000000000000000001)) (dq_of td_X7_share 4 rfl) kc_X7_195 ?_
    exact ok_lret (dq_of td_X7_share 5 rfl)
theorem ct_X7_share {G : KW} {l : Launch} (x1 : Int32) (x2 : Int32)  (σ : Sg) : ∀ b, m_X7_share x1 x2 σ = some b → MetF G l yX7_share cX7_share 12 (some .long) 2 49 [k_rr G 100, .int x1, .int x2] (k_wl G σ) (ccJ b).1 (k_wl G (ccJ b).2) :=
  met_of (by decide) (Nat.le_of_ble_eq_true rfl) rfl (om_X7_share _ _  σ)
theorem call_X7_share {G : KW} {l : Launch} {cc : ByteArray} {nL : Nat} {own : String} {rt : Option FieldType} {R : Room} {α : Type} {X : State → Array Value → Method → Prop} {Z : α → List Frame → Array Value → State → State → Prop} {k0 n0 pc index : Nat} {L : List (Option Value)} {S : List Value} {σ : Sg} {F : Int64 → Sg → Option α} {x1 : Int32} {x2 : Int32} (lk : MLk own index yX7_share)  (hR : R.frames ≥ 2 + 1 ∧ R.locals ≥ 8 + (12 + 11) + 49) (hcs : k0 ≤ R.cells ∧ n0 ≤ R.slots) (hro : (S.map fun v => v.category).sum ≤ 8) (d : decode cc pc = .ok (.invokevirtual index, 3)) (kk : ∀ (r : Int64) (σ' : Sg), Okg G l cc nL own rt R X Z k0 n0 (pc + 3) L (.long r :: S) σ' (F r σ')) : Okg G l cc nL own rt R X Z k0 n0 pc L (.int x2 :: .int x1 :: k_rr G 100 :: S) σ (e_cJ (m_X7_share x1 x2 σ) F) :=
  ok_cV (cb := ccJ) (As := [.int x1, .int x2]) (ct_X7_share _ _  σ) mo_X7_share hi_X7_share lk rfl (ci := 7) rfl rfl (by decide) ko_100 hR rfl hcs hro d (fun b => kk b.1 b.2)
/-! CoatDinnerModel.leaves(I)I -/
def b_X7_leaves_62 (x1 : Int32) (K : Int32 → Int32 → Int32 → Int32 → Sg → Option (Int32 × Sg)) (H : Int32 → Int32 → Int32 → Int32 → Int32 → Sg → Option (Int32 × Sg)) (x2 : Int32) (x3 : Int32) (x4 : Int32) (x6 : Int32) (s0 : Int32) (s1 : Int32) (σ : Sg) : Option (Int32 × Sg) := e_lt (s1 + s0) (fun v5 => H x2 x3 x4 v5 (x6 + 1) σ)
def d_X7_leaves_33 (x1 : Int32) (K : Int32 → Int32 → Int32 → Int32 → Sg → Option (Int32 × Sg)) (H : Int32 → Int32 → Int32 → Int32 → Int32 → Sg → Option (Int32 × Sg)) (x2 : Int32) (x3 : Int32) (x4 : Int32) (x5 : Int32) (x6 : Int32) (σ : Sg) : Option (Int32 × Sg) := (if 5 ≤ x6 then K x2 x3 x4 x5 σ else e_cI (m_X7_has x4 x6 σ) (fun r4 σ3 => (if r4 = 0 then b_X7_leaves_62 x1 K H x2 x3 x4 x6 0 x5 σ3 else e_gd (k_in x6 5) (b_X7_leaves_62 x1 K H x2 x3 x4 x6 (σ3 110 (Int32.toNatClampNeg x6)) x5 σ3))))
def b_X7_leaves_104 (x1 : Int32) (K : Int32 → Int32 → Sg → Option (Int32 × Sg)) (H : Int32 → Int32 → Int32 → Sg → Option (Int32 × Sg)) (x2 : Int32) (x4 : Int32) (s0 : Int32) (σ : Sg) : Option (Int32 × Sg) := H (x2 + 1) s0 (x4 + 1) σ
def d_X7_leaves_20 (x1 : Int32) (K : Int32 → Int32 → Sg → Option (Int32 × Sg)) (H : Int32 → Int32 → Int32 → Sg → Option (Int32 × Sg)) (x2 : Int32) (x3 : Int32) (x4 : Int32) (σ : Sg) : Option (Int32 × Sg) := (if 32 ≤ x4 then K x2 x3 σ else e_lp5 (d_X7_leaves_33 x1 (fun x2q6 x3q6 x4q6 x5q6 σ6 => (if (x4q6 &&& ((σ6 100 0) ^^^ ((-1)))) = 0 then e_cI (m_X7_worthOf x4q6 σ6) (fun r8 σ7 => (if r8 ≤ x5q6 then H x2q6 x3q6 (x4q6 + 1) σ7 else (if x2q6 = 0 then b_X7_leaves_104 x1 K H x2q6 x4q6 x4q6 σ7 else b_X7_leaves_104 x1 K H x2q6 x4q6 x3q6 σ7))) else H x2q6 x3q6 (x4q6 + 1) σ6))) e_F x2 x3 x4 0 0 σ)
theorem ob_X7_leaves_62 {G : KW} {l : Launch} (x1 : Int32)  {K : Int32 → Int32 → Int32 → Int32 → Sg → Option (Int32 × Sg)} {H : Int32 → Int32 → Int32 → Int32 → Int32 → Sg → Option (Int32 × Sg)} (hK : ∀ (x2 : Int32) (x3 : Int32) (x4 : Int32) (x5 : Int32) (σ : Sg), Okk G l cX7_leaves 7 RX7 (some .int) (rmo 2 49) ccI 71 [some (k_rr G 100), some (.int x1), some (.int x2), some (.int x3), some (.int x4), some (.int x5), none] [] σ (K x2 x3 x4 x5 σ)) (hH : ∀ (x2 : Int32) (x3 : Int32) (x4 : Int32) (x5 : Int32) (x6 : Int32) (σ : Sg), Okk G l cX7_leaves 7 RX7 (some .int) (rmo 2 49) ccI 33 [some (k_rr G 100), some (.int x1), some (.int x2), some (.int x3), some (.int x4), some (.int x5), some (.int x6)] [] σ (H x2 x3 x4 x5 x6 σ)) (x2 : Int32) (x3 : Int32) (x4 : Int32) (x6 : Int32) (s0 : Int32) (s1 : Int32)  (σ : Sg) : Okk G l cX7_leaves 7 RX7 (some .int) (rmo 2 49) ccI 62 [some (k_rr G 100), some (.int x1), some (.int x2), some (.int x3), some (.int x4), none, some (.int x6)] [.int s0, .int s1] σ (b_X7_leaves_62 x1 K H x2 x3 x4 x6 s0 s1 σ) := by
  unfold b_X7_leaves_62
  refine ok_iadd (dq_of td_X7_leaves 34 rfl) ?_
  refine ok_gI (fun v5 => ?_)
  refine ok_istore5 (dq_of td_X7_leaves 35 rfl) rfl (by decide) ?_
  refine ok_jinc6 (w := 1) (dq_of td_X7_leaves 36 rfl) (by decide) rfl (by decide) ?_
  refine ok_goto (tgt := 33) (dq_of td_X7_leaves 37 rfl) (by decide) ?_
  refine ok_wk (wk_s (wk_s (wk_s (wk_s (wk_s (wk_s (wk_s wk_0))))))) ?_
  exact hH _ _ _ _ _ _
theorem od_X7_leaves_33 {G : KW} {l : Launch} (x1 : Int32)  {K : Int32 → Int32 → Int32 → Int32 → Sg → Option (Int32 × Sg)} {H : Int32 → Int32 → Int32 → Int32 → Int32 → Sg → Option (Int32 × Sg)} (hK : ∀ (x2 : Int32) (x3 : Int32) (x4 : Int32) (x5 : Int32) (σ : Sg), Okk G l cX7_leaves 7 RX7 (some .int) (rmo 2 49) ccI 71 [some (k_rr G 100), some (.int x1), some (.int x2), some (.int x3), some (.int x4), some (.int x5), none] [] σ (K x2 x3 x4 x5 σ)) (hH : ∀ (x2 : Int32) (x3 : Int32) (x4 : Int32) (x5 : Int32) (x6 : Int32) (σ : Sg), Okk G l cX7_leaves 7 RX7 (some .int) (rmo 2 49) ccI 33 [some (k_rr G 100), some (.int x1), some (.int x2), some (.int x3), some (.int x4), some (.int x5), some (.int x6)] [] σ (H x2 x3 x4 x5 x6 σ)) (x2 : Int32) (x3 : Int32) (x4 : Int32) (x5 : Int32) (x6 : Int32)  (σ : Sg) : Okk G l cX7_leaves 7 RX7 (some .int) (rmo 2 49) ccI 33 [some (k_rr G 100), some (.int x1), some (.int x2), some (.int x3), some (.int x4), some (.int x5), some (.int x6)] [] σ (d_X7_leaves_33 x1 K H x2 x3 x4 x5 x6 σ) := by
  unfold d_X7_leaves_33
  refine ok_iload6 (dq_of td_X7_leaves 20 rfl) ?_
  refine ok_iconst (v := 5) (dq_of td_X7_leaves 21 rfl) (by decide) ?_
  refine ok_ic_ge (tgt := 71) (dq_of td_X7_leaves 22 rfl) (by decide) ?_ ?_
  · refine ok_wk (wk_s (wk_s (wk_s (wk_s (wk_s (wk_s (wk_n wk_0))))))) ?_
    exact hK _ _ _ _ _
  · refine ok_iload5 (dq_of td_X7_leaves 23 rfl) ?_
    refine ok_iload4 (dq_of td_X7_leaves 24 rfl) ?_
    refine ok_iload6 (dq_of td_X7_leaves 25 rfl) ?_
    refine call_X7_has ml_X7_88  ⟨Nat.le_of_ble_eq_true rfl, Nat.le_of_ble_eq_true rfl⟩ ⟨Nat.zero_le _, Nat.zero_le _⟩ (Nat.le_of_ble_eq_true rfl) (dq_of td_X7_leaves 26 rfl) (fun r4 σ3 => ?_)
    refine ok_if_eq (tgt := 61) (dq_of td_X7_leaves 27 rfl) (by decide) ?_ ?_
    · refine ok_iconst (v := 0) (dq_of td_X7_leaves 33 rfl) (by decide) ?_
      refine ok_wk (wk_s (wk_s (wk_s (wk_s (wk_s (wk_n (wk_s wk_0))))))) ?_
      exact ob_X7_leaves_62 _  hK hH _ _ _ _ _ _  _
    · refine ok_aload0 (dq_of td_X7_leaves 28 rfl) ?_
      refine ok_get (v := k_rr G 110) fl_X7_41 (by decide) ko_100 rfl (dq_of td_X7_leaves 29 rfl) ?_
      refine ok_iload6 (dq_of td_X7_leaves 30 rfl) ?_
      refine ok_iald ka_110 (dq_of td_X7_leaves 31 rfl) ?_
      refine ok_goto (tgt := 62) (dq_of td_X7_leaves 32 rfl) (by decide) ?_
      refine ok_wk (wk_s (wk_s (wk_s (wk_s (wk_s (wk_n (wk_s wk_0))))))) ?_
      exact ob_X7_leaves_62 _  hK hH _ _ _ _ _ _  _
theorem ld_X7_leaves_33 {G : KW} {l : Launch} (x1 : Int32)  {K : Int32 → Int32 → Int32 → Int32 → Sg → Option (Int32 × Sg)} (hK : ∀ (x2 : Int32) (x3 : Int32) (x4 : Int32) (x5 : Int32) (σ : Sg), Okk G l cX7_leaves 7 RX7 (some .int) (rmo 2 49) ccI 71 [some (k_rr G 100), some (.int x1), some (.int x2), some (.int x3), some (.int x4), some (.int x5), none] [] σ (K x2 x3 x4 x5 σ)) (n : Nat) (x2 : Int32) (x3 : Int32) (x4 : Int32) (x5 : Int32) (x6 : Int32) (σ : Sg) : Okk G l cX7_leaves 7 RX7 (some .int) (rmo 2 49) ccI 33 [some (k_rr G 100), some (.int x1), some (.int x2), some (.int x3), some (.int x4), some (.int x5), some (.int x6)] [] σ (e_lp5 (d_X7_leaves_33 x1 K) n x2 x3 x4 x5 x6 σ) :=
  ok_lp5 (Lf := fun (x2 : Int32) (x3 : Int32) (x4 : Int32) (x5 : Int32) (x6 : Int32) => [some (k_rr G 100), some (.int x1), some (.int x2), some (.int x3), some (.int x4), some (.int x5), some (.int x6)]) (fun _ hH x2 x3 x4 x5 x6 σ => od_X7_leaves_33 _  hK hH x2 x3 x4 x5 x6 σ) n x2 x3 x4 x5 x6 σ
theorem ob_X7_leaves_104 {G : KW} {l : Launch} (x1 : Int32)  {K : Int32 → Int32 → Sg → Option (Int32 × Sg)} {H : Int32 → Int32 → Int32 → Sg → Option (Int32 × Sg)} (hK : ∀ (x2 : Int32) (x3 : Int32) (σ : Sg), Okk G l cX7_leaves 7 RX7 (some .int) (rmo 2 49) ccI 114 [none, some (.int x1), some (.int x2), some (.int x3), none, none, none] [] σ (K x2 x3 σ)) (hH : ∀ (x2 : Int32) (x3 : Int32) (x4 : Int32) (σ : Sg), Okk G l cX7_leaves 7 RX7 (some .int) (rmo 2 49) ccI 20 [some (k_rr G 100), some (.int x1), some (.int x2), some (.int x3), some (.int x4), none, none] [] σ (H x2 x3 x4 σ)) (x2 : Int32) (x4 : Int32) (s0 : Int32)  (σ : Sg) : Okk G l cX7_leaves 7 RX7 (some .int) (rmo 2 49) ccI 104 [some (k_rr G 100), some (.int x1), some (.int x2), none, some (.int x4), none, none] [.int s0] σ (b_X7_leaves_104 x1 K H x2 x4 s0 σ) := by
  unfold b_X7_leaves_104
  refine ok_istore3 (dq_of td_X7_leaves 55 rfl) rfl (by decide) ?_
  refine ok_jinc2 (w := 1) (dq_of td_X7_leaves 56 rfl) (by decide) rfl (by decide) ?_
  refine ok_jinc4 (w := 1) (dq_of td_X7_leaves 57 rfl) (by decide) rfl (by decide) ?_
  refine ok_goto (tgt := 20) (dq_of td_X7_leaves 58 rfl) (by decide) ?_
  refine ok_wk (wk_s (wk_s (wk_s (wk_s (wk_s (wk_n (wk_n wk_0))))))) ?_
  exact hH _ _ _ _
theorem od_X7_leaves_20 {G : KW} {l : Launch} (x1 : Int32)  {K : Int32 → Int32 → Sg → Option (Int32 × Sg)} {H : Int32 → Int32 → Int32 → Sg → Option (Int32 × Sg)} (hK : ∀ (x2 : Int32) (x3 : Int32) (σ : Sg), Okk G l cX7_leaves 7 RX7 (some .int) (rmo 2 49) ccI 114 [none, some (.int x1), some (.int x2), some (.int x3), none, none, none] [] σ (K x2 x3 σ)) (hH : ∀ (x2 : Int32) (x3 : Int32) (x4 : Int32) (σ : Sg), Okk G l cX7_leaves 7 RX7 (some .int) (rmo 2 49) ccI 20 [some (k_rr G 100), some (.int x1), some (.int x2), some (.int x3), some (.int x4), none, none] [] σ (H x2 x3 x4 σ)) (x2 : Int32) (x3 : Int32) (x4 : Int32)  (σ : Sg) : Okk G l cX7_leaves 7 RX7 (some .int) (rmo 2 49) ccI 20 [some (k_rr G 100), some (.int x1), some (.int x2), some (.int x3), some (.int x4), none, none] [] σ (d_X7_leaves_20 x1 K H x2 x3 x4 σ) := by
  unfold d_X7_leaves_20
  refine ok_iload4 (dq_of td_X7_leaves 13 rfl) ?_
  refine ok_bipush (v := 32) (dq_of td_X7_leaves 14 rfl) (by decide) ?_
  refine ok_ic_ge (tgt := 114) (dq_of td_X7_leaves 15 rfl) (by decide) ?_ ?_
  · refine ok_wk (wk_n (wk_s (wk_s (wk_s (wk_n (wk_n (wk_n wk_0))))))) ?_
    exact hK _ _ _
  · refine ok_iconst (v := 0) (dq_of td_X7_leaves 16 rfl) (by decide) ?_
    refine ok_istore5 (dq_of td_X7_leaves 17 rfl) rfl (by decide) ?_
    refine ok_iconst (v := 0) (dq_of td_X7_leaves 18 rfl) (by decide) ?_
    refine ok_istore6 (dq_of td_X7_leaves 19 rfl) rfl (by decide) ?_
    refine ok_wk (wk_s (wk_s (wk_s (wk_s (wk_s (wk_s (wk_s wk_0))))))) ?_
    refine ld_X7_leaves_33 _  (fun x2q6 x3q6 x4q6 x5q6 σ6 => ?_) _ _ _ _ _ _ _
    refine ok_iload4 (dq_of td_X7_leaves 38 rfl) ?_
    refine ok_aload0 (dq_of td_X7_leaves 39 rfl) ?_
    refine ok_get (v := .int (σ6 100 0)) fl_X7_85 (by decide) ko_100 rfl (dq_of td_X7_leaves 40 rfl) ?_
    refine ok_iconst (v := (-1)) (dq_of td_X7_leaves 41 rfl) (by decide) ?_
    refine ok_ixor (dq_of td_X7_leaves 42 rfl) ?_
    refine ok_iand (dq_of td_X7_leaves 43 rfl) ?_
    refine ok_if_ne (tgt := 108) (dq_of td_X7_leaves 44 rfl) (by decide) ?_ ?_
    · refine ok_jinc4 (w := 1) (dq_of td_X7_leaves 57 rfl) (by decide) rfl (by decide) ?_
      refine ok_goto (tgt := 20) (dq_of td_X7_leaves 58 rfl) (by decide) ?_
      refine ok_wk (wk_s (wk_s (wk_s (wk_s (wk_s (wk_n (wk_n wk_0))))))) ?_
      exact hH _ _ _ _
    · refine ok_aload0 (dq_of td_X7_leaves 45 rfl) ?_
      refine ok_iload4 (dq_of td_X7_leaves 46 rfl) ?_
      refine call_X7_worthOf ml_X7_192  ⟨Nat.le_of_ble_eq_true rfl, Nat.le_of_ble_eq_true rfl⟩ ⟨Nat.zero_le _, Nat.zero_le _⟩ (Nat.le_of_ble_eq_true rfl) (dq_of td_X7_leaves 47 rfl) (fun r8 σ7 => ?_)
      refine ok_iload5 (dq_of td_X7_leaves 48 rfl) ?_
      refine ok_ic_le (tgt := 108) (dq_of td_X7_leaves 49 rfl) (by decide) ?_ ?_
      · refine ok_jinc4 (w := 1) (dq_of td_X7_leaves 57 rfl) (by decide) rfl (by decide) ?_
        refine ok_goto (tgt := 20) (dq_of td_X7_leaves 58 rfl) (by decide) ?_
        refine ok_wk (wk_s (wk_s (wk_s (wk_s (wk_s (wk_n (wk_n wk_0))))))) ?_
        exact hH _ _ _ _
      · refine ok_iload2 (dq_of td_X7_leaves 50 rfl) ?_
        refine ok_if_ne (tgt := 103) (dq_of td_X7_leaves 51 rfl) (by decide) ?_ ?_
        · refine ok_iload3 (dq_of td_X7_leaves 54 rfl) ?_
          refine ok_wk (wk_s (wk_s (wk_s (wk_n (wk_s (wk_n (wk_n wk_0))))))) ?_
          exact ob_X7_leaves_104 _  hK hH _ _ _  _
        · refine ok_iload4 (dq_of td_X7_leaves 52 rfl) ?_
          refine ok_goto (tgt := 104) (dq_of td_X7_leaves 53 rfl) (by decide) ?_
          refine ok_wk (wk_s (wk_s (wk_s (wk_n (wk_s (wk_n (wk_n wk_0))))))) ?_
          exact ob_X7_leaves_104 _  hK hH _ _ _  _
theorem ld_X7_leaves_20 {G : KW} {l : Launch} (x1 : Int32)  {K : Int32 → Int32 → Sg → Option (Int32 × Sg)} (hK : ∀ (x2 : Int32) (x3 : Int32) (σ : Sg), Okk G l cX7_leaves 7 RX7 (some .int) (rmo 2 49) ccI 114 [none, some (.int x1), some (.int x2), some (.int x3), none, none, none] [] σ (K x2 x3 σ)) (n : Nat) (x2 : Int32) (x3 : Int32) (x4 : Int32) (σ : Sg) : Okk G l cX7_leaves 7 RX7 (some .int) (rmo 2 49) ccI 20 [some (k_rr G 100), some (.int x1), some (.int x2), some (.int x3), some (.int x4), none, none] [] σ (e_lp3 (d_X7_leaves_20 x1 K) n x2 x3 x4 σ) :=
  ok_lp3 (Lf := fun (x2 : Int32) (x3 : Int32) (x4 : Int32) => [some (k_rr G 100), some (.int x1), some (.int x2), some (.int x3), some (.int x4), none, none]) (fun _ hH x2 x3 x4 σ => od_X7_leaves_20 _  hK hH x2 x3 x4 σ) n x2 x3 x4 σ
def m_X7_leaves (x1 : Int32) (σ : Sg) : Option (Int32 × Sg) := e_cI (m_X7_in x1 0 1 σ) (fun r2 σ1 => (if r2 = 0 then some ((-2), σ1) else e_lp3 (d_X7_leaves_20 x1 (fun x2q9 x3q9 σ9 => (if x1 = 0 then some (x2q9, σ9) else some (x3q9, σ9)))) e_F 0 ((-6)) 1 σ1))
theorem om_X7_leaves {G : KW} {l : Launch} (x1 : Int32)  (σ : Sg) : Okk G l cX7_leaves 7 RX7 (some .int) (rmo 2 49) ccI 0 [some (k_rr G 100), some (.int x1), none, none, none, none, none] [] σ (m_X7_leaves x1 σ) := by
  unfold m_X7_leaves
  refine ok_iload1 (dq_of td_X7_leaves 0 rfl) ?_
  refine ok_iconst (v := 0) (dq_of td_X7_leaves 1 rfl) (by decide) ?_
  refine ok_iconst (v := 1) (dq_of td_X7_leaves 2 rfl) (by decide) ?_
  refine call_X7_in ml_X7_81  ⟨Nat.le_of_ble_eq_true rfl, Nat.le_of_ble_eq_true rfl⟩ ⟨Nat.zero_le _, Nat.zero_le _⟩ (Nat.le_of_ble_eq_true rfl) (dq_of td_X7_leaves 3 rfl) (fun r2 σ1 => ?_)
  refine ok_if_ne (tgt := 12) (dq_of td_X7_leaves 4 rfl) (by decide) ?_ ?_
  · refine ok_iconst (v := 0) (dq_of td_X7_leaves 7 rfl) (by decide) ?_
    refine ok_istore2 (dq_of td_X7_leaves 8 rfl) rfl (by decide) ?_
    refine ok_bipush (v := (-6)) (dq_of td_X7_leaves 9 rfl) (by decide) ?_
    refine ok_istore3 (dq_of td_X7_leaves 10 rfl) rfl (by decide) ?_
    refine ok_iconst (v := 1) (dq_of td_X7_leaves 11 rfl) (by decide) ?_
    refine ok_istore4 (dq_of td_X7_leaves 12 rfl) rfl (by decide) ?_
    refine ok_wk (wk_s (wk_s (wk_s (wk_s (wk_s (wk_n (wk_n wk_0))))))) ?_
    refine ld_X7_leaves_20 _  (fun x2q9 x3q9 σ9 => ?_) _ _ _ _ _
    refine ok_iload1 (dq_of td_X7_leaves 59 rfl) ?_
    refine ok_if_ne (tgt := 122) (dq_of td_X7_leaves 60 rfl) (by decide) ?_ ?_
    · refine ok_iload3 (dq_of td_X7_leaves 63 rfl) ?_
      exact ok_iret (dq_of td_X7_leaves 64 rfl)
    · refine ok_iload2 (dq_of td_X7_leaves 61 rfl) ?_
      refine ok_goto (tgt := 123) (dq_of td_X7_leaves 62 rfl) (by decide) ?_
      exact ok_iret (dq_of td_X7_leaves 64 rfl)
  · refine ok_bipush (v := (-2)) (dq_of td_X7_leaves 5 rfl) (by decide) ?_
    exact ok_iret (dq_of td_X7_leaves 6 rfl)
theorem ct_X7_leaves {G : KW} {l : Launch} (x1 : Int32)  (σ : Sg) : ∀ b, m_X7_leaves x1 σ = some b → MetF G l yX7_leaves cX7_leaves 7 (some .int) 2 49 [k_rr G 100, .int x1] (k_wl G σ) (ccI b).1 (k_wl G (ccI b).2) :=
  met_of (by decide) (Nat.le_of_ble_eq_true rfl) rfl (om_X7_leaves _  σ)
theorem call_X7_leaves {G : KW} {l : Launch} {cc : ByteArray} {nL : Nat} {own : String} {rt : Option FieldType} {R : Room} {α : Type} {X : State → Array Value → Method → Prop} {Z : α → List Frame → Array Value → State → State → Prop} {k0 n0 pc index : Nat} {L : List (Option Value)} {S : List Value} {σ : Sg} {F : Int32 → Sg → Option α} {x1 : Int32} (lk : MLk own index yX7_leaves)  (hR : R.frames ≥ 2 + 1 ∧ R.locals ≥ 8 + (7 + 11) + 49) (hcs : k0 ≤ R.cells ∧ n0 ≤ R.slots) (hro : (S.map fun v => v.category).sum ≤ 8) (d : decode cc pc = .ok (.invokevirtual index, 3)) (kk : ∀ (r : Int32) (σ' : Sg), Okg G l cc nL own rt R X Z k0 n0 (pc + 3) L (.int r :: S) σ' (F r σ')) : Okg G l cc nL own rt R X Z k0 n0 pc L (.int x1 :: k_rr G 100 :: S) σ (e_cI (m_X7_leaves x1 σ) F) :=
  ok_cV (cb := ccI) (As := [.int x1]) (ct_X7_leaves _  σ) mo_X7_leaves hi_X7_leaves lk rfl (ci := 7) rfl rfl (by decide) ko_100 hR rfl hcs hro d (fun b => kk b.1 b.2)
/-! CoatDinnerModel.winner()I -/
def b_X7_winner_58  (K : Int32 → Int32 → Int32 → Int32 → Sg → Option (Int32 × Sg)) (H : Int32 → Int32 → Int32 → Int32 → Int32 → Sg → Option (Int32 × Sg)) (x1 : Int32) (x2 : Int32) (x3 : Int32) (x5 : Int32) (s0 : Int32) (s1 : Int32) (σ : Sg) : Option (Int32 × Sg) := e_lt (s1 + s0) (fun v3 => H x1 x2 x3 v3 (x5 + 1) σ)
def b_X7_winner_57  (K : Int32 → Int32 → Int32 → Int32 → Sg → Option (Int32 × Sg)) (H : Int32 → Int32 → Int32 → Int32 → Int32 → Sg → Option (Int32 × Sg)) (x1 : Int32) (x2 : Int32) (x3 : Int32) (x5 : Int32) (s0 : Int32) (σ : Sg) : Option (Int32 × Sg) := b_X7_winner_58  K H x1 x2 x3 x5 0 s0 σ
def d_X7_winner_17  (K : Int32 → Int32 → Int32 → Int32 → Sg → Option (Int32 × Sg)) (H : Int32 → Int32 → Int32 → Int32 → Int32 → Sg → Option (Int32 × Sg)) (x1 : Int32) (x2 : Int32) (x3 : Int32) (x4 : Int32) (x5 : Int32) (σ : Sg) : Option (Int32 × Sg) := (if 5 ≤ x5 then K x1 x2 x3 x4 σ else e_cI (m_X7_has (σ 100 0) x5 σ) (fun r2 σ1 => (if r2 = 0 then b_X7_winner_57  K H x1 x2 x3 x5 x4 σ1 else e_gd (k_in x5 5) ((if (σ1 111 (Int32.toNatClampNeg x5)) = x3 then e_cI (m_X7_worth x5 σ1) (fun r5 σ4 => b_X7_winner_58  K H x1 x2 x3 x5 r5 x4 σ4) else b_X7_winner_57  K H x1 x2 x3 x5 x4 σ1)))))
def b_X7_winner_91  (K : Int32 → Sg → Option (Int32 × Sg)) (H : Int32 → Int32 → Int32 → Sg → Option (Int32 × Sg)) (x1 : Int32) (x3 : Int32) (s0 : Int32) (σ : Sg) : Option (Int32 × Sg) := H x1 s0 (x3 + 1) σ
def b_X7_winner_78  (K : Int32 → Sg → Option (Int32 × Sg)) (H : Int32 → Int32 → Int32 → Sg → Option (Int32 × Sg)) (x2 : Int32) (x3 : Int32) (x4 : Int32) (s0 : Int32) (σ : Sg) : Option (Int32 × Sg) := (if x4 ≤ x2 then b_X7_winner_91  K H s0 x3 x2 σ else b_X7_winner_91  K H s0 x3 x4 σ)
def d_X7_winner_6  (K : Int32 → Sg → Option (Int32 × Sg)) (H : Int32 → Int32 → Int32 → Sg → Option (Int32 × Sg)) (x1 : Int32) (x2 : Int32) (x3 : Int32) (σ : Sg) : Option (Int32 × Sg) := (if 3 ≤ x3 then K x1 σ else e_lp5 (d_X7_winner_17  (fun x1q6 x2q6 x3q6 x4q6 σ6 => (if x4q6 ≤ x2q6 then b_X7_winner_78  K H x2q6 x3q6 x4q6 x1q6 σ6 else b_X7_winner_78  K H x2q6 x3q6 x4q6 x3q6 σ6))) e_F x1 x2 x3 0 0 σ)
theorem ob_X7_winner_58 {G : KW} {l : Launch}   {K : Int32 → Int32 → Int32 → Int32 → Sg → Option (Int32 × Sg)} {H : Int32 → Int32 → Int32 → Int32 → Int32 → Sg → Option (Int32 × Sg)} (hK : ∀ (x1 : Int32) (x2 : Int32) (x3 : Int32) (x4 : Int32) (σ : Sg), Okk G l cX7_winner 6 RX7 (some .int) (rmo 1 23) ccI 67 [some (k_rr G 100), some (.int x1), some (.int x2), some (.int x3), some (.int x4), none] [] σ (K x1 x2 x3 x4 σ)) (hH : ∀ (x1 : Int32) (x2 : Int32) (x3 : Int32) (x4 : Int32) (x5 : Int32) (σ : Sg), Okk G l cX7_winner 6 RX7 (some .int) (rmo 1 23) ccI 17 [some (k_rr G 100), some (.int x1), some (.int x2), some (.int x3), some (.int x4), some (.int x5)] [] σ (H x1 x2 x3 x4 x5 σ)) (x1 : Int32) (x2 : Int32) (x3 : Int32) (x5 : Int32) (s0 : Int32) (s1 : Int32)  (σ : Sg) : Okk G l cX7_winner 6 RX7 (some .int) (rmo 1 23) ccI 58 [some (k_rr G 100), some (.int x1), some (.int x2), some (.int x3), none, some (.int x5)] [.int s0, .int s1] σ (b_X7_winner_58  K H x1 x2 x3 x5 s0 s1 σ) := by
  unfold b_X7_winner_58
  refine ok_iadd (dq_of td_X7_winner 33 rfl) ?_
  refine ok_gI (fun v3 => ?_)
  refine ok_istore4 (dq_of td_X7_winner 34 rfl) rfl (by decide) ?_
  refine ok_jinc5 (w := 1) (dq_of td_X7_winner 35 rfl) (by decide) rfl (by decide) ?_
  refine ok_goto (tgt := 17) (dq_of td_X7_winner 36 rfl) (by decide) ?_
  refine ok_wk (wk_s (wk_s (wk_s (wk_s (wk_s (wk_s wk_0)))))) ?_
  exact hH _ _ _ _ _ _
theorem ob_X7_winner_57 {G : KW} {l : Launch}   {K : Int32 → Int32 → Int32 → Int32 → Sg → Option (Int32 × Sg)} {H : Int32 → Int32 → Int32 → Int32 → Int32 → Sg → Option (Int32 × Sg)} (hK : ∀ (x1 : Int32) (x2 : Int32) (x3 : Int32) (x4 : Int32) (σ : Sg), Okk G l cX7_winner 6 RX7 (some .int) (rmo 1 23) ccI 67 [some (k_rr G 100), some (.int x1), some (.int x2), some (.int x3), some (.int x4), none] [] σ (K x1 x2 x3 x4 σ)) (hH : ∀ (x1 : Int32) (x2 : Int32) (x3 : Int32) (x4 : Int32) (x5 : Int32) (σ : Sg), Okk G l cX7_winner 6 RX7 (some .int) (rmo 1 23) ccI 17 [some (k_rr G 100), some (.int x1), some (.int x2), some (.int x3), some (.int x4), some (.int x5)] [] σ (H x1 x2 x3 x4 x5 σ)) (x1 : Int32) (x2 : Int32) (x3 : Int32) (x5 : Int32) (s0 : Int32)  (σ : Sg) : Okk G l cX7_winner 6 RX7 (some .int) (rmo 1 23) ccI 57 [some (k_rr G 100), some (.int x1), some (.int x2), some (.int x3), none, some (.int x5)] [.int s0] σ (b_X7_winner_57  K H x1 x2 x3 x5 s0 σ) := by
  unfold b_X7_winner_57
  refine ok_iconst (v := 0) (dq_of td_X7_winner 32 rfl) (by decide) ?_
  refine ok_wk (wk_s (wk_s (wk_s (wk_s (wk_n (wk_s wk_0)))))) ?_
  exact ob_X7_winner_58   hK hH _ _ _ _ _ _  _
theorem od_X7_winner_17 {G : KW} {l : Launch}   {K : Int32 → Int32 → Int32 → Int32 → Sg → Option (Int32 × Sg)} {H : Int32 → Int32 → Int32 → Int32 → Int32 → Sg → Option (Int32 × Sg)} (hK : ∀ (x1 : Int32) (x2 : Int32) (x3 : Int32) (x4 : Int32) (σ : Sg), Okk G l cX7_winner 6 RX7 (some .int) (rmo 1 23) ccI 67 [some (k_rr G 100), some (.int x1), some (.int x2), some (.int x3), some (.int x4), none] [] σ (K x1 x2 x3 x4 σ)) (hH : ∀ (x1 : Int32) (x2 : Int32) (x3 : Int32) (x4 : Int32) (x5 : Int32) (σ : Sg), Okk G l cX7_winner 6 RX7 (some .int) (rmo 1 23) ccI 17 [some (k_rr G 100), some (.int x1), some (.int x2), some (.int x3), some (.int x4), some (.int x5)] [] σ (H x1 x2 x3 x4 x5 σ)) (x1 : Int32) (x2 : Int32) (x3 : Int32) (x4 : Int32) (x5 : Int32)  (σ : Sg) : Okk G l cX7_winner 6 RX7 (some .int) (rmo 1 23) ccI 17 [some (k_rr G 100), some (.int x1), some (.int x2), some (.int x3), some (.int x4), some (.int x5)] [] σ (d_X7_winner_17  K H x1 x2 x3 x4 x5 σ) := by
  unfold d_X7_winner_17
  refine ok_iload5 (dq_of td_X7_winner 13 rfl) ?_
  refine ok_iconst (v := 5) (dq_of td_X7_winner 14 rfl) (by decide) ?_
  refine ok_ic_ge (tgt := 67) (dq_of td_X7_winner 15 rfl) (by decide) ?_ ?_
  · refine ok_wk (wk_s (wk_s (wk_s (wk_s (wk_s (wk_n wk_0)))))) ?_
    exact hK _ _ _ _ _
  · refine ok_iload4 (dq_of td_X7_winner 16 rfl) ?_
    refine ok_aload0 (dq_of td_X7_winner 17 rfl) ?_
    refine ok_get (v := .int (σ 100 0)) fl_X7_85 (by decide) ko_100 rfl (dq_of td_X7_winner 18 rfl) ?_
    refine ok_iload5 (dq_of td_X7_winner 19 rfl) ?_
    refine call_X7_has ml_X7_88  ⟨Nat.le_of_ble_eq_true rfl, Nat.le_of_ble_eq_true rfl⟩ ⟨Nat.zero_le _, Nat.zero_le _⟩ (Nat.le_of_ble_eq_true rfl) (dq_of td_X7_winner 20 rfl) (fun r2 σ1 => ?_)
    refine ok_if_eq (tgt := 57) (dq_of td_X7_winner 21 rfl) (by decide) ?_ ?_
    · refine ok_wk (wk_s (wk_s (wk_s (wk_s (wk_n (wk_s wk_0)))))) ?_
      exact ob_X7_winner_57   hK hH _ _ _ _ _  _
    · refine ok_aload0 (dq_of td_X7_winner 22 rfl) ?_
      refine ok_get (v := k_rr G 111) fl_X7_44 (by decide) ko_100 rfl (dq_of td_X7_winner 23 rfl) ?_
      refine ok_iload5 (dq_of td_X7_winner 24 rfl) ?_
      refine ok_iald ka_111 (dq_of td_X7_winner 25 rfl) ?_
      refine ok_iload3 (dq_of td_X7_winner 26 rfl) ?_
      refine ok_ic_ne (tgt := 57) (dq_of td_X7_winner 27 rfl) (by decide) ?_ ?_
      · refine ok_wk (wk_s (wk_s (wk_s (wk_s (wk_n (wk_s wk_0)))))) ?_
        exact ob_X7_winner_57   hK hH _ _ _ _ _  _
      · refine ok_aload0 (dq_of td_X7_winner 28 rfl) ?_
        refine ok_iload5 (dq_of td_X7_winner 29 rfl) ?_
        refine call_X7_worth ml_X7_123  ⟨Nat.le_of_ble_eq_true rfl, Nat.le_of_ble_eq_true rfl⟩ ⟨Nat.zero_le _, Nat.zero_le _⟩ (Nat.le_of_ble_eq_true rfl) (dq_of td_X7_winner 30 rfl) (fun r5 σ4 => ?_)
        refine ok_goto (tgt := 58) (dq_of td_X7_winner 31 rfl) (by decide) ?_
        refine ok_wk (wk_s (wk_s (wk_s (wk_s (wk_n (wk_s wk_0)))))) ?_
        exact ob_X7_winner_58   hK hH _ _ _ _ _ _  _
theorem ld_X7_winner_17 {G : KW} {l : Launch}   {K : Int32 → Int32 → Int32 → Int32 → Sg → Option (Int32 × Sg)} (hK : ∀ (x1 : Int32) (x2 : Int32) (x3 : Int32) (x4 : Int32) (σ : Sg), Okk G l cX7_winner 6 RX7 (some .int) (rmo 1 23) ccI 67 [some (k_rr G 100), some (.int x1), some (.int x2), some (.int x3), some (.int x4), none] [] σ (K x1 x2 x3 x4 σ)) (n : Nat) (x1 : Int32) (x2 : Int32) (x3 : Int32) (x4 : Int32) (x5 : Int32) (σ : Sg) : Okk G l cX7_winner 6 RX7 (some .int) (rmo 1 23) ccI 17 [some (k_rr G 100), some (.int x1), some (.int x2), some (.int x3), some (.int x4), some (.int x5)] [] σ (e_lp5 (d_X7_winner_17  K) n x1 x2 x3 x4 x5 σ) :=
  ok_lp5 (Lf := fun (x1 : Int32) (x2 : Int32) (x3 : Int32) (x4 : Int32) (x5 : Int32) => [some (k_rr G 100), some (.int x1), some (.int x2), some (.int x3), some (.int x4), some (.int x5)]) (fun _ hH x1 x2 x3 x4 x5 σ => od_X7_winner_17   hK hH x1 x2 x3 x4 x5 σ) n x1 x2 x3 x4 x5 σ
theorem ob_X7_winner_91 {G : KW} {l : Launch}   {K : Int32 → Sg → Option (Int32 × Sg)} {H : Int32 → Int32 → Int32 → Sg → Option (Int32 × Sg)} (hK : ∀ (x1 : Int32) (σ : Sg), Okk G l cX7_winner 6 RX7 (some .int) (rmo 1 23) ccI 98 [none, some (.int x1), none, none, none, none] [] σ (K x1 σ)) (hH : ∀ (x1 : Int32) (x2 : Int32) (x3 : Int32) (σ : Sg), Okk G l cX7_winner 6 RX7 (some .int) (rmo 1 23) ccI 6 [some (k_rr G 100), some (.int x1), some (.int x2), some (.int x3), none, none] [] σ (H x1 x2 x3 σ)) (x1 : Int32) (x3 : Int32) (s0 : Int32)  (σ : Sg) : Okk G l cX7_winner 6 RX7 (some .int) (rmo 1 23) ccI 91 [some (k_rr G 100), some (.int x1), none, some (.int x3), none, none] [.int s0] σ (b_X7_winner_91  K H x1 x3 s0 σ) := by
  unfold b_X7_winner_91
  refine ok_istore2 (dq_of td_X7_winner 50 rfl) rfl (by decide) ?_
  refine ok_jinc3 (w := 1) (dq_of td_X7_winner 51 rfl) (by decide) rfl (by decide) ?_
  refine ok_goto (tgt := 6) (dq_of td_X7_winner 52 rfl) (by decide) ?_
  refine ok_wk (wk_s (wk_s (wk_s (wk_s (wk_n (wk_n wk_0)))))) ?_
  exact hH _ _ _ _
theorem ob_X7_winner_78 {G : KW} {l : Launch}   {K : Int32 → Sg → Option (Int32 × Sg)} {H : Int32 → Int32 → Int32 → Sg → Option (Int32 × Sg)} (hK : ∀ (x1 : Int32) (σ : Sg), Okk G l cX7_winner 6 RX7 (some .int) (rmo 1 23) ccI 98 [none, some (.int x1), none, none, none, none] [] σ (K x1 σ)) (hH : ∀ (x1 : Int32) (x2 : Int32) (x3 : Int32) (σ : Sg), Okk G l cX7_winner 6 RX7 (some .int) (rmo 1 23) ccI 6 [some (k_rr G 100), some (.int x1), some (.int x2), some (.int x3), none, none] [] σ (H x1 x2 x3 σ)) (x2 : Int32) (x3 : Int32) (x4 : Int32) (s0 : Int32)  (σ : Sg) : Okk G l cX7_winner 6 RX7 (some .int) (rmo 1 23) ccI 78 [some (k_rr G 100), none, some (.int x2), some (.int x3), some (.int x4), none] [.int s0] σ (b_X7_winner_78  K H x2 x3 x4 s0 σ) := by
  unfold b_X7_winner_78
  refine ok_istore1 (dq_of td_X7_winner 43 rfl) rfl (by decide) ?_
  refine ok_iload4 (dq_of td_X7_winner 44 rfl) ?_
  refine ok_iload2 (dq_of td_X7_winner 45 rfl) ?_
  refine ok_ic_le (tgt := 90) (dq_of td_X7_winner 46 rfl) (by decide) ?_ ?_
  · refine ok_iload2 (dq_of td_X7_winner 49 rfl) ?_
    refine ok_wk (wk_s (wk_s (wk_n (wk_s (wk_n (wk_n wk_0)))))) ?_
    exact ob_X7_winner_91   hK hH _ _ _  _
  · refine ok_iload4 (dq_of td_X7_winner 47 rfl) ?_
    refine ok_goto (tgt := 91) (dq_of td_X7_winner 48 rfl) (by decide) ?_
    refine ok_wk (wk_s (wk_s (wk_n (wk_s (wk_n (wk_n wk_0)))))) ?_
    exact ob_X7_winner_91   hK hH _ _ _  _
theorem od_X7_winner_6 {G : KW} {l : Launch}   {K : Int32 → Sg → Option (Int32 × Sg)} {H : Int32 → Int32 → Int32 → Sg → Option (Int32 × Sg)} (hK : ∀ (x1 : Int32) (σ : Sg), Okk G l cX7_winner 6 RX7 (some .int) (rmo 1 23) ccI 98 [none, some (.int x1), none, none, none, none] [] σ (K x1 σ)) (hH : ∀ (x1 : Int32) (x2 : Int32) (x3 : Int32) (σ : Sg), Okk G l cX7_winner 6 RX7 (some .int) (rmo 1 23) ccI 6 [some (k_rr G 100), some (.int x1), some (.int x2), some (.int x3), none, none] [] σ (H x1 x2 x3 σ)) (x1 : Int32) (x2 : Int32) (x3 : Int32)  (σ : Sg) : Okk G l cX7_winner 6 RX7 (some .int) (rmo 1 23) ccI 6 [some (k_rr G 100), some (.int x1), some (.int x2), some (.int x3), none, none] [] σ (d_X7_winner_6  K H x1 x2 x3 σ) := by
  unfold d_X7_winner_6
  refine ok_iload3 (dq_of td_X7_winner 6 rfl) ?_
  refine ok_iconst (v := 3) (dq_of td_X7_winner 7 rfl) (by decide) ?_
  refine ok_ic_ge (tgt := 98) (dq_of td_X7_winner 8 rfl) (by decide) ?_ ?_
  · refine ok_wk (wk_n (wk_s (wk_n (wk_n (wk_n (wk_n wk_0)))))) ?_
    exact hK _ _
  · refine ok_iconst (v := 0) (dq_of td_X7_winner 9 rfl) (by decide) ?_
    refine ok_istore4 (dq_of td_X7_winner 10 rfl) rfl (by decide) ?_
    refine ok_iconst (v := 0) (dq_of td_X7_winner 11 rfl) (by decide) ?_
    refine ok_istore5 (dq_of td_X7_winner 12 rfl) rfl (by decide) ?_
    refine ok_wk (wk_s (wk_s (wk_s (wk_s (wk_s (wk_s wk_0)))))) ?_
    refine ld_X7_winner_17   (fun x1q6 x2q6 x3q6 x4q6 σ6 => ?_) _ _ _ _ _ _ _
    refine ok_iload4 (dq_of td_X7_winner 37 rfl) ?_
    refine ok_iload2 (dq_of td_X7_winner 38 rfl) ?_
    refine ok_ic_le (tgt := 77) (dq_of td_X7_winner 39 rfl) (by decide) ?_ ?_
    · refine ok_iload1 (dq_of td_X7_winner 42 rfl) ?_
      refine ok_wk (wk_s (wk_n (wk_s (wk_s (wk_s (wk_n wk_0)))))) ?_
      exact ob_X7_winner_78   hK hH _ _ _ _  _
    · refine ok_iload3 (dq_of td_X7_winner 40 rfl) ?_
      refine ok_goto (tgt := 78) (dq_of td_X7_winner 41 rfl) (by decide) ?_
      refine ok_wk (wk_s (wk_n (wk_s (wk_s (wk_s (wk_n wk_0)))))) ?_
      exact ob_X7_winner_78   hK hH _ _ _ _  _
theorem ld_X7_winner_6 {G : KW} {l : Launch}   {K : Int32 → Sg → Option (Int32 × Sg)} (hK : ∀ (x1 : Int32) (σ : Sg), Okk G l cX7_winner 6 RX7 (some .int) (rmo 1 23) ccI 98 [none, some (.int x1), none, none, none, none] [] σ (K x1 σ)) (n : Nat) (x1 : Int32) (x2 : Int32) (x3 : Int32) (σ : Sg) : Okk G l cX7_winner 6 RX7 (some .int) (rmo 1 23) ccI 6 [some (k_rr G 100), some (.int x1), some (.int x2), some (.int x3), none, none] [] σ (e_lp3 (d_X7_winner_6  K) n x1 x2 x3 σ) :=
  ok_lp3 (Lf := fun (x1 : Int32) (x2 : Int32) (x3 : Int32) => [some (k_rr G 100), some (.int x1), some (.int x2), some (.int x3), none, none]) (fun _ hH x1 x2 x3 σ => od_X7_winner_6   hK hH x1 x2 x3 σ) n x1 x2 x3 σ
def m_X7_winner  (σ : Sg) : Option (Int32 × Sg) := e_lp3 (d_X7_winner_6  (fun x1q7 σ7 => some (x1q7, σ7))) e_F 0 ((-1)) 0 σ
theorem om_X7_winner {G : KW} {l : Launch}   (σ : Sg) : Okk G l cX7_winner 6 RX7 (some .int) (rmo 1 23) ccI 0 [some (k_rr G 100), none, none, none, none, none] [] σ (m_X7_winner  σ) := by
  unfold m_X7_winner
  refine ok_iconst (v := 0) (dq_of td_X7_winner 0 rfl) (by decide) ?_
  refine ok_istore1 (dq_of td_X7_winner 1 rfl) rfl (by decide) ?_
  refine ok_iconst (v := (-1)) (dq_of td_X7_winner 2 rfl) (by decide) ?_
  refine ok_istore2 (dq_of td_X7_winner 3 rfl) rfl (by decide) ?_
  refine ok_iconst (v := 0) (dq_of td_X7_winner 4 rfl) (by decide) ?_
  refine ok_istore3 (dq_of td_X7_winner 5 rfl) rfl (by decide) ?_
  refine ok_wk (wk_s (wk_s (wk_s (wk_s (wk_n (wk_n wk_0)))))) ?_
  refine ld_X7_winner_6   (fun x1q7 σ7 => ?_) _ _ _ _ _
  refine ok_iload1 (dq_of td_X7_winner 53 rfl) ?_
  exact ok_iret (dq_of td_X7_winner 54 rfl)
theorem ct_X7_winner {G : KW} {l : Launch}   (σ : Sg) : ∀ b, m_X7_winner  σ = some b → MetF G l yX7_winner cX7_winner 6 (some .int) 1 23 [k_rr G 100] (k_wl G σ) (ccI b).1 (k_wl G (ccI b).2) :=
  met_of (by decide) (Nat.le_of_ble_eq_true rfl) rfl (om_X7_winner   σ)
theorem call_X7_winner {G : KW} {l : Launch} {cc : ByteArray} {nL : Nat} {own : String} {rt : Option FieldType} {R : Room} {α : Type} {X : State → Array Value → Method → Prop} {Z : α → List Frame → Array Value → State → State → Prop} {k0 n0 pc index : Nat} {L : List (Option Value)} {S : List Value} {σ : Sg} {F : Int32 → Sg → Option α}  (lk : MLk own index yX7_winner)  (hR : R.frames ≥ 1 + 1 ∧ R.locals ≥ 8 + (6 + 11) + 23) (hcs : k0 ≤ R.cells ∧ n0 ≤ R.slots) (hro : (S.map fun v => v.category).sum ≤ 8) (d : decode cc pc = .ok (.invokevirtual index, 3)) (kk : ∀ (r : Int32) (σ' : Sg), Okg G l cc nL own rt R X Z k0 n0 (pc + 3) L (.int r :: S) σ' (F r σ')) : Okg G l cc nL own rt R X Z k0 n0 pc L (k_rr G 100 :: S) σ (e_cI (m_X7_winner  σ) F) :=
  ok_cV (cb := ccI) (As := []) (ct_X7_winner   σ) mo_X7_winner hi_X7_winner lk rfl (ci := 7) rfl rfl (by decide) ko_100 hR rfl hcs hro d (fun b => kk b.1 b.2)
/-! CoatDinnerModel.elected(I)I -/
def b_X7_elected_59 (x1 : Int32) (K : Int32 → Sg → Option (Int32 × Sg)) (H : Int32 → Int32 → Sg → Option (Int32 × Sg)) (x3 : Int32) (s0 : Int32) (s1 : Int32) (σ : Sg) : Option (Int32 × Sg) := e_lt (s1 ||| s0) (fun v7 => H v7 (x3 + 1) σ)
def d_X7_elected_29 (x1 : Int32) (K : Int32 → Sg → Option (Int32 × Sg)) (H : Int32 → Int32 → Sg → Option (Int32 × Sg)) (x2 : Int32) (x3 : Int32) (σ : Sg) : Option (Int32 × Sg) := (if 7776 ≤ x3 then K x2 σ else e_cV (m_X7_dress x3 σ) (fun σ4 => e_cI (m_X7_isWay σ4) (fun r6 σ5 => (if r6 = 0 then b_X7_elected_59 x1 K H x3 0 x2 σ5 else e_cI (m_X7_winner σ5) (fun r9 σ8 => b_X7_elected_59 x1 K H x3 (jsl 1 r9) x2 σ8)))))
theorem ob_X7_elected_59 {G : KW} {l : Launch} (x1 : Int32)  {K : Int32 → Sg → Option (Int32 × Sg)} {H : Int32 → Int32 → Sg → Option (Int32 × Sg)} (hK : ∀ (x2 : Int32) (σ : Sg), Okk G l cX7_elected 4 RX7 (some .int) (rmo 3 66) ccI 67 [none, none, some (.int x2), none] [] σ (K x2 σ)) (hH : ∀ (x2 : Int32) (x3 : Int32) (σ : Sg), Okk G l cX7_elected 4 RX7 (some .int) (rmo 3 66) ccI 29 [some (k_rr G 100), none, some (.int x2), some (.int x3)] [] σ (H x2 x3 σ)) (x3 : Int32) (s0 : Int32) (s1 : Int32)  (σ : Sg) : Okk G l cX7_elected 4 RX7 (some .int) (rmo 3 66) ccI 59 [some (k_rr G 100), none, none, some (.int x3)] [.int s0, .int s1] σ (b_X7_elected_59 x1 K H x3 s0 s1 σ) := by
  unfold b_X7_elected_59
  refine ok_ior (dq_of td_X7_elected 34 rfl) ?_
  refine ok_gI (fun v7 => ?_)
  refine ok_istore2 (dq_of td_X7_elected 35 rfl) rfl (by decide) ?_
  refine ok_jinc3 (w := 1) (dq_of td_X7_elected 36 rfl) (by decide) rfl (by decide) ?_
  refine ok_goto (tgt := 29) (dq_of td_X7_elected 37 rfl) (by decide) ?_
  refine ok_wk (wk_s (wk_n (wk_s (wk_s wk_0)))) ?_
  exact hH _ _ _
theorem od_X7_elected_29 {G : KW} {l : Launch} (x1 : Int32)  {K : Int32 → Sg → Option (Int32 × Sg)} {H : Int32 → Int32 → Sg → Option (Int32 × Sg)} (hK : ∀ (x2 : Int32) (σ : Sg), Okk G l cX7_elected 4 RX7 (some .int) (rmo 3 66) ccI 67 [none, none, some (.int x2), none] [] σ (K x2 σ)) (hH : ∀ (x2 : Int32) (x3 : Int32) (σ : Sg), Okk G l cX7_elected 4 RX7 (some .int) (rmo 3 66) ccI 29 [some (k_rr G 100), none, some (.int x2), some (.int x3)] [] σ (H x2 x3 σ)) (x2 : Int32) (x3 : Int32)  (σ : Sg) : Okk G l cX7_elected 4 RX7 (some .int) (rmo 3 66) ccI 29 [some (k_rr G 100), none, some (.int x2), some (.int x3)] [] σ (d_X7_elected_29 x1 K H x2 x3 σ) := by
  unfold d_X7_elected_29
  refine ok_iload3 (dq_of td_X7_elected 18 rfl) ?_
  refine ok_sipush (v := 7776) (dq_of td_X7_elected 19 rfl) (by decide) ?_
  refine ok_ic_ge (tgt := 67) (dq_of td_X7_elected 20 rfl) (by decide) ?_ ?_
  · refine ok_wk (wk_n (wk_n (wk_s (wk_n wk_0)))) ?_
    exact hK _ _
  · refine ok_aload0 (dq_of td_X7_elected 21 rfl) ?_
    refine ok_iload3 (dq_of td_X7_elected 22 rfl) ?_
    refine call_X7_dress ml_X7_165  ⟨Nat.le_of_ble_eq_true rfl, Nat.le_of_ble_eq_true rfl⟩ ⟨Nat.zero_le _, Nat.zero_le _⟩ (Nat.le_of_ble_eq_true rfl) (dq_of td_X7_elected 23 rfl) (fun σ4 => ?_)
    refine ok_iload2 (dq_of td_X7_elected 24 rfl) ?_
    refine ok_aload0 (dq_of td_X7_elected 25 rfl) ?_
    refine call_X7_isWay ml_X7_182  ⟨Nat.le_of_ble_eq_true rfl, Nat.le_of_ble_eq_true rfl⟩ ⟨Nat.zero_le _, Nat.zero_le _⟩ (Nat.le_of_ble_eq_true rfl) (dq_of td_X7_elected 26 rfl) (fun r6 σ5 => ?_)
    refine ok_if_eq (tgt := 58) (dq_of td_X7_elected 27 rfl) (by decide) ?_ ?_
    · refine ok_iconst (v := 0) (dq_of td_X7_elected 33 rfl) (by decide) ?_
      refine ok_wk (wk_s (wk_n (wk_n (wk_s wk_0)))) ?_
      exact ob_X7_elected_59 _  hK hH _ _ _  _
    · refine ok_iconst (v := 1) (dq_of td_X7_elected 28 rfl) (by decide) ?_
      refine ok_aload0 (dq_of td_X7_elected 29 rfl) ?_
      refine call_X7_winner ml_X7_202  ⟨Nat.le_of_ble_eq_true rfl, Nat.le_of_ble_eq_true rfl⟩ ⟨Nat.zero_le _, Nat.zero_le _⟩ (Nat.le_of_ble_eq_true rfl) (dq_of td_X7_elected 30 rfl) (fun r9 σ8 => ?_)
      refine ok_ishl (dq_of td_X7_elected 31 rfl) ?_
      refine ok_goto (tgt := 59) (dq_of td_X7_elected 32 rfl) (by decide) ?_
      refine ok_wk (wk_s (wk_n (wk_n (wk_s wk_0)))) ?_
      exact ob_X7_elected_59 _  hK hH _ _ _  _
theorem ld_X7_elected_29 {G : KW} {l : Launch} (x1 : Int32)  {K : Int32 → Sg → Option (Int32 × Sg)} (hK : ∀ (x2 : Int32) (σ : Sg), Okk G l cX7_elected 4 RX7 (some .int) (rmo 3 66) ccI 67 [none, none, some (.int x2), none] [] σ (K x2 σ)) (n : Nat) (x2 : Int32) (x3 : Int32) (σ : Sg) : Okk G l cX7_elected 4 RX7 (some .int) (rmo 3 66) ccI 29 [some (k_rr G 100), none, some (.int x2), some (.int x3)] [] σ (e_lp2 (d_X7_elected_29 x1 K) n x2 x3 σ) :=
  ok_lp2 (Lf := fun (x2 : Int32) (x3 : Int32) => [some (k_rr G 100), none, some (.int x2), some (.int x3)]) (fun _ hH x2 x3 σ => od_X7_elected_29 _  hK hH x2 x3 σ) n x2 x3 σ
def m_X7_elected (x1 : Int32) (σ : Sg) : Option (Int32 × Sg) := e_cI (m_X7_in x1 0 1 σ) (fun r2 σ1 => (if r2 = 0 then some ((-2), σ1) else e_cV (m_X7_asNow σ1) (fun σ3 => (if x1 = 0 then e_cI (m_X7_winner σ3) (fun r12 σ11 => some (r12, σ11)) else e_lp2 (d_X7_elected_29 x1 (fun x2q10 σ10 => (if x2q10 = 1 then some (0, σ10) else (if x2q10 = 2 then some (1, σ10) else (if x2q10 = 4 then some (2, σ10) else some ((-6), σ10)))))) e_F 0 0 σ3))))
theorem om_X7_elected {G : KW} {l : Launch} (x1 : Int32)  (σ : Sg) : Okk G l cX7_elected 4 RX7 (some .int) (rmo 3 66) ccI 0 [some (k_rr G 100), some (.int x1), none, none] [] σ (m_X7_elected x1 σ) := by
  unfold m_X7_elected
  refine ok_iload1 (dq_of td_X7_elected 0 rfl) ?_
  refine ok_iconst (v := 0) (dq_of td_X7_elected 1 rfl) (by decide) ?_
  refine ok_iconst (v := 1) (dq_of td_X7_elected 2 rfl) (by decide) ?_
  refine call_X7_in ml_X7_81  ⟨Nat.le_of_ble_eq_true rfl, Nat.le_of_ble_eq_true rfl⟩ ⟨Nat.zero_le _, Nat.zero_le _⟩ (Nat.le_of_ble_eq_true rfl) (dq_of td_X7_elected 3 rfl) (fun r2 σ1 => ?_)
  refine ok_if_ne (tgt := 12) (dq_of td_X7_elected 4 rfl) (by decide) ?_ ?_
  · refine ok_aload0 (dq_of td_X7_elected 7 rfl) ?_
    refine call_X7_asNow ml_X7_132  ⟨Nat.le_of_ble_eq_true rfl, Nat.le_of_ble_eq_true rfl⟩ ⟨Nat.zero_le _, Nat.zero_le _⟩ (Nat.le_of_ble_eq_true rfl) (dq_of td_X7_elected 8 rfl) (fun σ3 => ?_)
    refine ok_iload1 (dq_of td_X7_elected 9 rfl) ?_
    refine ok_if_ne (tgt := 25) (dq_of td_X7_elected 10 rfl) (by decide) ?_ ?_
    · refine ok_iconst (v := 0) (dq_of td_X7_elected 14 rfl) (by decide) ?_
      refine ok_istore2 (dq_of td_X7_elected 15 rfl) rfl (by decide) ?_
      refine ok_iconst (v := 0) (dq_of td_X7_elected 16 rfl) (by decide) ?_
      refine ok_istore3 (dq_of td_X7_elected 17 rfl) rfl (by decide) ?_
      refine ok_wk (wk_s (wk_n (wk_s (wk_s wk_0)))) ?_
      refine ld_X7_elected_29 _  (fun x2q10 σ10 => ?_) _ _ _ _
      refine ok_iload2 (dq_of td_X7_elected 38 rfl) ?_
      refine ok_iconst (v := 1) (dq_of td_X7_elected 39 rfl) (by decide) ?_
      refine ok_ic_ne (tgt := 76) (dq_of td_X7_elected 40 rfl) (by decide) ?_ ?_
      · refine ok_iload2 (dq_of td_X7_elected 43 rfl) ?_
        refine ok_iconst (v := 2) (dq_of td_X7_elected 44 rfl) (by decide) ?_
        refine ok_ic_ne (tgt := 85) (dq_of td_X7_elected 45 rfl) (by decide) ?_ ?_
        · refine ok_iload2 (dq_of td_X7_elected 48 rfl) ?_
          refine ok_iconst (v := 4) (dq_of td_X7_elected 49 rfl) (by decide) ?_
          refine ok_ic_ne (tgt := 94) (dq_of td_X7_elected 50 rfl) (by decide) ?_ ?_
          · refine ok_bipush (v := (-6)) (dq_of td_X7_elected 53 rfl) (by decide) ?_
            exact ok_iret (dq_of td_X7_elected 54 rfl)
          · refine ok_iconst (v := 2) (dq_of td_X7_elected 51 rfl) (by decide) ?_
            refine ok_goto (tgt := 96) (dq_of td_X7_elected 52 rfl) (by decide) ?_
            exact ok_iret (dq_of td_X7_elected 54 rfl)
        · refine ok_iconst (v := 1) (dq_of td_X7_elected 46 rfl) (by decide) ?_
          refine ok_goto (tgt := 96) (dq_of td_X7_elected 47 rfl) (by decide) ?_
          exact ok_iret (dq_of td_X7_elected 54 rfl)
      · refine ok_iconst (v := 0) (dq_of td_X7_elected 41 rfl) (by decide) ?_
        refine ok_goto (tgt := 96) (dq_of td_X7_elected 42 rfl) (by decide) ?_
        exact ok_iret (dq_of td_X7_elected 54 rfl)
    · refine ok_aload0 (dq_of td_X7_elected 11 rfl) ?_
      refine call_X7_winner ml_X7_202  ⟨Nat.le_of_ble_eq_true rfl, Nat.le_of_ble_eq_true rfl⟩ ⟨Nat.zero_le _, Nat.zero_le _⟩ (Nat.le_of_ble_eq_true rfl) (dq_of td_X7_elected 12 rfl) (fun r12 σ11 => ?_)
      exact ok_iret (dq_of td_X7_elected 13 rfl)
  · refine ok_bipush (v := (-2)) (dq_of td_X7_elected 5 rfl) (by decide) ?_
    exact ok_iret (dq_of td_X7_elected 6 rfl)
theorem ct_X7_elected {G : KW} {l : Launch} (x1 : Int32)  (σ : Sg) : ∀ b, m_X7_elected x1 σ = some b → MetF G l yX7_elected cX7_elected 4 (some .int) 3 66 [k_rr G 100, .int x1] (k_wl G σ) (ccI b).1 (k_wl G (ccI b).2) :=
  met_of (by decide) (Nat.le_of_ble_eq_true rfl) rfl (om_X7_elected _  σ)
theorem call_X7_elected {G : KW} {l : Launch} {cc : ByteArray} {nL : Nat} {own : String} {rt : Option FieldType} {R : Room} {α : Type} {X : State → Array Value → Method → Prop} {Z : α → List Frame → Array Value → State → State → Prop} {k0 n0 pc index : Nat} {L : List (Option Value)} {S : List Value} {σ : Sg} {F : Int32 → Sg → Option α} {x1 : Int32} (lk : MLk own index yX7_elected)  (hR : R.frames ≥ 3 + 1 ∧ R.locals ≥ 8 + (4 + 11) + 66) (hcs : k0 ≤ R.cells ∧ n0 ≤ R.slots) (hro : (S.map fun v => v.category).sum ≤ 8) (d : decode cc pc = .ok (.invokevirtual index, 3)) (kk : ∀ (r : Int32) (σ' : Sg), Okg G l cc nL own rt R X Z k0 n0 (pc + 3) L (.int r :: S) σ' (F r σ')) : Okg G l cc nL own rt R X Z k0 n0 pc L (.int x1 :: k_rr G 100 :: S) σ (e_cI (m_X7_elected x1 σ) F) :=
  ok_cV (cb := ccI) (As := [.int x1]) (ct_X7_elected _  σ) mo_X7_elected hi_X7_elected lk rfl (ci := 7) rfl rfl (by decide) ko_100 hR rfl hcs hro d (fun b => kk b.1 b.2)
/-! CoatDinnerModel.moths(III)J -/
def b_X7_moths_121 (x1 : Int32) (x2 : Int32) (x3 : Int32) (K : Int64 → Int32 → Int64 → Sg → Option (Int64 × Sg)) (H : Int64 → Int32 → Int64 → Int32 → Sg → Option (Int64 × Sg)) (x4 : Int64) (x6 : Int32) (x9 : Int32) (s0 : Int64) (s1 : Int64) (σ : Sg) : Option (Int64 × Sg) := e_lt (s1 * s0) (fun v12 => H x4 x6 v12 (x9 + 1) σ)
def b_X7_moths_95 (x1 : Int32) (x2 : Int32) (x3 : Int32) (K : Int64 → Int32 → Int64 → Sg → Option (Int64 × Sg)) (H : Int64 → Int32 → Int64 → Int32 → Sg → Option (Int64 × Sg)) (x4 : Int64) (x6 : Int32) (x7 : Int64) (x9 : Int32) (s0 : Int32) (σ : Sg) : Option (Int64 × Sg) := e_cI (m_X7_has x6 x9 σ) (fun r11 σ10 => (if r11 = 0 then b_X7_moths_121 x1 x2 x3 K H x4 x6 x9 (Int32.toInt64 (10 - s0)) x7 σ10 else b_X7_moths_121 x1 x2 x3 K H x4 x6 x9 (Int32.toInt64 s0) x7 σ10))
def b_X7_moths_94 (x1 : Int32) (x2 : Int32) (x3 : Int32) (K : Int64 → Int32 → Int64 → Sg → Option (Int64 × Sg)) (H : Int64 → Int32 → Int64 → Int32 → Sg → Option (Int64 × Sg)) (x4 : Int64) (x6 : Int32) (x7 : Int64) (x9 : Int32) (σ : Sg) : Option (Int64 × Sg) := b_X7_moths_95 x1 x2 x3 K H x4 x6 x7 x9 0 σ
def d_X7_moths_57 (x1 : Int32) (x2 : Int32) (x3 : Int32) (K : Int64 → Int32 → Int64 → Sg → Option (Int64 × Sg)) (H : Int64 → Int32 → Int64 → Int32 → Sg → Option (Int64 × Sg)) (x4 : Int64) (x6 : Int32) (x7 : Int64) (x9 : Int32) (σ : Sg) : Option (Int64 × Sg) := (if 5 ≤ x9 then K x4 x6 x7 σ else e_cI (m_X7_has (σ 100 1) x9 σ) (fun r9 σ8 => (if r9 = 0 then b_X7_moths_94 x1 x2 x3 K H x4 x6 x7 x9 σ8 else e_cI (m_X7_wearers x9 σ8) (fun r14 σ13 => (if r14 = 0 then b_X7_moths_94 x1 x2 x3 K H x4 x6 x7 x9 σ13 else e_gd (k_in x9 5) (b_X7_moths_95 x1 x2 x3 K H x4 x6 x7 x9 (σ13 104 (Int32.toNatClampNeg x9)) σ13))))))
def b_X7_moths_182 (x1 : Int32) (x2 : Int32) (x3 : Int32) (K : Int64 → Int32 → Int64 → Sg → Option (Int64 × Sg)) (H : Int64 → Int32 → Int64 → Int32 → Sg → Option (Int64 × Sg)) (x4 : Int64) (x6 : Int32) (x7 : Int64) (x9 : Int32) (s0 : Int32) (s1 : Int32) (s2 : Nat) (σ : Sg) : Option (Int64 × Sg) := e_gd (k_ar s2) (e_wr σ s2 s1 (k_ln s2) s0 (fun σ16 => H x4 x6 x7 (x9 + 1) σ16))
def b_X7_moths_175 (x1 : Int32) (x2 : Int32) (x3 : Int32) (K : Int64 → Int32 → Int64 → Sg → Option (Int64 × Sg)) (H : Int64 → Int32 → Int64 → Int32 → Sg → Option (Int64 × Sg)) (x4 : Int64) (x6 : Int32) (x7 : Int64) (x9 : Int32) (s0 : Int32) (s1 : Nat) (σ : Sg) : Option (Int64 × Sg) := e_gd (k_in x9 5) (b_X7_moths_182 x1 x2 x3 K H x4 x6 x7 x9 (σ 114 (Int32.toNatClampNeg x9)) s0 s1 σ)
def d_X7_moths_133 (x1 : Int32) (x2 : Int32) (x3 : Int32) (K : Int64 → Int32 → Int64 → Sg → Option (Int64 × Sg)) (H : Int64 → Int32 → Int64 → Int32 → Sg → Option (Int64 × Sg)) (x4 : Int64) (x6 : Int32) (x7 : Int64) (x9 : Int32) (σ : Sg) : Option (Int64 × Sg) := (if 5 ≤ x9 then K x4 x6 x7 σ else e_gd (k_in x9 5) ((if 5 ≤ (σ 114 (Int32.toNatClampNeg x9)) then b_X7_moths_175 x1 x2 x3 K H x4 x6 x7 x9 x9 114 σ else e_gd (k_in x9 5) (e_cI (m_X7_has x6 (σ 114 (Int32.toNatClampNeg x9)) σ) (fun r19 σ18 => (if r19 = 0 then b_X7_moths_175 x1 x2 x3 K H x4 x6 x7 x9 x9 114 σ18 else b_X7_moths_182 x1 x2 x3 K H x4 x6 x7 x9 5 x9 114 σ18))))))
def b_X7_moths_206 (x1 : Int32) (x2 : Int32) (x3 : Int32) (K : Int64 → Sg → Option (Int64 × Sg)) (H : Int64 → Int32 → Sg → Option (Int64 × Sg)) (x6 : Int32) (s0 : Int64) (s1 : Int64) (σ : Sg) : Option (Int64 × Sg) := e_lt (s1 + s0) (fun v23 => H v23 (x6 + 1) σ)
def d_X7_moths_40 (x1 : Int32) (x2 : Int32) (x3 : Int32) (K : Int64 → Sg → Option (Int64 × Sg)) (H : Int64 → Int32 → Sg → Option (Int64 × Sg)) (x4 : Int64) (x6 : Int32) (σ : Sg) : Option (Int64 × Sg) := (if 32 ≤ x6 then K x4 σ else e_cV (m_X7_asNow σ) (fun σ7 => e_lp4 (d_X7_moths_57 x1 x2 x3 (fun x4q15 x6q15 x7q15 σ15 => e_lp4 (d_X7_moths_133 x1 x2 x3 (fun x4q20 x6q20 x7q20 σ20 => e_cI (m_X7_seatOf x1 σ20) (fun r22 σ21 => (if r22 = x2 then b_X7_moths_206 x1 x2 x3 K H x6q20 x7q20 x4q20 σ21 else b_X7_moths_206 x1 x2 x3 K H x6q20 0 x4q20 σ21)))) e_F x4q15 x6q15 x7q15 0 σ15)) e_F x4 x6 1 0 σ7))
def d_X7_moths_224 (x1 : Int32) (x2 : Int32) (x3 : Int32) (K : Int64 → Int64 → Sg → Option (Int64 × Sg)) (H : Int64 → Int64 → Int64 → Sg → Option (Int64 × Sg)) (x4 : Int64) (x6 : Int64) (x8 : Int64) (σ : Sg) : Option (Int64 × Sg) := (if (lg_cmp x8 0) = 0 then K x4 x6 σ else if x8 = 0 then none else e_lt (jrl x6 x8) (fun v25 => H x4 x8 v25 σ))
theorem ob_X7_moths_121 {G : KW} {l : Launch} (x1 : Int32) (x2 : Int32) (x3 : Int32)  {K : Int64 → Int32 → Int64 → Sg → Option (Int64 × Sg)} {H : Int64 → Int32 → Int64 → Int32 → Sg → Option (Int64 × Sg)} (hK : ∀ (x4 : Int64) (x6 : Int32) (x7 : Int64) (σ : Sg), Okk G l cX7_moths 12 RX7 (some .long) (rmo 2 47) ccJ 130 [some (k_rr G 100), some (.int x1), some (.int x2), some (.int x3), some (.long x4), none, some (.int x6), some (.long x7), none, none, none, none] [] σ (K x4 x6 x7 σ)) (hH : ∀ (x4 : Int64) (x6 : Int32) (x7 : Int64) (x9 : Int32) (σ : Sg), Okk G l cX7_moths 12 RX7 (some .long) (rmo 2 47) ccJ 57 [some (k_rr G 100), some (.int x1), some (.int x2), some (.int x3), some (.long x4), none, some (.int x6), some (.long x7), none, some (.int x9), none, none] [] σ (H x4 x6 x7 x9 σ)) (x4 : Int64) (x6 : Int32) (x9 : Int32) (s0 : Int64) (s1 : Int64)  (σ : Sg) : Okk G l cX7_moths 12 RX7 (some .long) (rmo 2 47) ccJ 121 [some (k_rr G 100), some (.int x1), some (.int x2), some (.int x3), some (.long x4), none, some (.int x6), none, none, some (.int x9), none, none] [.long s0, .long s1] σ (b_X7_moths_121 x1 x2 x3 K H x4 x6 x9 s0 s1 σ) := by
  unfold b_X7_moths_121
  refine ok_lmul (dq_of td_X7_moths 62 rfl) ?_
  refine ok_gJ (fun v12 => ?_)
  refine ok_lstore7 (dq_of td_X7_moths 63 rfl) rfl (by decide) ?_
  refine ok_jinc9 (w := 1) (dq_of td_X7_moths 64 rfl) (by decide) rfl (by decide) ?_
  refine ok_goto (tgt := 57) (dq_of td_X7_moths 65 rfl) (by decide) ?_
  refine ok_wk (wk_s (wk_s (wk_s (wk_s (wk_s (wk_n (wk_s (wk_s (wk_n (wk_s (wk_n (wk_n wk_0)))))))))))) ?_
  exact hH _ _ _ _ _
theorem ob_X7_moths_95 {G : KW} {l : Launch} (x1 : Int32) (x2 : Int32) (x3 : Int32)  {K : Int64 → Int32 → Int64 → Sg → Option (Int64 × Sg)} {H : Int64 → Int32 → Int64 → Int32 → Sg → Option (Int64 × Sg)} (hK : ∀ (x4 : Int64) (x6 : Int32) (x7 : Int64) (σ : Sg), Okk G l cX7_moths 12 RX7 (some .long) (rmo 2 47) ccJ 130 [some (k_rr G 100), some (.int x1), some (.int x2), some (.int x3), some (.long x4), none, some (.int x6), some (.long x7), none, none, none, none] [] σ (K x4 x6 x7 σ)) (hH : ∀ (x4 : Int64) (x6 : Int32) (x7 : Int64) (x9 : Int32) (σ : Sg), Okk G l cX7_moths 12 RX7 (some .long) (rmo 2 47) ccJ 57 [some (k_rr G 100), some (.int x1), some (.int x2), some (.int x3), some (.long x4), none, some (.int x6), some (.long x7), none, some (.int x9), none, none] [] σ (H x4 x6 x7 x9 σ)) (x4 : Int64) (x6 : Int32) (x7 : Int64) (x9 : Int32) (s0 : Int32)  (σ : Sg) : Okk G l cX7_moths 12 RX7 (some .long) (rmo 2 47) ccJ 95 [some (k_rr G 100), some (.int x1), some (.int x2), some (.int x3), some (.long x4), none, some (.int x6), some (.long x7), none, some (.int x9), none, none] [.int s0] σ (b_X7_moths_95 x1 x2 x3 K H x4 x6 x7 x9 s0 σ) := by
  unfold b_X7_moths_95
  refine ok_istore10 (dq_of td_X7_moths 49 rfl) rfl (by decide) ?_
  refine ok_lload7 (dq_of td_X7_moths 50 rfl) ?_
  refine ok_iload6 (dq_of td_X7_moths 51 rfl) ?_
  refine ok_iload9 (dq_of td_X7_moths 52 rfl) ?_
  refine call_X7_has ml_X7_88  ⟨Nat.le_of_ble_eq_true rfl, Nat.le_of_ble_eq_true rfl⟩ ⟨Nat.zero_le _, Nat.zero_le _⟩ (Nat.le_of_ble_eq_true rfl) (dq_of td_X7_moths 53 rfl) (fun r11 σ10 => ?_)
  refine ok_if_eq (tgt := 115) (dq_of td_X7_moths 54 rfl) (by decide) ?_ ?_
  · refine ok_bipush (v := 10) (dq_of td_X7_moths 58 rfl) (by decide) ?_
    refine ok_iload10 (dq_of td_X7_moths 59 rfl) ?_
    refine ok_isub (dq_of td_X7_moths 60 rfl) ?_
    refine ok_i2l (dq_of td_X7_moths 61 rfl) ?_
    refine ok_wk (wk_s (wk_s (wk_s (wk_s (wk_s (wk_n (wk_s (wk_n (wk_n (wk_s (wk_n (wk_n wk_0)))))))))))) ?_
    exact ob_X7_moths_121 _ _ _  hK hH _ _ _ _ _  _
  · refine ok_iload10 (dq_of td_X7_moths 55 rfl) ?_
    refine ok_i2l (dq_of td_X7_moths 56 rfl) ?_
    refine ok_goto (tgt := 121) (dq_of td_X7_moths 57 rfl) (by decide) ?_
    refine ok_wk (wk_s (wk_s (wk_s (wk_s (wk_s (wk_n (wk_s (wk_n (wk_n (wk_s (wk_n (wk_n wk_0)))))))))))) ?_
    exact ob_X7_moths_121 _ _ _  hK hH _ _ _ _ _  _
theorem ob_X7_moths_94 {G : KW} {l : Launch} (x1 : Int32) (x2 : Int32) (x3 : Int32)  {K : Int64 → Int32 → Int64 → Sg → Option (Int64 × Sg)} {H : Int64 → Int32 → Int64 → Int32 → Sg → Option (Int64 × Sg)} (hK : ∀ (x4 : Int64) (x6 : Int32) (x7 : Int64) (σ : Sg), Okk G l cX7_moths 12 RX7 (some .long) (rmo 2 47) ccJ 130 [some (k_rr G 100), some (.int x1), some (.int x2), some (.int x3), some (.long x4), none, some (.int x6), some (.long x7), none, none, none, none] [] σ (K x4 x6 x7 σ)) (hH : ∀ (x4 : Int64) (x6 : Int32) (x7 : Int64) (x9 : Int32) (σ : Sg), Okk G l cX7_moths 12 RX7 (some .long) (rmo 2 47) ccJ 57 [some (k_rr G 100), some (.int x1), some (.int x2), some (.int x3), some (.long x4), none, some (.int x6), some (.long x7), none, some (.int x9), none, none] [] σ (H x4 x6 x7 x9 σ)) (x4 : Int64) (x6 : Int32) (x7 : Int64) (x9 : Int32)  (σ : Sg) : Okk G l cX7_moths 12 RX7 (some .long) (rmo 2 47) ccJ 94 [some (k_rr G 100), some (.int x1), some (.int x2), some (.int x3), some (.long x4), none, some (.int x6), some (.long x7), none, some (.int x9), none, none] [] σ (b_X7_moths_94 x1 x2 x3 K H x4 x6 x7 x9 σ) := by
  unfold b_X7_moths_94
  refine ok_iconst (v := 0) (dq_of td_X7_moths 48 rfl) (by decide) ?_
  refine ok_wk (wk_s (wk_s (wk_s (wk_s (wk_s (wk_n (wk_s (wk_s (wk_n (wk_s (wk_n (wk_n wk_0)))))))))))) ?_
  exact ob_X7_moths_95 _ _ _  hK hH _ _ _ _ _  _
theorem od_X7_moths_57 {G : KW} {l : Launch} (x1 : Int32) (x2 : Int32) (x3 : Int32)  {K : Int64 → Int32 → Int64 → Sg → Option (Int64 × Sg)} {H : Int64 → Int32 → Int64 → Int32 → Sg → Option (Int64 × Sg)} (hK : ∀ (x4 : Int64) (x6 : Int32) (x7 : Int64) (σ : Sg), Okk G l cX7_moths 12 RX7 (some .long) (rmo 2 47) ccJ 130 [some (k_rr G 100), some (.int x1), some (.int x2), some (.int x3), some (.long x4), none, some (.int x6), some (.long x7), none, none, none, none] [] σ (K x4 x6 x7 σ)) (hH : ∀ (x4 : Int64) (x6 : Int32) (x7 : Int64) (x9 : Int32) (σ : Sg), Okk G l cX7_moths 12 RX7 (some .long) (rmo 2 47) ccJ 57 [some (k_rr G 100), some (.int x1), some (.int x2), some (.int x3), some (.long x4), none, some (.int x6), some (.long x7), none, some (.int x9), none, none] [] σ (H x4 x6 x7 x9 σ)) (x4 : Int64) (x6 : Int32) (x7 : Int64) (x9 : Int32)  (σ : Sg) : Okk G l cX7_moths 12 RX7 (some .long) (rmo 2 47) ccJ 57 [some (k_rr G 100), some (.int x1), some (.int x2), some (.int x3), some (.long x4), none, some (.int x6), some (.long x7), none, some (.int x9), none, none] [] σ (d_X7_moths_57 x1 x2 x3 K H x4 x6 x7 x9 σ) := by
  unfold d_X7_moths_57
  refine ok_iload9 (dq_of td_X7_moths 31 rfl) ?_
  refine ok_iconst (v := 5) (dq_of td_X7_moths 32 rfl) (by decide) ?_
  refine ok_ic_ge (tgt := 130) (dq_of td_X7_moths 33 rfl) (by decide) ?_ ?_
  · refine ok_wk (wk_s (wk_s (wk_s (wk_s (wk_s (wk_n (wk_s (wk_s (wk_n (wk_n (wk_n (wk_n wk_0)))))))))))) ?_
    exact hK _ _ _ _
  · refine ok_aload0 (dq_of td_X7_moths 34 rfl) ?_
    refine ok_get (v := .int (σ 100 1)) fl_X7_92 (by decide) ko_100 rfl (dq_of td_X7_moths 35 rfl) ?_
    refine ok_iload9 (dq_of td_X7_moths 36 rfl) ?_
    refine call_X7_has ml_X7_88  ⟨Nat.le_of_ble_eq_true rfl, Nat.le_of_ble_eq_true rfl⟩ ⟨Nat.zero_le _, Nat.zero_le _⟩ (Nat.le_of_ble_eq_true rfl) (dq_of td_X7_moths 37 rfl) (fun r9 σ8 => ?_)
    refine ok_if_eq (tgt := 94) (dq_of td_X7_moths 38 rfl) (by decide) ?_ ?_
    · refine ok_wk (wk_s (wk_s (wk_s (wk_s (wk_s (wk_n (wk_s (wk_s (wk_n (wk_s (wk_n (wk_n wk_0)))))))))))) ?_
      exact ob_X7_moths_94 _ _ _  hK hH _ _ _ _  _
    · refine ok_aload0 (dq_of td_X7_moths 39 rfl) ?_
      refine ok_iload9 (dq_of td_X7_moths 40 rfl) ?_
      refine call_X7_wearers ml_X7_110  ⟨Nat.le_of_ble_eq_true rfl, Nat.le_of_ble_eq_true rfl⟩ ⟨Nat.zero_le _, Nat.zero_le _⟩ (Nat.le_of_ble_eq_true rfl) (dq_of td_X7_moths 41 rfl) (fun r14 σ13 => ?_)
      refine ok_if_eq (tgt := 94) (dq_of td_X7_moths 42 rfl) (by decide) ?_ ?_
      · refine ok_wk (wk_s (wk_s (wk_s (wk_s (wk_s (wk_n (wk_s (wk_s (wk_n (wk_s (wk_n (wk_n wk_0)))))))))))) ?_
        exact ob_X7_moths_94 _ _ _  hK hH _ _ _ _  _
      · refine ok_aload0 (dq_of td_X7_moths 43 rfl) ?_
        refine ok_get (v := k_rr G 104) fl_X7_19 (by decide) ko_100 rfl (dq_of td_X7_moths 44 rfl) ?_
        refine ok_iload9 (dq_of td_X7_moths 45 rfl) ?_
        refine ok_iald ka_104 (dq_of td_X7_moths 46 rfl) ?_
        refine ok_goto (tgt := 95) (dq_of td_X7_moths 47 rfl) (by decide) ?_
        refine ok_wk (wk_s (wk_s (wk_s (wk_s (wk_s (wk_n (wk_s (wk_s (wk_n (wk_s (wk_n (wk_n wk_0)))))))))))) ?_
        exact ob_X7_moths_95 _ _ _  hK hH _ _ _ _ _  _
theorem ld_X7_moths_57 {G : KW} {l : Launch} (x1 : Int32) (x2 : Int32) (x3 : Int32)  {K : Int64 → Int32 → Int64 → Sg → Option (Int64 × Sg)} (hK : ∀ (x4 : Int64) (x6 : Int32) (x7 : Int64) (σ : Sg), Okk G l cX7_moths 12 RX7 (some .long) (rmo 2 47) ccJ 130 [some (k_rr G 100), some (.int x1), some (.int x2), some (.int x3), some (.long x4), none, some (.int x6), some (.long x7), none, none, none, none] [] σ (K x4 x6 x7 σ)) (n : Nat) (x4 : Int64) (x6 : Int32) (x7 : Int64) (x9 : Int32) (σ : Sg) : Okk G l cX7_moths 12 RX7 (some .long) (rmo 2 47) ccJ 57 [some (k_rr G 100), some (.int x1), some (.int x2), some (.int x3), some (.long x4), none, some (.int x6), some (.long x7), none, some (.int x9), none, none] [] σ (e_lp4 (d_X7_moths_57 x1 x2 x3 K) n x4 x6 x7 x9 σ) :=
  ok_lp4 (Lf := fun (x4 : Int64) (x6 : Int32) (x7 : Int64) (x9 : Int32) => [some (k_rr G 100), some (.int x1), some (.int x2), some (.int x3), some (.long x4), none, some (.int x6), some (.long x7), none, some (.int x9), none, none]) (fun _ hH x4 x6 x7 x9 σ => od_X7_moths_57 _ _ _  hK hH x4 x6 x7 x9 σ) n x4 x6 x7 x9 σ
theorem ob_X7_moths_182 {G : KW} {l : Launch} (x1 : Int32) (x2 : Int32) (x3 : Int32)  {K : Int64 → Int32 → Int64 → Sg → Option (Int64 × Sg)} {H : Int64 → Int32 → Int64 → Int32 → Sg → Option (Int64 × Sg)} (hK : ∀ (x4 : Int64) (x6 : Int32) (x7 : Int64) (σ : Sg), Okk G l cX7_moths 12 RX7 (some .long) (rmo 2 47) ccJ 189 [some (k_rr G 100), some (.int x1), some (.int x2), some (.int x3), some (.long x4), none, some (.int x6), some (.long x7), none, none, none, none] [] σ (K x4 x6 x7 σ)) (hH : ∀ (x4 : Int64) (x6 : Int32) (x7 : Int64) (x9 : Int32) (σ : Sg), Okk G l cX7_moths 12 RX7 (some .long) (rmo 2 47) ccJ 133 [some (k_rr G 100), some (.int x1), some (.int x2), some (.int x3), some (.long x4), none, some (.int x6), some (.long x7), none, some (.int x9), none, none] [] σ (H x4 x6 x7 x9 σ)) (x4 : Int64) (x6 : Int32) (x7 : Int64) (x9 : Int32) (s0 : Int32) (s1 : Int32) (s2 : Nat)  (σ : Sg) : Okk G l cX7_moths 12 RX7 (some .long) (rmo 2 47) ccJ 182 [some (k_rr G 100), some (.int x1), some (.int x2), some (.int x3), some (.long x4), none, some (.int x6), some (.long x7), none, some (.int x9), none, none] [.int s0, .int s1, k_rr G s2] σ (b_X7_moths_182 x1 x2 x3 K H x4 x6 x7 x9 s0 s1 s2 σ) := by
  unfold b_X7_moths_182
  refine ok_gd (fun hg17 => ?_)
  refine ok_iast (k_ar_of hg17) (dq_of td_X7_moths 93 rfl) (fun σ16 => ?_)
  refine ok_jinc9 (w := 1) (dq_of td_X7_moths 94 rfl) (by decide) rfl (by decide) ?_
  refine ok_goto (tgt := 133) (dq_of td_X7_moths 95 rfl) (by decide) ?_
  refine ok_wk (wk_s (wk_s (wk_s (wk_s (wk_s (wk_n (wk_s (wk_s (wk_n (wk_s (wk_n (wk_n wk_0)))))))))))) ?_
  exact hH _ _ _ _ _
theorem ob_X7_moths_175 {G : KW} {l : Launch} (x1 : Int32) (x2 : Int32) (x3 : Int32)  {K : Int64 → Int32 → Int64 → Sg → Option (Int64 × Sg)} {H : Int64 → Int32 → Int64 → Int32 → Sg → Option (Int64 × Sg)} (hK : ∀ (x4 : Int64) (x6 : Int32) (x7 : Int64) (σ : Sg), Okk G l cX7_moths 12 RX7 (some .long) (rmo 2 47) ccJ 189 [some (k_rr G 100), some (.int x1), some (.int x2), some (.int x3), some (.long x4), none, some (.int x6), some (.long x7), none, none, none, none] [] σ (K x4 x6 x7 σ)) (hH : ∀ (x4 : Int64) (x6 : Int32) (x7 : Int64) (x9 : Int32) (σ : Sg), Okk G l cX7_moths 12 RX7 (some .long) (rmo 2 47) ccJ 133 [some (k_rr G 100), some (.int x1), some (.int x2), some (.int x3), some (.long x4), none, some (.int x6), some (.long x7), none, some (.int x9), none, none] [] σ (H x4 x6 x7 x9 σ)) (x4 : Int64) (x6 : Int32) (x7 : Int64) (x9 : Int32) (s0 : Int32) (s1 : Nat)  (σ : Sg) : Okk G l cX7_moths 12 RX7 (some .long) (rmo 2 47) ccJ 175 [some (k_rr G 100), some (.int x1), some (.int x2), some (.int x3), some (.long x4), none, some (.int x6), some (.long x7), none, some (.int x9), none, none] [.int s0, k_rr G s1] σ (b_X7_moths_175 x1 x2 x3 K H x4 x6 x7 x9 s0 s1 σ) := by
  unfold b_X7_moths_175
  refine ok_aload0 (dq_of td_X7_moths 89 rfl) ?_
  refine ok_get (v := k_rr G 114) fl_X7_53 (by decide) ko_100 rfl (dq_of td_X7_moths 90 rfl) ?_
  refine ok_iload9 (dq_of td_X7_moths 91 rfl) ?_
  refine ok_iald ka_114 (dq_of td_X7_moths 92 rfl) ?_
  refine ok_wk (wk_s (wk_s (wk_s (wk_s (wk_s (wk_n (wk_s (wk_s (wk_n (wk_s (wk_n (wk_n wk_0)))))))))))) ?_
  exact ob_X7_moths_182 _ _ _  hK hH _ _ _ _ _ _ _  _
theorem od_X7_moths_133 {G : KW} {l : Launch} (x1 : Int32) (x2 : Int32) (x3 : Int32)  {K : Int64 → Int32 → Int64 → Sg → Option (Int64 × Sg)} {H : Int64 → Int32 → Int64 → Int32 → Sg → Option (Int64 × Sg)} (hK : ∀ (x4 : Int64) (x6 : Int32) (x7 : Int64) (σ : Sg), Okk G l cX7_moths 12 RX7 (some .long) (rmo 2 47) ccJ 189 [some (k_rr G 100), some (.int x1), some (.int x2), some (.int x3), some (.long x4), none, some (.int x6), some (.long x7), none, none, none, none] [] σ (K x4 x6 x7 σ)) (hH : ∀ (x4 : Int64) (x6 : Int32) (x7 : Int64) (x9 : Int32) (σ : Sg), Okk G l cX7_moths 12 RX7 (some .long) (rmo 2 47) ccJ 133 [some (k_rr G 100), some (.int x1), some (.int x2), some (.int x3), some (.long x4), none, some (.int x6), some (.long x7), none, some (.int x9), none, none] [] σ (H x4 x6 x7 x9 σ)) (x4 : Int64) (x6 : Int32) (x7 : Int64) (x9 : Int32)  (σ : Sg) : Okk G l cX7_moths 12 RX7 (some .long) (rmo 2 47) ccJ 133 [some (k_rr G 100), some (.int x1), some (.int x2), some (.int x3), some (.long x4), none, some (.int x6), some (.long x7), none, some (.int x9), none, none] [] σ (d_X7_moths_133 x1 x2 x3 K H x4 x6 x7 x9 σ) := by
  unfold d_X7_moths_133
  refine ok_iload9 (dq_of td_X7_moths 68 rfl) ?_
  refine ok_iconst (v := 5) (dq_of td_X7_moths 69 rfl) (by decide) ?_
  refine ok_ic_ge (tgt := 189) (dq_of td_X7_moths 70 rfl) (by decide) ?_ ?_
  · refine ok_wk (wk_s (wk_s (wk_s (wk_s (wk_s (wk_n (wk_s (wk_s (wk_n (wk_n (wk_n (wk_n wk_0)))))))))))) ?_
    exact hK _ _ _ _
  · refine ok_aload0 (dq_of td_X7_moths 71 rfl) ?_
    refine ok_get (v := k_rr G 114) fl_X7_53 (by decide) ko_100 rfl (dq_of td_X7_moths 72 rfl) ?_
    refine ok_iload9 (dq_of td_X7_moths 73 rfl) ?_
    refine ok_aload0 (dq_of td_X7_moths 74 rfl) ?_
    refine ok_get (v := k_rr G 114) fl_X7_53 (by decide) ko_100 rfl (dq_of td_X7_moths 75 rfl) ?_
    refine ok_iload9 (dq_of td_X7_moths 76 rfl) ?_
    refine ok_iald ka_114 (dq_of td_X7_moths 77 rfl) ?_
    refine ok_iconst (v := 5) (dq_of td_X7_moths 78 rfl) (by decide) ?_
    refine ok_ic_ge (tgt := 175) (dq_of td_X7_moths 79 rfl) (by decide) ?_ ?_
    · refine ok_wk (wk_s (wk_s (wk_s (wk_s (wk_s (wk_n (wk_s (wk_s (wk_n (wk_s (wk_n (wk_n wk_0)))))))))))) ?_
      exact ob_X7_moths_175 _ _ _  hK hH _ _ _ _ _ _  _
    · refine ok_iload6 (dq_of td_X7_moths 80 rfl) ?_
      refine ok_aload0 (dq_of td_X7_moths 81 rfl) ?_
      refine ok_get (v := k_rr G 114) fl_X7_53 (by decide) ko_100 rfl (dq_of td_X7_moths 82 rfl) ?_
      refine ok_iload9 (dq_of td_X7_moths 83 rfl) ?_
      refine ok_iald ka_114 (dq_of td_X7_moths 84 rfl) ?_
      refine call_X7_has ml_X7_88  ⟨Nat.le_of_ble_eq_true rfl, Nat.le_of_ble_eq_true rfl⟩ ⟨Nat.zero_le _, Nat.zero_le _⟩ (Nat.le_of_ble_eq_true rfl) (dq_of td_X7_moths 85 rfl) (fun r19 σ18 => ?_)
      refine ok_if_eq (tgt := 175) (dq_of td_X7_moths 86 rfl) (by decide) ?_ ?_
      · refine ok_wk (wk_s (wk_s (wk_s (wk_s (wk_s (wk_n (wk_s (wk_s (wk_n (wk_s (wk_n (wk_n wk_0)))))))))))) ?_
        exact ob_X7_moths_175 _ _ _  hK hH _ _ _ _ _ _  _
      · refine ok_iconst (v := 5) (dq_of td_X7_moths 87 rfl) (by decide) ?_
        refine ok_goto (tgt := 182) (dq_of td_X7_moths 88 rfl) (by decide) ?_
        refine ok_wk (wk_s (wk_s (wk_s (wk_s (wk_s (wk_n (wk_s (wk_s (wk_n (wk_s (wk_n (wk_n wk_0)))))))))))) ?_
        exact ob_X7_moths_182 _ _ _  hK hH _ _ _ _ _ _ _  _
theorem ld_X7_moths_133 {G : KW} {l : Launch} (x1 : Int32) (x2 : Int32) (x3 : Int32)  {K : Int64 → Int32 → Int64 → Sg → Option (Int64 × Sg)} (hK : ∀ (x4 : Int64) (x6 : Int32) (x7 : Int64) (σ : Sg), Okk G l cX7_moths 12 RX7 (some .long) (rmo 2 47) ccJ 189 [some (k_rr G 100), some (.int x1), some (.int x2), some (.int x3), some (.long x4), none, some (.int x6), some (.long x7), none, none, none, none] [] σ (K x4 x6 x7 σ)) (n : Nat) (x4 : Int64) (x6 : Int32) (x7 : Int64) (x9 : Int32) (σ : Sg) : Okk G l cX7_moths 12 RX7 (some .long) (rmo 2 47) ccJ 133 [some (k_rr G 100), some (.int x1), some (.int x2), some (.int x3), some (.long x4), none, some (.int x6), some (.long x7), none, some (.int x9), none, none] [] σ (e_lp4 (d_X7_moths_133 x1 x2 x3 K) n x4 x6 x7 x9 σ) :=
  ok_lp4 (Lf := fun (x4 : Int64) (x6 : Int32) (x7 : Int64) (x9 : Int32) => [some (k_rr G 100), some (.int x1), some (.int x2), some (.int x3), some (.long x4), none, some (.int x6), some (.long x7), none, some (.int x9), none, none]) (fun _ hH x4 x6 x7 x9 σ => od_X7_moths_133 _ _ _  hK hH x4 x6 x7 x9 σ) n x4 x6 x7 x9 σ
theorem ob_X7_moths_206 {G : KW} {l : Launch} (x1 : Int32) (x2 : Int32) (x3 : Int32)  {K : Int64 → Sg → Option (Int64 × Sg)} {H : Int64 → Int32 → Sg → Option (Int64 × Sg)} (hK : ∀ (x4 : Int64) (σ : Sg), Okk G l cX7_moths 12 RX7 (some .long) (rmo 2 47) ccJ 215 [none, none, none, some (.int x3), some (.long x4), none, none, none, none, none, none, none] [] σ (K x4 σ)) (hH : ∀ (x4 : Int64) (x6 : Int32) (σ : Sg), Okk G l cX7_moths 12 RX7 (some .long) (rmo 2 47) ccJ 40 [some (k_rr G 100), some (.int x1), some (.int x2), some (.int x3), some (.long x4), none, some (.int x6), none, none, none, none, none] [] σ (H x4 x6 σ)) (x6 : Int32) (s0 : Int64) (s1 : Int64)  (σ : Sg) : Okk G l cX7_moths 12 RX7 (some .long) (rmo 2 47) ccJ 206 [some (k_rr G 100), some (.int x1), some (.int x2), some (.int x3), none, none, some (.int x6), none, none, none, none, none] [.long s0, .long s1] σ (b_X7_moths_206 x1 x2 x3 K H x6 s0 s1 σ) := by
  unfold b_X7_moths_206
  refine ok_ladd (dq_of td_X7_moths 105 rfl) ?_
  refine ok_gJ (fun v23 => ?_)
  refine ok_lstore4 (dq_of td_X7_moths 106 rfl) rfl (by decide) ?_
  refine ok_jinc6 (w := 1) (dq_of td_X7_moths 107 rfl) (by decide) rfl (by decide) ?_
  refine ok_goto (tgt := 40) (dq_of td_X7_moths 108 rfl) (by decide) ?_
  refine ok_wk (wk_s (wk_s (wk_s (wk_s (wk_s (wk_n (wk_s (wk_n (wk_n (wk_n (wk_n (wk_n wk_0)))))))))))) ?_
  exact hH _ _ _
theorem od_X7_moths_40 {G : KW} {l : Launch} (x1 : Int32) (x2 : Int32) (x3 : Int32)  {K : Int64 → Sg → Option (Int64 × Sg)} {H : Int64 → Int32 → Sg → Option (Int64 × Sg)} (hK : ∀ (x4 : Int64) (σ : Sg), Okk G l cX7_moths 12 RX7 (some .long) (rmo 2 47) ccJ 215 [none, none, none, some (.int x3), some (.long x4), none, none, none, none, none, none, none] [] σ (K x4 σ)) (hH : ∀ (x4 : Int64) (x6 : Int32) (σ : Sg), Okk G l cX7_moths 12 RX7 (some .long) (rmo 2 47) ccJ 40 [some (k_rr G 100), some (.int x1), some (.int x2), some (.int x3), some (.long x4), none, some (.int x6), none, none, none, none, none] [] σ (H x4 x6 σ)) (x4 : Int64) (x6 : Int32)  (σ : Sg) : Okk G l cX7_moths 12 RX7 (some .long) (rmo 2 47) ccJ 40 [some (k_rr G 100), some (.int x1), some (.int x2), some (.int x3), some (.long x4), none, some (.int x6), none, none, none, none, none] [] σ (d_X7_moths_40 x1 x2 x3 K H x4 x6 σ) := by
  unfold d_X7_moths_40
  refine ok_iload6 (dq_of td_X7_moths 22 rfl) ?_
  refine ok_bipush (v := 32) (dq_of td_X7_moths 23 rfl) (by decide) ?_
  refine ok_ic_ge (tgt := 215) (dq_of td_X7_moths 24 rfl) (by decide) ?_ ?_
  · refine ok_wk (wk_n (wk_n (wk_n (wk_s (wk_s (wk_n (wk_n (wk_n (wk_n (wk_n (wk_n (wk_n wk_0)))))))))))) ?_
    exact hK _ _
  · refine ok_lconst (v := 1) (dq_of td_X7_moths 25 rfl) (by decide) ?_
    refine ok_lstore7 (dq_of td_X7_moths 26 rfl) rfl (by decide) ?_
    refine ok_aload0 (dq_of td_X7_moths 27 rfl) ?_
    refine call_X7_asNow ml_X7_132  ⟨Nat.le_of_ble_eq_true rfl, Nat.le_of_ble_eq_true rfl⟩ ⟨Nat.zero_le _, Nat.zero_le _⟩ (Nat.le_of_ble_eq_true rfl) (dq_of td_X7_moths 28 rfl) (fun σ7 => ?_)
    refine ok_iconst (v := 0) (dq_of td_X7_moths 29 rfl) (by decide) ?_
    refine ok_istore9 (dq_of td_X7_moths 30 rfl) rfl (by decide) ?_
    refine ok_wk (wk_s (wk_s (wk_s (wk_s (wk_s (wk_n (wk_s (wk_s (wk_n (wk_s (wk_n (wk_n wk_0)))))))))))) ?_
    refine ld_X7_moths_57 _ _ _  (fun x4q15 x6q15 x7q15 σ15 => ?_) _ _ _ _ _ _
    refine ok_iconst (v := 0) (dq_of td_X7_moths 66 rfl) (by decide) ?_
    refine ok_istore9 (dq_of td_X7_moths 67 rfl) rfl (by decide) ?_
    refine ok_wk (wk_s (wk_s (wk_s (wk_s (wk_s (wk_n (wk_s (wk_s (wk_n (wk_s (wk_n (wk_n wk_0)))))))))))) ?_
    refine ld_X7_moths_133 _ _ _  (fun x4q20 x6q20 x7q20 σ20 => ?_) _ _ _ _ _ _
    refine ok_lload4 (dq_of td_X7_moths 96 rfl) ?_
    refine ok_aload0 (dq_of td_X7_moths 97 rfl) ?_
    refine ok_iload1 (dq_of td_X7_moths 98 rfl) ?_
    refine call_X7_seatOf ml_X7_126  ⟨Nat.le_of_ble_eq_true rfl, Nat.le_of_ble_eq_true rfl⟩ ⟨Nat.zero_le _, Nat.zero_le _⟩ (Nat.le_of_ble_eq_true rfl) (dq_of td_X7_moths 99 rfl) (fun r22 σ21 => ?_)
    refine ok_iload2 (dq_of td_X7_moths 100 rfl) ?_
    refine ok_ic_ne (tgt := 205) (dq_of td_X7_moths 101 rfl) (by decide) ?_ ?_
    · refine ok_lconst (v := 0) (dq_of td_X7_moths 104 rfl) (by decide) ?_
      refine ok_wk (wk_s (wk_s (wk_s (wk_s (wk_n (wk_n (wk_s (wk_n (wk_n (wk_n (wk_n (wk_n wk_0)))))))))))) ?_
      exact ob_X7_moths_206 _ _ _  hK hH _ _ _  _
    · refine ok_lload7 (dq_of td_X7_moths 102 rfl) ?_
      refine ok_goto (tgt := 206) (dq_of td_X7_moths 103 rfl) (by decide) ?_
      refine ok_wk (wk_s (wk_s (wk_s (wk_s (wk_n (wk_n (wk_s (wk_n (wk_n (wk_n (wk_n (wk_n wk_0)))))))))))) ?_
      exact ob_X7_moths_206 _ _ _  hK hH _ _ _  _
theorem ld_X7_moths_40 {G : KW} {l : Launch} (x1 : Int32) (x2 : Int32) (x3 : Int32)  {K : Int64 → Sg → Option (Int64 × Sg)} (hK : ∀ (x4 : Int64) (σ : Sg), Okk G l cX7_moths 12 RX7 (some .long) (rmo 2 47) ccJ 215 [none, none, none, some (.int x3), some (.long x4), none, none, none, none, none, none, none] [] σ (K x4 σ)) (n : Nat) (x4 : Int64) (x6 : Int32) (σ : Sg) : Okk G l cX7_moths 12 RX7 (some .long) (rmo 2 47) ccJ 40 [some (k_rr G 100), some (.int x1), some (.int x2), some (.int x3), some (.long x4), none, some (.int x6), none, none, none, none, none] [] σ (e_lp2 (d_X7_moths_40 x1 x2 x3 K) n x4 x6 σ) :=
  ok_lp2 (Lf := fun (x4 : Int64) (x6 : Int32) => [some (k_rr G 100), some (.int x1), some (.int x2), some (.int x3), some (.long x4), none, some (.int x6), none, none, none, none, none]) (fun _ hH x4 x6 σ => od_X7_moths_40 _ _ _  hK hH x4 x6 σ) n x4 x6 σ
theorem od_X7_moths_224 {G : KW} {l : Launch} (x1 : Int32) (x2 : Int32) (x3 : Int32)  {K : Int64 → Int64 → Sg → Option (Int64 × Sg)} {H : Int64 → Int64 → Int64 → Sg → Option (Int64 × Sg)} (hK : ∀ (x4 : Int64) (x6 : Int64) (σ : Sg), Okk G l cX7_moths 12 RX7 (some .long) (rmo 2 47) ccJ 249 [none, none, none, some (.int x3), some (.long x4), none, some (.long x6), none, none, none, none, none] [] σ (K x4 x6 σ)) (hH : ∀ (x4 : Int64) (x6 : Int64) (x8 : Int64) (σ : Sg), Okk G l cX7_moths 12 RX7 (some .long) (rmo 2 47) ccJ 224 [none, none, none, some (.int x3), some (.long x4), none, some (.long x6), none, some (.long x8), none, none, none] [] σ (H x4 x6 x8 σ)) (x4 : Int64) (x6 : Int64) (x8 : Int64)  (σ : Sg) : Okk G l cX7_moths 12 RX7 (some .long) (rmo 2 47) ccJ 224 [none, none, none, some (.int x3), some (.long x4), none, some (.long x6), none, some (.long x8), none, none, none] [] σ (d_X7_moths_224 x1 x2 x3 K H x4 x6 x8 σ) := by
  unfold d_X7_moths_224
  refine ok_lload8 (dq_of td_X7_moths 113 rfl) ?_
  refine ok_lconst (v := 0) (dq_of td_X7_moths 114 rfl) (by decide) ?_
  refine ok_lcmp (dq_of td_X7_moths 115 rfl) ?_
  refine ok_if_eq (tgt := 249) (dq_of td_X7_moths 116 rfl) (by decide) ?_ ?_
  · refine ok_wk (wk_n (wk_n (wk_n (wk_s (wk_s (wk_n (wk_s (wk_n (wk_n (wk_n (wk_n (wk_n wk_0)))))))))))) ?_
    exact hK _ _ _
  · refine ok_lload6 (dq_of td_X7_moths 117 rfl) ?_
    refine ok_lload8 (dq_of td_X7_moths 118 rfl) ?_
    refine ok_lremG (dq_of td_X7_moths 119 rfl) ?_
    refine ok_gJ (fun v25 => ?_)
    refine ok_lstore10 (dq_of td_X7_moths 120 rfl) rfl (by decide) ?_
    refine ok_lload8 (dq_of td_X7_moths 121 rfl) ?_
    refine ok_lstore6 (dq_of td_X7_moths 122 rfl) rfl (by decide) ?_
    refine ok_lload10 (dq_of td_X7_moths 123 rfl) ?_
    refine ok_lstore8 (dq_of td_X7_moths 124 rfl) rfl (by decide) ?_
    refine ok_goto (tgt := 224) (dq_of td_X7_moths 125 rfl) (by decide) ?_
    refine ok_wk (wk_n (wk_n (wk_n (wk_s (wk_s (wk_n (wk_s (wk_n (wk_s (wk_n (wk_n (wk_n wk_0)))))))))))) ?_
    exact hH _ _ _ _
theorem ld_X7_moths_224 {G : KW} {l : Launch} (x1 : Int32) (x2 : Int32) (x3 : Int32)  {K : Int64 → Int64 → Sg → Option (Int64 × Sg)} (hK : ∀ (x4 : Int64) (x6 : Int64) (σ : Sg), Okk G l cX7_moths 12 RX7 (some .long) (rmo 2 47) ccJ 249 [none, none, none, some (.int x3), some (.long x4), none, some (.long x6), none, none, none, none, none] [] σ (K x4 x6 σ)) (n : Nat) (x4 : Int64) (x6 : Int64) (x8 : Int64) (σ : Sg) : Okk G l cX7_moths 12 RX7 (some .long) (rmo 2 47) ccJ 224 [none, none, none, some (.int x3), some (.long x4), none, some (.long x6), none, some (.long x8), none, none, none] [] σ (e_lp3 (d_X7_moths_224 x1 x2 x3 K) n x4 x6 x8 σ) :=
  ok_lp3 (Lf := fun (x4 : Int64) (x6 : Int64) (x8 : Int64) => [none, none, none, some (.int x3), some (.long x4), none, some (.long x6), none, some (.long x8), none, none, none]) (fun _ hH x4 x6 x8 σ => od_X7_moths_224 _ _ _  hK hH x4 x6 x8 σ) n x4 x6 x8 σ
def m_X7_moths (x1 : Int32) (x2 : Int32) (x3 : Int32) (σ : Sg) : Option (Int64 × Sg) := e_cI (m_X7_isThere x1 σ) (fun r2 σ1 => (if r2 = 0 then some ((-1000000000000000001), σ1) else e_cI (m_X7_in x2 0 4 σ1) (fun r4 σ3 => (if r4 = 0 then some ((-1000000000000000002), σ3) else e_cI (m_X7_in x3 0 1 σ3) (fun r6 σ5 => (if r6 = 0 then some ((-1000000000000000002), σ5) else e_lp2 (d_X7_moths_40 x1 x2 x3 (fun x4q24 σ24 => e_lp3 (d_X7_moths_224 x1 x2 x3 (fun x4q26 x6q26 σ26 => (if x3 = 0 then if x6q26 = 0 then none else some (x4q26 / x6q26, σ26) else if x6q26 = 0 then none else some (100000 / x6q26, σ26)))) e_F x4q24 x4q24 100000 σ24)) e_F 0 0 σ5))))))
theorem om_X7_moths {G : KW} {l : Launch} (x1 : Int32) (x2 : Int32) (x3 : Int32)  (σ : Sg) : Okk G l cX7_moths 12 RX7 (some .long) (rmo 2 47) ccJ 0 [some (k_rr G 100), some (.int x1), some (.int x2), some (.int x3), none, none, none, none, none, none, none, none] [] σ (m_X7_moths x1 x2 x3 σ) := by
  unfold m_X7_moths
  refine ok_aload0 (dq_of td_X7_moths 0 rfl) ?_
  refine ok_iload1 (dq_of td_X7_moths 1 rfl) ?_
  refine call_X7_isThere ml_X7_95  ⟨Nat.le_of_ble_eq_true rfl, Nat.le_of_ble_eq_true rfl⟩ ⟨Nat.zero_le _, Nat.zero_le _⟩ (Nat.le_of_ble_eq_true rfl) (dq_of td_X7_moths 2 rfl) (fun r2 σ1 => ?_)
  refine ok_if_ne (tgt := 12) (dq_of td_X7_moths 3 rfl) (by decide) ?_ ?_
  · refine ok_iload2 (dq_of td_X7_moths 6 rfl) ?_
    refine ok_iconst (v := 0) (dq_of td_X7_moths 7 rfl) (by decide) ?_
    refine ok_iconst (v := 4) (dq_of td_X7_moths 8 rfl) (by decide) ?_
    refine call_X7_in ml_X7_81  ⟨Nat.le_of_ble_eq_true rfl, Nat.le_of_ble_eq_true rfl⟩ ⟨Nat.zero_le _, Nat.zero_le _⟩ (Nat.le_of_ble_eq_true rfl) (dq_of td_X7_moths 9 rfl) (fun r4 σ3 => ?_)
    refine ok_if_eq (tgt := 30) (dq_of td_X7_moths 10 rfl) (by decide) ?_ ?_
    · refine ok_ldc2 (v := (-1000000000000000002)) (dq_of td_X7_moths 16 rfl) kc_X7_197 ?_
      exact ok_lret (dq_of td_X7_moths 17 rfl)
    · refine ok_iload3 (dq_of td_X7_moths 11 rfl) ?_
      refine ok_iconst (v := 0) (dq_of td_X7_moths 12 rfl) (by decide) ?_
      refine ok_iconst (v := 1) (dq_of td_X7_moths 13 rfl) (by decide) ?_
      refine call_X7_in ml_X7_81  ⟨Nat.le_of_ble_eq_true rfl, Nat.le_of_ble_eq_true rfl⟩ ⟨Nat.zero_le _, Nat.zero_le _⟩ (Nat.le_of_ble_eq_true rfl) (dq_of td_X7_moths 14 rfl) (fun r6 σ5 => ?_)
      refine ok_if_ne (tgt := 34) (dq_of td_X7_moths 15 rfl) (by decide) ?_ ?_
      · refine ok_lconst (v := 0) (dq_of td_X7_moths 18 rfl) (by decide) ?_
        refine ok_lstore4 (dq_of td_X7_moths 19 rfl) rfl (by decide) ?_
        refine ok_iconst (v := 0) (dq_of td_X7_moths 20 rfl) (by decide) ?_
        refine ok_istore6 (dq_of td_X7_moths 21 rfl) rfl (by decide) ?_
        refine ok_wk (wk_s (wk_s (wk_s (wk_s (wk_s (wk_n (wk_s (wk_n (wk_n (wk_n (wk_n (wk_n wk_0)))))))))))) ?_
        refine ld_X7_moths_40 _ _ _  (fun x4q24 σ24 => ?_) _ _ _ _
        refine ok_lload4 (dq_of td_X7_moths 109 rfl) ?_
        refine ok_lstore6 (dq_of td_X7_moths 110 rfl) rfl (by decide) ?_
        refine ok_ldc2 (v := 100000) (dq_of td_X7_moths 111 rfl) kc_X7_205 ?_
        refine ok_lstore8 (dq_of td_X7_moths 112 rfl) rfl (by decide) ?_
        refine ok_wk (wk_n (wk_n (wk_n (wk_s (wk_s (wk_n (wk_s (wk_n (wk_s (wk_n (wk_n (wk_n wk_0)))))))))))) ?_
        refine ld_X7_moths_224 _ _ _  (fun x4q26 x6q26 σ26 => ?_) _ _ _ _ _
        refine ok_iload3 (dq_of td_X7_moths 126 rfl) ?_
        refine ok_if_ne (tgt := 261) (dq_of td_X7_moths 127 rfl) (by decide) ?_ ?_
        · refine ok_ldc2 (v := 100000) (dq_of td_X7_moths 132 rfl) kc_X7_205 ?_
          refine ok_lload6 (dq_of td_X7_moths 133 rfl) ?_
          refine ok_ldivG (dq_of td_X7_moths 134 rfl) ?_
          exact ok_lret (dq_of td_X7_moths 135 rfl)
        · refine ok_lload4 (dq_of td_X7_moths 128 rfl) ?_
          refine ok_lload6 (dq_of td_X7_moths 129 rfl) ?_
          refine ok_ldivG (dq_of td_X7_moths 130 rfl) ?_
          refine ok_goto (tgt := 267) (dq_of td_X7_moths 131 rfl) (by decide) ?_
          exact ok_lret (dq_of td_X7_moths 135 rfl)
      · refine ok_ldc2 (v := (-1000000000000000002)) (dq_of td_X7_moths 16 rfl) kc_X7_197 ?_
        exact ok_lret (dq_of td_X7_moths 17 rfl)
  · refine ok_ldc2 (v := (-1000000000000000001)) (dq_of td_X7_moths 4 rfl) kc_X7_195 ?_
    exact ok_lret (dq_of td_X7_moths 5 rfl)
theorem ct_X7_moths {G : KW} {l : Launch} (x1 : Int32) (x2 : Int32) (x3 : Int32)  (σ : Sg) : ∀ b, m_X7_moths x1 x2 x3 σ = some b → MetF G l yX7_moths cX7_moths 12 (some .long) 2 47 [k_rr G 100, .int x1, .int x2, .int x3] (k_wl G σ) (ccJ b).1 (k_wl G (ccJ b).2) :=
  met_of (by decide) (Nat.le_of_ble_eq_true rfl) rfl (om_X7_moths _ _ _  σ)
theorem call_X7_moths {G : KW} {l : Launch} {cc : ByteArray} {nL : Nat} {own : String} {rt : Option FieldType} {R : Room} {α : Type} {X : State → Array Value → Method → Prop} {Z : α → List Frame → Array Value → State → State → Prop} {k0 n0 pc index : Nat} {L : List (Option Value)} {S : List Value} {σ : Sg} {F : Int64 → Sg → Option α} {x1 : Int32} {x2 : Int32} {x3 : Int32} (lk : MLk own index yX7_moths)  (hR : R.frames ≥ 2 + 1 ∧ R.locals ≥ 8 + (12 + 11) + 47) (hcs : k0 ≤ R.cells ∧ n0 ≤ R.slots) (hro : (S.map fun v => v.category).sum ≤ 8) (d : decode cc pc = .ok (.invokevirtual index, 3)) (kk : ∀ (r : Int64) (σ' : Sg), Okg G l cc nL own rt R X Z k0 n0 (pc + 3) L (.long r :: S) σ' (F r σ')) : Okg G l cc nL own rt R X Z k0 n0 pc L (.int x3 :: .int x2 :: .int x1 :: k_rr G 100 :: S) σ (e_cJ (m_X7_moths x1 x2 x3 σ) F) :=
  ok_cV (cb := ccJ) (As := [.int x1, .int x2, .int x3]) (ct_X7_moths _ _ _  σ) mo_X7_moths hi_X7_moths lk rfl (ci := 7) rfl rfl (by decide) ko_100 hR rfl hcs hro d (fun b => kk b.1 b.2)
/-! CoatDinnerModel.seen(II)I -/
def m_X7_seen (x1 : Int32) (x2 : Int32) (σ : Sg) : Option (Int32 × Sg) := e_cI (m_X7_in x1 0 4 σ) (fun r2 σ1 => (if r2 = 0 then some ((-1), σ1) else e_cI (m_X7_in x2 0 4 σ1) (fun r4 σ3 => (if r4 = 0 then some ((-2), σ3) else (if (σ3 100 14) = 6 then some ((-4), σ3) else e_wr σ3 112 (2 * (σ3 100 14)) 12 x1 (fun σ5 => e_wr σ5 112 ((2 * (σ5 100 14)) + 1) 12 x2 (fun σ6 => e_lt (k_up σ6 100 14 ((σ6 100 14) + 1)) (fun σ7 => some (σ7 100 14, σ7)))))))))
theorem om_X7_seen {G : KW} {l : Launch} (x1 : Int32) (x2 : Int32)  (σ : Sg) : Okk G l cX7_seen 3 RX7 (some .int) (rmo 1 22) ccI 0 [some (k_rr G 100), some (.int x1), some (.int x2)] [] σ (m_X7_seen x1 x2 σ) := by
  unfold m_X7_seen
  refine ok_iload1 (dq_of td_X7_seen 0 rfl) ?_
  refine ok_iconst (v := 0) (dq_of td_X7_seen 1 rfl) (by decide) ?_
  refine ok_iconst (v := 4) (dq_of td_X7_seen 2 rfl) (by decide) ?_
  refine call_X7_in ml_X7_81  ⟨Nat.le_of_ble_eq_true rfl, Nat.le_of_ble_eq_true rfl⟩ ⟨Nat.zero_le _, Nat.zero_le _⟩ (Nat.le_of_ble_eq_true rfl) (dq_of td_X7_seen 3 rfl) (fun r2 σ1 => ?_)
  refine ok_if_ne (tgt := 11) (dq_of td_X7_seen 4 rfl) (by decide) ?_ ?_
  · refine ok_iload2 (dq_of td_X7_seen 7 rfl) ?_
    refine ok_iconst (v := 0) (dq_of td_X7_seen 8 rfl) (by decide) ?_
    refine ok_iconst (v := 4) (dq_of td_X7_seen 9 rfl) (by decide) ?_
    refine call_X7_in ml_X7_81  ⟨Nat.le_of_ble_eq_true rfl, Nat.le_of_ble_eq_true rfl⟩ ⟨Nat.zero_le _, Nat.zero_le _⟩ (Nat.le_of_ble_eq_true rfl) (dq_of td_X7_seen 10 rfl) (fun r4 σ3 => ?_)
    refine ok_if_ne (tgt := 23) (dq_of td_X7_seen 11 rfl) (by decide) ?_ ?_
    · refine ok_aload0 (dq_of td_X7_seen 14 rfl) ?_
      refine ok_get (v := .int (σ3 100 14)) fl_X7_207 (by decide) ko_100 rfl (dq_of td_X7_seen 15 rfl) ?_
      refine ok_bipush (v := 6) (dq_of td_X7_seen 16 rfl) (by decide) ?_
      refine ok_ic_ne (tgt := 35) (dq_of td_X7_seen 17 rfl) (by decide) ?_ ?_
      · refine ok_aload0 (dq_of td_X7_seen 20 rfl) ?_
        refine ok_get (v := k_rr G 112) fl_X7_47 (by decide) ko_100 rfl (dq_of td_X7_seen 21 rfl) ?_
        refine ok_iconst (v := 2) (dq_of td_X7_seen 22 rfl) (by decide) ?_
        refine ok_aload0 (dq_of td_X7_seen 23 rfl) ?_
        refine ok_get (v := .int (σ3 100 14)) fl_X7_207 (by decide) ko_100 rfl (dq_of td_X7_seen 24 rfl) ?_
        refine ok_imul (dq_of td_X7_seen 25 rfl) ?_
        refine ok_iload1 (dq_of td_X7_seen 26 rfl) ?_
        refine ok_iast ka_112 (dq_of td_X7_seen 27 rfl) (fun σ5 => ?_)
        refine ok_aload0 (dq_of td_X7_seen 28 rfl) ?_
        refine ok_get (v := k_rr G 112) fl_X7_47 (by decide) ko_100 rfl (dq_of td_X7_seen 29 rfl) ?_
        refine ok_iconst (v := 2) (dq_of td_X7_seen 30 rfl) (by decide) ?_
        refine ok_aload0 (dq_of td_X7_seen 31 rfl) ?_
        refine ok_get (v := .int (σ5 100 14)) fl_X7_207 (by decide) ko_100 rfl (dq_of td_X7_seen 32 rfl) ?_
        refine ok_imul (dq_of td_X7_seen 33 rfl) ?_
        refine ok_iconst (v := 1) (dq_of td_X7_seen 34 rfl) (by decide) ?_
        refine ok_iadd (dq_of td_X7_seen 35 rfl) ?_
        refine ok_iload2 (dq_of td_X7_seen 36 rfl) ?_
        refine ok_iast ka_112 (dq_of td_X7_seen 37 rfl) (fun σ6 => ?_)
        refine ok_aload0 (dq_of td_X7_seen 38 rfl) ?_
        refine ok_dup (dq_of td_X7_seen 39 rfl) rfl ?_
        refine ok_get (v := .int (σ6 100 14)) fl_X7_207 (by decide) ko_100 rfl (dq_of td_X7_seen 40 rfl) ?_
        refine ok_iconst (v := 1) (dq_of td_X7_seen 41 rfl) (by decide) ?_
        refine ok_iadd (dq_of td_X7_seen 42 rfl) ?_
        refine put_7_14 fl_X7_207 ko_100 (dq_of td_X7_seen 43 rfl) (fun σ7 => ?_)
        refine ok_aload0 (dq_of td_X7_seen 44 rfl) ?_
        refine ok_get (v := .int (σ7 100 14)) fl_X7_207 (by decide) ko_100 rfl (dq_of td_X7_seen 45 rfl) ?_
        exact ok_iret (dq_of td_X7_seen 46 rfl)
      · refine ok_bipush (v := (-4)) (dq_of td_X7_seen 18 rfl) (by decide) ?_
        exact ok_iret (dq_of td_X7_seen 19 rfl)
    · refine ok_bipush (v := (-2)) (dq_of td_X7_seen 12 rfl) (by decide) ?_
      exact ok_iret (dq_of td_X7_seen 13 rfl)
  · refine ok_iconst (v := (-1)) (dq_of td_X7_seen 5 rfl) (by decide) ?_
    exact ok_iret (dq_of td_X7_seen 6 rfl)
theorem ct_X7_seen {G : KW} {l : Launch} (x1 : Int32) (x2 : Int32)  (σ : Sg) : ∀ b, m_X7_seen x1 x2 σ = some b → MetF G l yX7_seen cX7_seen 3 (some .int) 1 22 [k_rr G 100, .int x1, .int x2] (k_wl G σ) (ccI b).1 (k_wl G (ccI b).2) :=
  met_of (by decide) (Nat.le_of_ble_eq_true rfl) rfl (om_X7_seen _ _  σ)
theorem call_X7_seen {G : KW} {l : Launch} {cc : ByteArray} {nL : Nat} {own : String} {rt : Option FieldType} {R : Room} {α : Type} {X : State → Array Value → Method → Prop} {Z : α → List Frame → Array Value → State → State → Prop} {k0 n0 pc index : Nat} {L : List (Option Value)} {S : List Value} {σ : Sg} {F : Int32 → Sg → Option α} {x1 : Int32} {x2 : Int32} (lk : MLk own index yX7_seen)  (hR : R.frames ≥ 1 + 1 ∧ R.locals ≥ 8 + (3 + 11) + 22) (hcs : k0 ≤ R.cells ∧ n0 ≤ R.slots) (hro : (S.map fun v => v.category).sum ≤ 8) (d : decode cc pc = .ok (.invokevirtual index, 3)) (kk : ∀ (r : Int32) (σ' : Sg), Okg G l cc nL own rt R X Z k0 n0 (pc + 3) L (.int r :: S) σ' (F r σ')) : Okg G l cc nL own rt R X Z k0 n0 pc L (.int x2 :: .int x1 :: k_rr G 100 :: S) σ (e_cI (m_X7_seen x1 x2 σ) F) :=
  ok_cV (cb := ccI) (As := [.int x1, .int x2]) (ct_X7_seen _ _  σ) mo_X7_seen hi_X7_seen lk rfl (ci := 7) rfl rfl (by decide) ko_100 hR rfl hcs hro d (fun b => kk b.1 b.2)
/-! CoatDinnerModel.forget()I -/
def m_X7_forget  (σ : Sg) : Option (Int32 × Sg) := e_lt (σ 100 14) (fun v1 => e_lt (k_up σ 100 14 0) (fun σ2 => some (v1, σ2)))
theorem om_X7_forget {G : KW} {l : Launch}   (σ : Sg) : Okk G l cX7_forget 2 RX7 (some .int) (rmo 0 0) ccI 0 [some (k_rr G 100), none] [] σ (m_X7_forget  σ) := by
  unfold m_X7_forget
  refine ok_aload0 (dq_of td_X7_forget 0 rfl) ?_
  refine ok_get (v := .int (σ 100 14)) fl_X7_207 (by decide) ko_100 rfl (dq_of td_X7_forget 1 rfl) ?_
  refine ok_gI (fun v1 => ?_)
  refine ok_istore1 (dq_of td_X7_forget 2 rfl) rfl (by decide) ?_
  refine ok_aload0 (dq_of td_X7_forget 3 rfl) ?_
  refine ok_iconst (v := 0) (dq_of td_X7_forget 4 rfl) (by decide) ?_
  refine put_7_14 fl_X7_207 ko_100 (dq_of td_X7_forget 5 rfl) (fun σ2 => ?_)
  refine ok_iload1 (dq_of td_X7_forget 6 rfl) ?_
  exact ok_iret (dq_of td_X7_forget 7 rfl)
theorem ct_X7_forget {G : KW} {l : Launch}   (σ : Sg) : ∀ b, m_X7_forget  σ = some b → MetF G l yX7_forget cX7_forget 2 (some .int) 0 0 [k_rr G 100] (k_wl G σ) (ccI b).1 (k_wl G (ccI b).2) :=
  met_of (by decide) (Nat.le_of_ble_eq_true rfl) rfl (om_X7_forget   σ)
theorem call_X7_forget {G : KW} {l : Launch} {cc : ByteArray} {nL : Nat} {own : String} {rt : Option FieldType} {R : Room} {α : Type} {X : State → Array Value → Method → Prop} {Z : α → List Frame → Array Value → State → State → Prop} {k0 n0 pc index : Nat} {L : List (Option Value)} {S : List Value} {σ : Sg} {F : Int32 → Sg → Option α}  (lk : MLk own index yX7_forget)  (hR : R.frames ≥ 0 + 1 ∧ R.locals ≥ 8 + (2 + 11) + 0) (hcs : k0 ≤ R.cells ∧ n0 ≤ R.slots) (hro : (S.map fun v => v.category).sum ≤ 8) (d : decode cc pc = .ok (.invokevirtual index, 3)) (kk : ∀ (r : Int32) (σ' : Sg), Okg G l cc nL own rt R X Z k0 n0 (pc + 3) L (.int r :: S) σ' (F r σ')) : Okg G l cc nL own rt R X Z k0 n0 pc L (k_rr G 100 :: S) σ (e_cI (m_X7_forget  σ) F) :=
  ok_cV (cb := ccI) (As := []) (ct_X7_forget   σ) mo_X7_forget hi_X7_forget lk rfl (ci := 7) rfl rfl (by decide) ko_100 hR rfl hcs hro d (fun b => kk b.1 b.2)
/-! CoatDinnerModel.holds()Z -/
def b_X7_holds_61  (K : Int32 → Sg → Option (Int32 × Sg)) (H : Int32 → Int32 → Sg → Option (Int32 × Sg)) (x2 : Int32) (s0 : Int32) (σ : Sg) : Option (Int32 × Sg) := H s0 (x2 + 1) σ
def b_X7_holds_60  (K : Int32 → Sg → Option (Int32 × Sg)) (H : Int32 → Int32 → Sg → Option (Int32 × Sg)) (x2 : Int32) (σ : Sg) : Option (Int32 × Sg) := b_X7_holds_61  K H x2 0 σ
def d_X7_holds_4  (K : Int32 → Sg → Option (Int32 × Sg)) (H : Int32 → Int32 → Sg → Option (Int32 × Sg)) (x1 : Int32) (x2 : Int32) (σ : Sg) : Option (Int32 × Sg) := (if (σ 100 14) ≤ x2 then K x1 σ else (if x1 = 0 then K x1 σ else e_gd (k_in (2 * x2) 12) (e_cI (m_X7_isThere (σ 112 (Int32.toNatClampNeg (2 * x2))) σ) (fun r2 σ1 => (if r2 = 0 then b_X7_holds_60  K H x2 σ1 else e_gd (k_in (2 * x2) 12) (e_cI (m_X7_seatOf (σ1 112 (Int32.toNatClampNeg (2 * x2))) σ1) (fun r4 σ3 => e_gd (k_in ((2 * x2) + 1) 12) ((if r4 = (σ3 112 (Int32.toNatClampNeg ((2 * x2) + 1))) then b_X7_holds_61  K H x2 1 σ3 else b_X7_holds_60  K H x2 σ3)))))))))
theorem ob_X7_holds_61 {G : KW} {l : Launch}   {K : Int32 → Sg → Option (Int32 × Sg)} {H : Int32 → Int32 → Sg → Option (Int32 × Sg)} (hK : ∀ (x1 : Int32) (σ : Sg), Okk G l cX7_holds 3 RX7 (some .boolean) (rmo 2 47) ccI 68 [none, some (.int x1), none] [] σ (K x1 σ)) (hH : ∀ (x1 : Int32) (x2 : Int32) (σ : Sg), Okk G l cX7_holds 3 RX7 (some .boolean) (rmo 2 47) ccI 4 [some (k_rr G 100), some (.int x1), some (.int x2)] [] σ (H x1 x2 σ)) (x2 : Int32) (s0 : Int32)  (σ : Sg) : Okk G l cX7_holds 3 RX7 (some .boolean) (rmo 2 47) ccI 61 [some (k_rr G 100), none, some (.int x2)] [.int s0] σ (b_X7_holds_61  K H x2 s0 σ) := by
  unfold b_X7_holds_61
  refine ok_istore1 (dq_of td_X7_holds 39 rfl) rfl (by decide) ?_
  refine ok_jinc2 (w := 1) (dq_of td_X7_holds 40 rfl) (by decide) rfl (by decide) ?_
  refine ok_goto (tgt := 4) (dq_of td_X7_holds 41 rfl) (by decide) ?_
  refine ok_wk (wk_s (wk_s (wk_s wk_0))) ?_
  exact hH _ _ _
theorem ob_X7_holds_60 {G : KW} {l : Launch}   {K : Int32 → Sg → Option (Int32 × Sg)} {H : Int32 → Int32 → Sg → Option (Int32 × Sg)} (hK : ∀ (x1 : Int32) (σ : Sg), Okk G l cX7_holds 3 RX7 (some .boolean) (rmo 2 47) ccI 68 [none, some (.int x1), none] [] σ (K x1 σ)) (hH : ∀ (x1 : Int32) (x2 : Int32) (σ : Sg), Okk G l cX7_holds 3 RX7 (some .boolean) (rmo 2 47) ccI 4 [some (k_rr G 100), some (.int x1), some (.int x2)] [] σ (H x1 x2 σ)) (x2 : Int32)  (σ : Sg) : Okk G l cX7_holds 3 RX7 (some .boolean) (rmo 2 47) ccI 60 [some (k_rr G 100), none, some (.int x2)] [] σ (b_X7_holds_60  K H x2 σ) := by
  unfold b_X7_holds_60
  refine ok_iconst (v := 0) (dq_of td_X7_holds 38 rfl) (by decide) ?_
  refine ok_wk (wk_s (wk_n (wk_s wk_0))) ?_
  exact ob_X7_holds_61   hK hH _ _  _
theorem od_X7_holds_4 {G : KW} {l : Launch}   {K : Int32 → Sg → Option (Int32 × Sg)} {H : Int32 → Int32 → Sg → Option (Int32 × Sg)} (hK : ∀ (x1 : Int32) (σ : Sg), Okk G l cX7_holds 3 RX7 (some .boolean) (rmo 2 47) ccI 68 [none, some (.int x1), none] [] σ (K x1 σ)) (hH : ∀ (x1 : Int32) (x2 : Int32) (σ : Sg), Okk G l cX7_holds 3 RX7 (some .boolean) (rmo 2 47) ccI 4 [some (k_rr G 100), some (.int x1), some (.int x2)] [] σ (H x1 x2 σ)) (x1 : Int32) (x2 : Int32)  (σ : Sg) : Okk G l cX7_holds 3 RX7 (some .boolean) (rmo 2 47) ccI 4 [some (k_rr G 100), some (.int x1), some (.int x2)] [] σ (d_X7_holds_4  K H x1 x2 σ) := by
  unfold d_X7_holds_4
  refine ok_iload2 (dq_of td_X7_holds 4 rfl) ?_
  refine ok_aload0 (dq_of td_X7_holds 5 rfl) ?_
  refine ok_get (v := .int (σ 100 14)) fl_X7_207 (by decide) ko_100 rfl (dq_of td_X7_holds 6 rfl) ?_
  refine ok_ic_ge (tgt := 68) (dq_of td_X7_holds 7 rfl) (by decide) ?_ ?_
  · refine ok_wk (wk_n (wk_s (wk_n wk_0))) ?_
    exact hK _ _
  · refine ok_iload1 (dq_of td_X7_holds 8 rfl) ?_
    refine ok_if_eq (tgt := 68) (dq_of td_X7_holds 9 rfl) (by decide) ?_ ?_
    · refine ok_wk (wk_n (wk_s (wk_n wk_0))) ?_
      exact hK _ _
    · refine ok_aload0 (dq_of td_X7_holds 10 rfl) ?_
      refine ok_aload0 (dq_of td_X7_holds 11 rfl) ?_
      refine ok_get (v := k_rr G 112) fl_X7_47 (by decide) ko_100 rfl (dq_of td_X7_holds 12 rfl) ?_
      refine ok_iconst (v := 2) (dq_of td_X7_holds 13 rfl) (by decide) ?_
      refine ok_iload2 (dq_of td_X7_holds 14 rfl) ?_
      refine ok_imul (dq_of td_X7_holds 15 rfl) ?_
      refine ok_iald ka_112 (dq_of td_X7_holds 16 rfl) ?_
      refine call_X7_isThere ml_X7_95  ⟨Nat.le_of_ble_eq_true rfl, Nat.le_of_ble_eq_true rfl⟩ ⟨Nat.zero_le _, Nat.zero_le _⟩ (Nat.le_of_ble_eq_true rfl) (dq_of td_X7_holds 17 rfl) (fun r2 σ1 => ?_)
      refine ok_if_eq (tgt := 60) (dq_of td_X7_holds 18 rfl) (by decide) ?_ ?_
      · refine ok_wk (wk_s (wk_n (wk_s wk_0))) ?_
        exact ob_X7_holds_60   hK hH _  _
      · refine ok_aload0 (dq_of td_X7_holds 19 rfl) ?_
        refine ok_aload0 (dq_of td_X7_holds 20 rfl) ?_
        refine ok_get (v := k_rr G 112) fl_X7_47 (by decide) ko_100 rfl (dq_of td_X7_holds 21 rfl) ?_
        refine ok_iconst (v := 2) (dq_of td_X7_holds 22 rfl) (by decide) ?_
        refine ok_iload2 (dq_of td_X7_holds 23 rfl) ?_
        refine ok_imul (dq_of td_X7_holds 24 rfl) ?_
        refine ok_iald ka_112 (dq_of td_X7_holds 25 rfl) ?_
        refine call_X7_seatOf ml_X7_126  ⟨Nat.le_of_ble_eq_true rfl, Nat.le_of_ble_eq_true rfl⟩ ⟨Nat.zero_le _, Nat.zero_le _⟩ (Nat.le_of_ble_eq_true rfl) (dq_of td_X7_holds 26 rfl) (fun r4 σ3 => ?_)
        refine ok_aload0 (dq_of td_X7_holds 27 rfl) ?_
        refine ok_get (v := k_rr G 112) fl_X7_47 (by decide) ko_100 rfl (dq_of td_X7_holds 28 rfl) ?_
        refine ok_iconst (v := 2) (dq_of td_X7_holds 29 rfl) (by decide) ?_
        refine ok_iload2 (dq_of td_X7_holds 30 rfl) ?_
        refine ok_imul (dq_of td_X7_holds 31 rfl) ?_
        refine ok_iconst (v := 1) (dq_of td_X7_holds 32 rfl) (by decide) ?_
        refine ok_iadd (dq_of td_X7_holds 33 rfl) ?_
        refine ok_iald ka_112 (dq_of td_X7_holds 34 rfl) ?_
        refine ok_ic_ne (tgt := 60) (dq_of td_X7_holds 35 rfl) (by decide) ?_ ?_
        · refine ok_wk (wk_s (wk_n (wk_s wk_0))) ?_
          exact ob_X7_holds_60   hK hH _  _
        · refine ok_iconst (v := 1) (dq_of td_X7_holds 36 rfl) (by decide) ?_
          refine ok_goto (tgt := 61) (dq_of td_X7_holds 37 rfl) (by decide) ?_
          refine ok_wk (wk_s (wk_n (wk_s wk_0))) ?_
          exact ob_X7_holds_61   hK hH _ _  _
theorem ld_X7_holds_4 {G : KW} {l : Launch}   {K : Int32 → Sg → Option (Int32 × Sg)} (hK : ∀ (x1 : Int32) (σ : Sg), Okk G l cX7_holds 3 RX7 (some .boolean) (rmo 2 47) ccI 68 [none, some (.int x1), none] [] σ (K x1 σ)) (n : Nat) (x1 : Int32) (x2 : Int32) (σ : Sg) : Okk G l cX7_holds 3 RX7 (some .boolean) (rmo 2 47) ccI 4 [some (k_rr G 100), some (.int x1), some (.int x2)] [] σ (e_lp2 (d_X7_holds_4  K) n x1 x2 σ) :=
  ok_lp2 (Lf := fun (x1 : Int32) (x2 : Int32) => [some (k_rr G 100), some (.int x1), some (.int x2)]) (fun _ hH x1 x2 σ => od_X7_holds_4   hK hH x1 x2 σ) n x1 x2 σ
def m_X7_holds  (σ : Sg) : Option (Int32 × Sg) := e_lp2 (d_X7_holds_4  (fun x1q5 σ5 => e_rz x1q5 σ5)) e_F 1 0 σ
theorem om_X7_holds {G : KW} {l : Launch}   (σ : Sg) : Okk G l cX7_holds 3 RX7 (some .boolean) (rmo 2 47) ccI 0 [some (k_rr G 100), none, none] [] σ (m_X7_holds  σ) := by
  unfold m_X7_holds
  refine ok_iconst (v := 1) (dq_of td_X7_holds 0 rfl) (by decide) ?_
  refine ok_istore1 (dq_of td_X7_holds 1 rfl) rfl (by decide) ?_
  refine ok_iconst (v := 0) (dq_of td_X7_holds 2 rfl) (by decide) ?_
  refine ok_istore2 (dq_of td_X7_holds 3 rfl) rfl (by decide) ?_
  refine ok_wk (wk_s (wk_s (wk_s wk_0))) ?_
  refine ld_X7_holds_4   (fun x1q5 σ5 => ?_) _ _ _ _
  refine ok_iload1 (dq_of td_X7_holds 42 rfl) ?_
  exact ok_zret (dq_of td_X7_holds 43 rfl)
theorem ct_X7_holds {G : KW} {l : Launch}   (σ : Sg) : ∀ b, m_X7_holds  σ = some b → MetF G l yX7_holds cX7_holds 3 (some .boolean) 2 47 [k_rr G 100] (k_wl G σ) (ccI b).1 (k_wl G (ccI b).2) :=
  met_of (by decide) (Nat.le_of_ble_eq_true rfl) rfl (om_X7_holds   σ)
theorem call_X7_holds {G : KW} {l : Launch} {cc : ByteArray} {nL : Nat} {own : String} {rt : Option FieldType} {R : Room} {α : Type} {X : State → Array Value → Method → Prop} {Z : α → List Frame → Array Value → State → State → Prop} {k0 n0 pc index : Nat} {L : List (Option Value)} {S : List Value} {σ : Sg} {F : Int32 → Sg → Option α}  (lk : MLk own index yX7_holds)  (hR : R.frames ≥ 2 + 1 ∧ R.locals ≥ 8 + (3 + 11) + 47) (hcs : k0 ≤ R.cells ∧ n0 ≤ R.slots) (hro : (S.map fun v => v.category).sum ≤ 8) (d : decode cc pc = .ok (.invokevirtual index, 3)) (kk : ∀ (r : Int32) (σ' : Sg), Okg G l cc nL own rt R X Z k0 n0 (pc + 3) L (.int r :: S) σ' (F r σ')) : Okg G l cc nL own rt R X Z k0 n0 pc L (k_rr G 100 :: S) σ (e_cI (m_X7_holds  σ) F) :=
  ok_cV (cb := ccI) (As := []) (ct_X7_holds   σ) mo_X7_holds hi_X7_holds lk rfl (ci := 7) rfl rfl (by decide) ko_100 hR rfl hcs hro d (fun b => kk b.1 b.2)
/-! CoatDinnerModel.fit(I)I -/
def b_X7_fit_86 (x1 : Int32) (K : Int32 → Int32 → Int32 → Sg → Option (Int32 × Sg)) (H : Int32 → Int32 → Int32 → Int32 → Sg → Option (Int32 × Sg)) (x2 : Int32) (x4 : Int32) (x5 : Int32) (s0 : Int32) (s1 : Int32) (σ : Sg) : Option (Int32 × Sg) := e_lt (s1 ||| s0) (fun v7 => H x2 v7 x4 (x5 + 1) σ)
def d_X7_fit_60 (x1 : Int32) (K : Int32 → Int32 → Int32 → Sg → Option (Int32 × Sg)) (H : Int32 → Int32 → Int32 → Int32 → Sg → Option (Int32 × Sg)) (x2 : Int32) (x3 : Int32) (x4 : Int32) (x5 : Int32) (σ : Sg) : Option (Int32 × Sg) := (if 5 ≤ x5 then K x2 x3 x4 σ else e_gd (k_in x5 5) ((if (σ 114 (Int32.toNatClampNeg x5)) = x1 then b_X7_fit_86 x1 K H x2 x4 x5 (jsl 1 x5) x3 σ else b_X7_fit_86 x1 K H x2 x4 x5 0 x3 σ)))
def b_X7_fit_113 (x1 : Int32) (K : Int32 → Int32 → Sg → Option (Int32 × Sg)) (H : Int32 → Int32 → Int32 → Sg → Option (Int32 × Sg)) (x2 : Int32) (x4 : Int32) (s0 : Int32) (s1 : Int32) (σ : Sg) : Option (Int32 × Sg) := e_lt (s1 ||| s0) (fun v9 => H x2 v9 (x4 + 1) σ)
def b_X7_fit_112 (x1 : Int32) (K : Int32 → Int32 → Sg → Option (Int32 × Sg)) (H : Int32 → Int32 → Int32 → Sg → Option (Int32 × Sg)) (x2 : Int32) (x4 : Int32) (s0 : Int32) (σ : Sg) : Option (Int32 × Sg) := b_X7_fit_113 x1 K H x2 x4 0 s0 σ
def d_X7_fit_26 (x1 : Int32) (K : Int32 → Int32 → Sg → Option (Int32 × Sg)) (H : Int32 → Int32 → Int32 → Sg → Option (Int32 × Sg)) (x2 : Int32) (x3 : Int32) (x4 : Int32) (σ : Sg) : Option (Int32 × Sg) := (if 7776 ≤ x4 then K x2 x3 σ else e_cV (m_X7_dress x4 σ) (fun σ2 => e_cI (m_X7_isWay σ2) (fun r4 σ3 => (if r4 = 0 then H x2 x3 (x4 + 1) σ3 else e_cI (m_X7_holds σ3) (fun r6 σ5 => (if r6 = 0 then H x2 x3 (x4 + 1) σ5 else e_lp4 (d_X7_fit_60 x1 (fun x2q8 x3q8 x4q8 σ8 => (if x1 < 0 then b_X7_fit_112 x1 K H x2q8 x4q8 x3q8 σ8 else e_cI (m_X7_many x1 σ8) (fun r11 σ10 => (if r11 = 0 then b_X7_fit_113 x1 K H x2q8 x4q8 32 x3q8 σ10 else b_X7_fit_112 x1 K H x2q8 x4q8 x3q8 σ10))))) e_F (x2 + 1) x3 x4 0 σ5))))))
def b_X7_fit_15 (x1 : Int32)  (σ : Sg) : Option (Int32 × Sg) := e_cV (m_X7_asNow σ) (fun σ1 => e_lp3 (d_X7_fit_26 x1 (fun x2q12 x3q12 σ12 => (if 0 ≤ x1 then some (x3q12, σ12) else some (x2q12, σ12)))) e_F 0 0 0 σ1)
theorem ob_X7_fit_86 {G : KW} {l : Launch} (x1 : Int32)  {K : Int32 → Int32 → Int32 → Sg → Option (Int32 × Sg)} {H : Int32 → Int32 → Int32 → Int32 → Sg → Option (Int32 × Sg)} (hK : ∀ (x2 : Int32) (x3 : Int32) (x4 : Int32) (σ : Sg), Okk G l cX7_fit 6 RX7 (some .int) (rmo 3 69) ccI 94 [some (k_rr G 100), some (.int x1), some (.int x2), some (.int x3), some (.int x4), none] [] σ (K x2 x3 x4 σ)) (hH : ∀ (x2 : Int32) (x3 : Int32) (x4 : Int32) (x5 : Int32) (σ : Sg), Okk G l cX7_fit 6 RX7 (some .int) (rmo 3 69) ccI 60 [some (k_rr G 100), some (.int x1), some (.int x2), some (.int x3), some (.int x4), some (.int x5)] [] σ (H x2 x3 x4 x5 σ)) (x2 : Int32) (x4 : Int32) (x5 : Int32) (s0 : Int32) (s1 : Int32)  (σ : Sg) : Okk G l cX7_fit 6 RX7 (some .int) (rmo 3 69) ccI 86 [some (k_rr G 100), some (.int x1), some (.int x2), none, some (.int x4), some (.int x5)] [.int s0, .int s1] σ (b_X7_fit_86 x1 K H x2 x4 x5 s0 s1 σ) := by
  unfold b_X7_fit_86
  refine ok_ior (dq_of td_X7_fit 47 rfl) ?_
  refine ok_gI (fun v7 => ?_)
  refine ok_istore3 (dq_of td_X7_fit 48 rfl) rfl (by decide) ?_
  refine ok_jinc5 (w := 1) (dq_of td_X7_fit 49 rfl) (by decide) rfl (by decide) ?_
  refine ok_goto (tgt := 60) (dq_of td_X7_fit 50 rfl) (by decide) ?_
  refine ok_wk (wk_s (wk_s (wk_s (wk_s (wk_s (wk_s wk_0)))))) ?_
  exact hH _ _ _ _ _
theorem od_X7_fit_60 {G : KW} {l : Launch} (x1 : Int32)  {K : Int32 → Int32 → Int32 → Sg → Option (Int32 × Sg)} {H : Int32 → Int32 → Int32 → Int32 → Sg → Option (Int32 × Sg)} (hK : ∀ (x2 : Int32) (x3 : Int32) (x4 : Int32) (σ : Sg), Okk G l cX7_fit 6 RX7 (some .int) (rmo 3 69) ccI 94 [some (k_rr G 100), some (.int x1), some (.int x2), some (.int x3), some (.int x4), none] [] σ (K x2 x3 x4 σ)) (hH : ∀ (x2 : Int32) (x3 : Int32) (x4 : Int32) (x5 : Int32) (σ : Sg), Okk G l cX7_fit 6 RX7 (some .int) (rmo 3 69) ccI 60 [some (k_rr G 100), some (.int x1), some (.int x2), some (.int x3), some (.int x4), some (.int x5)] [] σ (H x2 x3 x4 x5 σ)) (x2 : Int32) (x3 : Int32) (x4 : Int32) (x5 : Int32)  (σ : Sg) : Okk G l cX7_fit 6 RX7 (some .int) (rmo 3 69) ccI 60 [some (k_rr G 100), some (.int x1), some (.int x2), some (.int x3), some (.int x4), some (.int x5)] [] σ (d_X7_fit_60 x1 K H x2 x3 x4 x5 σ) := by
  unfold d_X7_fit_60
  refine ok_iload5 (dq_of td_X7_fit 32 rfl) ?_
  refine ok_iconst (v := 5) (dq_of td_X7_fit 33 rfl) (by decide) ?_
  refine ok_ic_ge (tgt := 94) (dq_of td_X7_fit 34 rfl) (by decide) ?_ ?_
  · refine ok_wk (wk_s (wk_s (wk_s (wk_s (wk_s (wk_n wk_0)))))) ?_
    exact hK _ _ _ _
  · refine ok_iload3 (dq_of td_X7_fit 35 rfl) ?_
    refine ok_aload0 (dq_of td_X7_fit 36 rfl) ?_
    refine ok_get (v := k_rr G 114) fl_X7_53 (by decide) ko_100 rfl (dq_of td_X7_fit 37 rfl) ?_
    refine ok_iload5 (dq_of td_X7_fit 38 rfl) ?_
    refine ok_iald ka_114 (dq_of td_X7_fit 39 rfl) ?_
    refine ok_iload1 (dq_of td_X7_fit 40 rfl) ?_
    refine ok_ic_ne (tgt := 85) (dq_of td_X7_fit 41 rfl) (by decide) ?_ ?_
    · refine ok_iconst (v := 0) (dq_of td_X7_fit 46 rfl) (by decide) ?_
      refine ok_wk (wk_s (wk_s (wk_s (wk_n (wk_s (wk_s wk_0)))))) ?_
      exact ob_X7_fit_86 _  hK hH _ _ _ _ _  _
    · refine ok_iconst (v := 1) (dq_of td_X7_fit 42 rfl) (by decide) ?_
      refine ok_iload5 (dq_of td_X7_fit 43 rfl) ?_
      refine ok_ishl (dq_of td_X7_fit 44 rfl) ?_
      refine ok_goto (tgt := 86) (dq_of td_X7_fit 45 rfl) (by decide) ?_
      refine ok_wk (wk_s (wk_s (wk_s (wk_n (wk_s (wk_s wk_0)))))) ?_
      exact ob_X7_fit_86 _  hK hH _ _ _ _ _  _
theorem ld_X7_fit_60 {G : KW} {l : Launch} (x1 : Int32)  {K : Int32 → Int32 → Int32 → Sg → Option (Int32 × Sg)} (hK : ∀ (x2 : Int32) (x3 : Int32) (x4 : Int32) (σ : Sg), Okk G l cX7_fit 6 RX7 (some .int) (rmo 3 69) ccI 94 [some (k_rr G 100), some (.int x1), some (.int x2), some (.int x3), some (.int x4), none] [] σ (K x2 x3 x4 σ)) (n : Nat) (x2 : Int32) (x3 : Int32) (x4 : Int32) (x5 : Int32) (σ : Sg) : Okk G l cX7_fit 6 RX7 (some .int) (rmo 3 69) ccI 60 [some (k_rr G 100), some (.int x1), some (.int x2), some (.int x3), some (.int x4), some (.int x5)] [] σ (e_lp4 (d_X7_fit_60 x1 K) n x2 x3 x4 x5 σ) :=
  ok_lp4 (Lf := fun (x2 : Int32) (x3 : Int32) (x4 : Int32) (x5 : Int32) => [some (k_rr G 100), some (.int x1), some (.int x2), some (.int x3), some (.int x4), some (.int x5)]) (fun _ hH x2 x3 x4 x5 σ => od_X7_fit_60 _  hK hH x2 x3 x4 x5 σ) n x2 x3 x4 x5 σ
theorem ob_X7_fit_113 {G : KW} {l : Launch} (x1 : Int32)  {K : Int32 → Int32 → Sg → Option (Int32 × Sg)} {H : Int32 → Int32 → Int32 → Sg → Option (Int32 × Sg)} (hK : ∀ (x2 : Int32) (x3 : Int32) (σ : Sg), Okk G l cX7_fit 6 RX7 (some .int) (rmo 3 69) ccI 121 [none, some (.int x1), some (.int x2), some (.int x3), none, none] [] σ (K x2 x3 σ)) (hH : ∀ (x2 : Int32) (x3 : Int32) (x4 : Int32) (σ : Sg), Okk G l cX7_fit 6 RX7 (some .int) (rmo 3 69) ccI 26 [some (k_rr G 100), some (.int x1), some (.int x2), some (.int x3), some (.int x4), none] [] σ (H x2 x3 x4 σ)) (x2 : Int32) (x4 : Int32) (s0 : Int32) (s1 : Int32)  (σ : Sg) : Okk G l cX7_fit 6 RX7 (some .int) (rmo 3 69) ccI 113 [some (k_rr G 100), some (.int x1), some (.int x2), none, some (.int x4), none] [.int s0, .int s1] σ (b_X7_fit_113 x1 K H x2 x4 s0 s1 σ) := by
  unfold b_X7_fit_113
  refine ok_ior (dq_of td_X7_fit 61 rfl) ?_
  refine ok_gI (fun v9 => ?_)
  refine ok_istore3 (dq_of td_X7_fit 62 rfl) rfl (by decide) ?_
  refine ok_jinc4 (w := 1) (dq_of td_X7_fit 63 rfl) (by decide) rfl (by decide) ?_
  refine ok_goto (tgt := 26) (dq_of td_X7_fit 64 rfl) (by decide) ?_
  refine ok_wk (wk_s (wk_s (wk_s (wk_s (wk_s (wk_n wk_0)))))) ?_
  exact hH _ _ _ _
theorem ob_X7_fit_112 {G : KW} {l : Launch} (x1 : Int32)  {K : Int32 → Int32 → Sg → Option (Int32 × Sg)} {H : Int32 → Int32 → Int32 → Sg → Option (Int32 × Sg)} (hK : ∀ (x2 : Int32) (x3 : Int32) (σ : Sg), Okk G l cX7_fit 6 RX7 (some .int) (rmo 3 69) ccI 121 [none, some (.int x1), some (.int x2), some (.int x3), none, none] [] σ (K x2 x3 σ)) (hH : ∀ (x2 : Int32) (x3 : Int32) (x4 : Int32) (σ : Sg), Okk G l cX7_fit 6 RX7 (some .int) (rmo 3 69) ccI 26 [some (k_rr G 100), some (.int x1), some (.int x2), some (.int x3), some (.int x4), none] [] σ (H x2 x3 x4 σ)) (x2 : Int32) (x4 : Int32) (s0 : Int32)  (σ : Sg) : Okk G l cX7_fit 6 RX7 (some .int) (rmo 3 69) ccI 112 [some (k_rr G 100), some (.int x1), some (.int x2), none, some (.int x4), none] [.int s0] σ (b_X7_fit_112 x1 K H x2 x4 s0 σ) := by
  unfold b_X7_fit_112
  refine ok_iconst (v := 0) (dq_of td_X7_fit 60 rfl) (by decide) ?_
  refine ok_wk (wk_s (wk_s (wk_s (wk_n (wk_s (wk_n wk_0)))))) ?_
  exact ob_X7_fit_113 _  hK hH _ _ _ _  _
theorem od_X7_fit_26 {G : KW} {l : Launch} (x1 : Int32)  {K : Int32 → Int32 → Sg → Option (Int32 × Sg)} {H : Int32 → Int32 → Int32 → Sg → Option (Int32 × Sg)} (hK : ∀ (x2 : Int32) (x3 : Int32) (σ : Sg), Okk G l cX7_fit 6 RX7 (some .int) (rmo 3 69) ccI 121 [none, some (.int x1), some (.int x2), some (.int x3), none, none] [] σ (K x2 x3 σ)) (hH : ∀ (x2 : Int32) (x3 : Int32) (x4 : Int32) (σ : Sg), Okk G l cX7_fit 6 RX7 (some .int) (rmo 3 69) ccI 26 [some (k_rr G 100), some (.int x1), some (.int x2), some (.int x3), some (.int x4), none] [] σ (H x2 x3 x4 σ)) (x2 : Int32) (x3 : Int32) (x4 : Int32)  (σ : Sg) : Okk G l cX7_fit 6 RX7 (some .int) (rmo 3 69) ccI 26 [some (k_rr G 100), some (.int x1), some (.int x2), some (.int x3), some (.int x4), none] [] σ (d_X7_fit_26 x1 K H x2 x3 x4 σ) := by
  unfold d_X7_fit_26
  refine ok_iload4 (dq_of td_X7_fit 17 rfl) ?_
  refine ok_sipush (v := 7776) (dq_of td_X7_fit 18 rfl) (by decide) ?_
  refine ok_ic_ge (tgt := 121) (dq_of td_X7_fit 19 rfl) (by decide) ?_ ?_
  · refine ok_wk (wk_n (wk_s (wk_s (wk_s (wk_n (wk_n wk_0)))))) ?_
    exact hK _ _ _
  · refine ok_aload0 (dq_of td_X7_fit 20 rfl) ?_
    refine ok_iload4 (dq_of td_X7_fit 21 rfl) ?_
    refine call_X7_dress ml_X7_165  ⟨Nat.le_of_ble_eq_true rfl, Nat.le_of_ble_eq_true rfl⟩ ⟨Nat.zero_le _, Nat.zero_le _⟩ (Nat.le_of_ble_eq_true rfl) (dq_of td_X7_fit 22 rfl) (fun σ2 => ?_)
    refine ok_aload0 (dq_of td_X7_fit 23 rfl) ?_
    refine call_X7_isWay ml_X7_182  ⟨Nat.le_of_ble_eq_true rfl, Nat.le_of_ble_eq_true rfl⟩ ⟨Nat.zero_le _, Nat.zero_le _⟩ (Nat.le_of_ble_eq_true rfl) (dq_of td_X7_fit 24 rfl) (fun r4 σ3 => ?_)
    refine ok_if_eq (tgt := 115) (dq_of td_X7_fit 25 rfl) (by decide) ?_ ?_
    · refine ok_jinc4 (w := 1) (dq_of td_X7_fit 63 rfl) (by decide) rfl (by decide) ?_
      refine ok_goto (tgt := 26) (dq_of td_X7_fit 64 rfl) (by decide) ?_
      refine ok_wk (wk_s (wk_s (wk_s (wk_s (wk_s (wk_n wk_0)))))) ?_
      exact hH _ _ _ _
    · refine ok_aload0 (dq_of td_X7_fit 26 rfl) ?_
      refine call_X7_holds ml_X7_210  ⟨Nat.le_of_ble_eq_true rfl, Nat.le_of_ble_eq_true rfl⟩ ⟨Nat.zero_le _, Nat.zero_le _⟩ (Nat.le_of_ble_eq_true rfl) (dq_of td_X7_fit 27 rfl) (fun r6 σ5 => ?_)
      refine ok_if_eq (tgt := 115) (dq_of td_X7_fit 28 rfl) (by decide) ?_ ?_
      · refine ok_jinc4 (w := 1) (dq_of td_X7_fit 63 rfl) (by decide) rfl (by decide) ?_
        refine ok_goto (tgt := 26) (dq_of td_X7_fit 64 rfl) (by decide) ?_
        refine ok_wk (wk_s (wk_s (wk_s (wk_s (wk_s (wk_n wk_0)))))) ?_
        exact hH _ _ _ _
      · refine ok_jinc2 (w := 1) (dq_of td_X7_fit 29 rfl) (by decide) rfl (by decide) ?_
        refine ok_iconst (v := 0) (dq_of td_X7_fit 30 rfl) (by decide) ?_
        refine ok_istore5 (dq_of td_X7_fit 31 rfl) rfl (by decide) ?_
        refine ok_wk (wk_s (wk_s (wk_s (wk_s (wk_s (wk_s wk_0)))))) ?_
        refine ld_X7_fit_60 _  (fun x2q8 x3q8 x4q8 σ8 => ?_) _ _ _ _ _ _
        refine ok_iload3 (dq_of td_X7_fit 51 rfl) ?_
        refine ok_iload1 (dq_of td_X7_fit 52 rfl) ?_
        refine ok_if_lt (tgt := 112) (dq_of td_X7_fit 53 rfl) (by decide) ?_ ?_
        · refine ok_wk (wk_s (wk_s (wk_s (wk_n (wk_s (wk_n wk_0)))))) ?_
          exact ob_X7_fit_112 _  hK hH _ _ _  _
        · refine ok_aload0 (dq_of td_X7_fit 54 rfl) ?_
          refine ok_iload1 (dq_of td_X7_fit 55 rfl) ?_
          refine call_X7_many ml_X7_129  ⟨Nat.le_of_ble_eq_true rfl, Nat.le_of_ble_eq_true rfl⟩ ⟨Nat.zero_le _, Nat.zero_le _⟩ (Nat.le_of_ble_eq_true rfl) (dq_of td_X7_fit 56 rfl) (fun r11 σ10 => ?_)
          refine ok_if_ne (tgt := 112) (dq_of td_X7_fit 57 rfl) (by decide) ?_ ?_
          · refine ok_wk (wk_s (wk_s (wk_s (wk_n (wk_s (wk_n wk_0)))))) ?_
            exact ob_X7_fit_112 _  hK hH _ _ _  _
          · refine ok_bipush (v := 32) (dq_of td_X7_fit 58 rfl) (by decide) ?_
            refine ok_goto (tgt := 113) (dq_of td_X7_fit 59 rfl) (by decide) ?_
            refine ok_wk (wk_s (wk_s (wk_s (wk_n (wk_s (wk_n wk_0)))))) ?_
            exact ob_X7_fit_113 _  hK hH _ _ _ _  _
theorem ld_X7_fit_26 {G : KW} {l : Launch} (x1 : Int32)  {K : Int32 → Int32 → Sg → Option (Int32 × Sg)} (hK : ∀ (x2 : Int32) (x3 : Int32) (σ : Sg), Okk G l cX7_fit 6 RX7 (some .int) (rmo 3 69) ccI 121 [none, some (.int x1), some (.int x2), some (.int x3), none, none] [] σ (K x2 x3 σ)) (n : Nat) (x2 : Int32) (x3 : Int32) (x4 : Int32) (σ : Sg) : Okk G l cX7_fit 6 RX7 (some .int) (rmo 3 69) ccI 26 [some (k_rr G 100), some (.int x1), some (.int x2), some (.int x3), some (.int x4), none] [] σ (e_lp3 (d_X7_fit_26 x1 K) n x2 x3 x4 σ) :=
  ok_lp3 (Lf := fun (x2 : Int32) (x3 : Int32) (x4 : Int32) => [some (k_rr G 100), some (.int x1), some (.int x2), some (.int x3), some (.int x4), none]) (fun _ hH x2 x3 x4 σ => od_X7_fit_26 _  hK hH x2 x3 x4 σ) n x2 x3 x4 σ
theorem ob_X7_fit_15 {G : KW} {l : Launch} (x1 : Int32)    (σ : Sg) : Okk G l cX7_fit 6 RX7 (some .int) (rmo 3 69) ccI 15 [some (k_rr G 100), some (.int x1), none, none, none, none] [] σ (b_X7_fit_15 x1  σ) := by
  unfold b_X7_fit_15
  refine ok_aload0 (dq_of td_X7_fit 9 rfl) ?_
  refine call_X7_asNow ml_X7_132  ⟨Nat.le_of_ble_eq_true rfl, Nat.le_of_ble_eq_true rfl⟩ ⟨Nat.zero_le _, Nat.zero_le _⟩ (Nat.le_of_ble_eq_true rfl) (dq_of td_X7_fit 10 rfl) (fun σ1 => ?_)
  refine ok_iconst (v := 0) (dq_of td_X7_fit 11 rfl) (by decide) ?_
  refine ok_istore2 (dq_of td_X7_fit 12 rfl) rfl (by decide) ?_
  refine ok_iconst (v := 0) (dq_of td_X7_fit 13 rfl) (by decide) ?_
  refine ok_istore3 (dq_of td_X7_fit 14 rfl) rfl (by decide) ?_
  refine ok_iconst (v := 0) (dq_of td_X7_fit 15 rfl) (by decide) ?_
  refine ok_istore4 (dq_of td_X7_fit 16 rfl) rfl (by decide) ?_
  refine ok_wk (wk_s (wk_s (wk_s (wk_s (wk_s (wk_n wk_0)))))) ?_
  refine ld_X7_fit_26 _  (fun x2q12 x3q12 σ12 => ?_) _ _ _ _ _
  refine ok_iload1 (dq_of td_X7_fit 65 rfl) ?_
  refine ok_if_ge (tgt := 129) (dq_of td_X7_fit 66 rfl) (by decide) ?_ ?_
  · refine ok_iload3 (dq_of td_X7_fit 69 rfl) ?_
    exact ok_iret (dq_of td_X7_fit 70 rfl)
  · refine ok_iload2 (dq_of td_X7_fit 67 rfl) ?_
    refine ok_goto (tgt := 130) (dq_of td_X7_fit 68 rfl) (by decide) ?_
    exact ok_iret (dq_of td_X7_fit 70 rfl)
def m_X7_fit (x1 : Int32) (σ : Sg) : Option (Int32 × Sg) := (if x1 = ((-1)) then b_X7_fit_15 x1 σ else e_cI (m_X7_isCoat x1 σ) (fun r14 σ13 => (if r14 = 0 then some ((-1), σ13) else b_X7_fit_15 x1 σ13)))
theorem om_X7_fit {G : KW} {l : Launch} (x1 : Int32)  (σ : Sg) : Okk G l cX7_fit 6 RX7 (some .int) (rmo 3 69) ccI 0 [some (k_rr G 100), some (.int x1), none, none, none, none] [] σ (m_X7_fit x1 σ) := by
  unfold m_X7_fit
  refine ok_iload1 (dq_of td_X7_fit 0 rfl) ?_
  refine ok_iconst (v := (-1)) (dq_of td_X7_fit 1 rfl) (by decide) ?_
  refine ok_ic_eq (tgt := 15) (dq_of td_X7_fit 2 rfl) (by decide) ?_ ?_
  · refine ok_wk (wk_s (wk_s (wk_n (wk_n (wk_n (wk_n wk_0)))))) ?_
    exact ob_X7_fit_15 _   _
  · refine ok_aload0 (dq_of td_X7_fit 3 rfl) ?_
    refine ok_iload1 (dq_of td_X7_fit 4 rfl) ?_
    refine call_X7_isCoat ml_X7_107  ⟨Nat.le_of_ble_eq_true rfl, Nat.le_of_ble_eq_true rfl⟩ ⟨Nat.zero_le _, Nat.zero_le _⟩ (Nat.le_of_ble_eq_true rfl) (dq_of td_X7_fit 5 rfl) (fun r14 σ13 => ?_)
    refine ok_if_ne (tgt := 15) (dq_of td_X7_fit 6 rfl) (by decide) ?_ ?_
    · refine ok_wk (wk_s (wk_s (wk_n (wk_n (wk_n (wk_n wk_0)))))) ?_
      exact ob_X7_fit_15 _   _
    · refine ok_iconst (v := (-1)) (dq_of td_X7_fit 7 rfl) (by decide) ?_
      exact ok_iret (dq_of td_X7_fit 8 rfl)
theorem ct_X7_fit {G : KW} {l : Launch} (x1 : Int32)  (σ : Sg) : ∀ b, m_X7_fit x1 σ = some b → MetF G l yX7_fit cX7_fit 6 (some .int) 3 69 [k_rr G 100, .int x1] (k_wl G σ) (ccI b).1 (k_wl G (ccI b).2) :=
  met_of (by decide) (Nat.le_of_ble_eq_true rfl) rfl (om_X7_fit _  σ)
theorem call_X7_fit {G : KW} {l : Launch} {cc : ByteArray} {nL : Nat} {own : String} {rt : Option FieldType} {R : Room} {α : Type} {X : State → Array Value → Method → Prop} {Z : α → List Frame → Array Value → State → State → Prop} {k0 n0 pc index : Nat} {L : List (Option Value)} {S : List Value} {σ : Sg} {F : Int32 → Sg → Option α} {x1 : Int32} (lk : MLk own index yX7_fit)  (hR : R.frames ≥ 3 + 1 ∧ R.locals ≥ 8 + (6 + 11) + 69) (hcs : k0 ≤ R.cells ∧ n0 ≤ R.slots) (hro : (S.map fun v => v.category).sum ≤ 8) (d : decode cc pc = .ok (.invokevirtual index, 3)) (kk : ∀ (r : Int32) (σ' : Sg), Okg G l cc nL own rt R X Z k0 n0 (pc + 3) L (.int r :: S) σ' (F r σ')) : Okg G l cc nL own rt R X Z k0 n0 pc L (.int x1 :: k_rr G 100 :: S) σ (e_cI (m_X7_fit x1 σ) F) :=
  ok_cV (cb := ccI) (As := [.int x1]) (ct_X7_fit _  σ) mo_X7_fit hi_X7_fit lk rfl (ci := 7) rfl rfl (by decide) ko_100 hR rfl hcs hro d (fun b => kk b.1 b.2)
/-! CoatDinnerModel.year(III)I -/
def b_X7_year_152 (x1 : Int32) (x2 : Int32) (x3 : Int32) (K : Int32 → Sg → Option (Int32 × Sg)) (H : Int32 → Int32 → Int32 → Sg → Option (Int32 × Sg)) (x4 : Int32) (x5 : Int32) (x6 : Int32) (s0 : Int32) (σ : Sg) : Option (Int32 × Sg) := e_cV (m_X7_course s0 σ) (fun σ16 => H x4 x5 (x6 + 1) σ16)
def b_X7_year_135 (x1 : Int32) (x2 : Int32) (x3 : Int32) (K : Int32 → Sg → Option (Int32 × Sg)) (H : Int32 → Int32 → Int32 → Sg → Option (Int32 × Sg)) (x4 : Int32) (x5 : Int32) (x6 : Int32) (σ : Sg) : Option (Int32 × Sg) := (if (jrm (x4 / 25) 7) = 0 then b_X7_year_152 x1 x2 x3 K H x4 x5 x6 1 σ else b_X7_year_152 x1 x2 x3 K H x4 x5 x6 0 σ)
def b_X7_year_115 (x1 : Int32) (x2 : Int32) (x3 : Int32) (K : Int32 → Sg → Option (Int32 × Sg)) (H : Int32 → Int32 → Int32 → Sg → Option (Int32 × Sg)) (x4 : Int32) (x5 : Int32) (x6 : Int32) (x7 : Int32) (x8 : Int32) (σ : Sg) : Option (Int32 × Sg) := e_cI (m_X7_whyNotPut x7 x8 σ) (fun r15 σ14 => (if r15 = 0 then e_wr σ14 114 x7 5 x8 (fun σ17 => b_X7_year_135 x1 x2 x3 K H x4 x5 x6 σ17) else b_X7_year_135 x1 x2 x3 K H x4 x5 x6 σ14))
def d_X7_year_51 (x1 : Int32) (x2 : Int32) (x3 : Int32) (K : Int32 → Sg → Option (Int32 × Sg)) (H : Int32 → Int32 → Int32 → Sg → Option (Int32 × Sg)) (x4 : Int32) (x5 : Int32) (x6 : Int32) (σ : Sg) : Option (Int32 × Sg) := (if x2 ≤ x6 then K x5 σ else e_lt (jrm ((75 * x4) + 74) 65537) (fun v9 => e_lt (jrm v9 5) (fun v10 => e_lt (jrm (v9 / 5) 5) (fun v11 => e_cI (m_X7_isThere v10 σ) (fun r13 σ12 => (if r13 = 0 then b_X7_year_115 x1 x2 x3 K H v9 x5 x6 v10 v11 σ12 else e_gd (k_in v10 5) ((if 5 ≤ (σ12 114 (Int32.toNatClampNeg v10)) then b_X7_year_115 x1 x2 x3 K H v9 x5 x6 v10 v11 σ12 else e_wr σ12 114 v10 5 5 (fun σ18 => b_X7_year_135 x1 x2 x3 K H v9 x5 x6 σ18)))))))))
def b_X7_year_229 (x1 : Int32) (x2 : Int32) (x3 : Int32) (K : Int32 → Int32 → Int32 → Sg → Option (Int32 × Sg)) (H : Int32 → Int32 → Int32 → Int32 → Sg → Option (Int32 × Sg)) (x5 : Int32) (x6 : Int32) (x8 : Int32) (s0 : Int32) (s1 : Int32) (σ : Sg) : Option (Int32 × Sg) := e_lt (s1 + s0) (fun v25 => H x5 x6 v25 (x8 + 1) σ)
def b_X7_year_201 (x1 : Int32) (x2 : Int32) (x3 : Int32) (K : Int32 → Int32 → Int32 → Sg → Option (Int32 × Sg)) (H : Int32 → Int32 → Int32 → Int32 → Sg → Option (Int32 × Sg)) (x5 : Int32) (x7 : Int32) (x8 : Int32) (s0 : Int32) (s1 : Int32) (σ : Sg) : Option (Int32 × Sg) := e_lt (s1 + s0) (fun v22 => e_cI (m_X7_has (σ 100 1) x8 σ) (fun r24 σ23 => (if r24 = 0 then b_X7_year_229 x1 x2 x3 K H x5 v22 x8 0 x7 σ23 else e_gd (k_in x8 5) (b_X7_year_229 x1 x2 x3 K H x5 v22 x8 (σ23 118 (Int32.toNatClampNeg x8)) x7 σ23))))
def d_X7_year_170 (x1 : Int32) (x2 : Int32) (x3 : Int32) (K : Int32 → Int32 → Int32 → Sg → Option (Int32 × Sg)) (H : Int32 → Int32 → Int32 → Int32 → Sg → Option (Int32 × Sg)) (x5 : Int32) (x6 : Int32) (x7 : Int32) (x8 : Int32) (σ : Sg) : Option (Int32 × Sg) := (if 5 ≤ x8 then K x5 x6 x7 σ else e_cI (m_X7_has (σ 100 0) x8 σ) (fun r21 σ20 => (if r21 = 0 then b_X7_year_201 x1 x2 x3 K H x5 x7 x8 0 x6 σ20 else e_gd (k_in x8 5) (b_X7_year_201 x1 x2 x3 K H x5 x7 x8 (σ20 116 (Int32.toNatClampNeg x8)) x6 σ20))))
theorem ob_X7_year_152 {G : KW} {l : Launch} (x1 : Int32) (x2 : Int32) (x3 : Int32)  {K : Int32 → Sg → Option (Int32 × Sg)} {H : Int32 → Int32 → Int32 → Sg → Option (Int32 × Sg)} (hK : ∀ (x5 : Int32) (σ : Sg), Okk G l cX7_year 9 RX7 (some .int) (rmo 3 74) ccI 161 [some (k_rr G 100), none, none, some (.int x3), none, some (.int x5), none, none, none] [] σ (K x5 σ)) (hH : ∀ (x4 : Int32) (x5 : Int32) (x6 : Int32) (σ : Sg), Okk G l cX7_year 9 RX7 (some .int) (rmo 3 74) ccI 51 [some (k_rr G 100), none, some (.int x2), some (.int x3), some (.int x4), some (.int x5), some (.int x6), none, none] [] σ (H x4 x5 x6 σ)) (x4 : Int32) (x5 : Int32) (x6 : Int32) (s0 : Int32)  (σ : Sg) : Okk G l cX7_year 9 RX7 (some .int) (rmo 3 74) ccI 152 [some (k_rr G 100), none, some (.int x2), some (.int x3), some (.int x4), some (.int x5), some (.int x6), none, none] [.int s0, k_rr G 100] σ (b_X7_year_152 x1 x2 x3 K H x4 x5 x6 s0 σ) := by
  unfold b_X7_year_152
  refine call_X7_course ml_X7_141  ⟨Nat.le_of_ble_eq_true rfl, Nat.le_of_ble_eq_true rfl⟩ ⟨Nat.zero_le _, Nat.zero_le _⟩ (Nat.le_of_ble_eq_true rfl) (dq_of td_X7_year 85 rfl) (fun σ16 => ?_)
  refine ok_jinc6 (w := 1) (dq_of td_X7_year 86 rfl) (by decide) rfl (by decide) ?_
  refine ok_goto (tgt := 51) (dq_of td_X7_year 87 rfl) (by decide) ?_
  refine ok_wk (wk_s (wk_n (wk_s (wk_s (wk_s (wk_s (wk_s (wk_n (wk_n wk_0))))))))) ?_
  exact hH _ _ _ _
theorem ob_X7_year_135 {G : KW} {l : Launch} (x1 : Int32) (x2 : Int32) (x3 : Int32)  {K : Int32 → Sg → Option (Int32 × Sg)} {H : Int32 → Int32 → Int32 → Sg → Option (Int32 × Sg)} (hK : ∀ (x5 : Int32) (σ : Sg), Okk G l cX7_year 9 RX7 (some .int) (rmo 3 74) ccI 161 [some (k_rr G 100), none, none, some (.int x3), none, some (.int x5), none, none, none] [] σ (K x5 σ)) (hH : ∀ (x4 : Int32) (x5 : Int32) (x6 : Int32) (σ : Sg), Okk G l cX7_year 9 RX7 (some .int) (rmo 3 74) ccI 51 [some (k_rr G 100), none, some (.int x2), some (.int x3), some (.int x4), some (.int x5), some (.int x6), none, none] [] σ (H x4 x5 x6 σ)) (x4 : Int32) (x5 : Int32) (x6 : Int32)  (σ : Sg) : Okk G l cX7_year 9 RX7 (some .int) (rmo 3 74) ccI 135 [some (k_rr G 100), none, some (.int x2), some (.int x3), some (.int x4), some (.int x5), some (.int x6), none, none] [] σ (b_X7_year_135 x1 x2 x3 K H x4 x5 x6 σ) := by
  unfold b_X7_year_135
  refine ok_aload0 (dq_of td_X7_year 75 rfl) ?_
  refine ok_iload4 (dq_of td_X7_year 76 rfl) ?_
  refine ok_bipush (v := 25) (dq_of td_X7_year 77 rfl) (by decide) ?_
  refine ok_idiv (dq_of td_X7_year 78 rfl) (by decide) ?_
  refine ok_bipush (v := 7) (dq_of td_X7_year 79 rfl) (by decide) ?_
  refine ok_irem (dq_of td_X7_year 80 rfl) (by decide) ?_
  refine ok_if_ne (tgt := 151) (dq_of td_X7_year 81 rfl) (by decide) ?_ ?_
  · refine ok_iconst (v := 0) (dq_of td_X7_year 84 rfl) (by decide) ?_
    refine ok_wk (wk_s (wk_n (wk_s (wk_s (wk_s (wk_s (wk_s (wk_n (wk_n wk_0))))))))) ?_
    exact ob_X7_year_152 _ _ _  hK hH _ _ _ _  _
  · refine ok_iconst (v := 1) (dq_of td_X7_year 82 rfl) (by decide) ?_
    refine ok_goto (tgt := 152) (dq_of td_X7_year 83 rfl) (by decide) ?_
    refine ok_wk (wk_s (wk_n (wk_s (wk_s (wk_s (wk_s (wk_s (wk_n (wk_n wk_0))))))))) ?_
    exact ob_X7_year_152 _ _ _  hK hH _ _ _ _  _
theorem ob_X7_year_115 {G : KW} {l : Launch} (x1 : Int32) (x2 : Int32) (x3 : Int32)  {K : Int32 → Sg → Option (Int32 × Sg)} {H : Int32 → Int32 → Int32 → Sg → Option (Int32 × Sg)} (hK : ∀ (x5 : Int32) (σ : Sg), Okk G l cX7_year 9 RX7 (some .int) (rmo 3 74) ccI 161 [some (k_rr G 100), none, none, some (.int x3), none, some (.int x5), none, none, none] [] σ (K x5 σ)) (hH : ∀ (x4 : Int32) (x5 : Int32) (x6 : Int32) (σ : Sg), Okk G l cX7_year 9 RX7 (some .int) (rmo 3 74) ccI 51 [some (k_rr G 100), none, some (.int x2), some (.int x3), some (.int x4), some (.int x5), some (.int x6), none, none] [] σ (H x4 x5 x6 σ)) (x4 : Int32) (x5 : Int32) (x6 : Int32) (x7 : Int32) (x8 : Int32)  (σ : Sg) : Okk G l cX7_year 9 RX7 (some .int) (rmo 3 74) ccI 115 [some (k_rr G 100), none, some (.int x2), some (.int x3), some (.int x4), some (.int x5), some (.int x6), some (.int x7), some (.int x8)] [] σ (b_X7_year_115 x1 x2 x3 K H x4 x5 x6 x7 x8 σ) := by
  unfold b_X7_year_115
  refine ok_aload0 (dq_of td_X7_year 65 rfl) ?_
  refine ok_iload7 (dq_of td_X7_year 66 rfl) ?_
  refine ok_iload8 (dq_of td_X7_year 67 rfl) ?_
  refine call_X7_whyNotPut ml_X7_145  ⟨Nat.le_of_ble_eq_true rfl, Nat.le_of_ble_eq_true rfl⟩ ⟨Nat.zero_le _, Nat.zero_le _⟩ (Nat.le_of_ble_eq_true rfl) (dq_of td_X7_year 68 rfl) (fun r15 σ14 => ?_)
  refine ok_if_ne (tgt := 135) (dq_of td_X7_year 69 rfl) (by decide) ?_ ?_
  · refine ok_wk (wk_s (wk_n (wk_s (wk_s (wk_s (wk_s (wk_s (wk_n (wk_n wk_0))))))))) ?_
    exact ob_X7_year_135 _ _ _  hK hH _ _ _  _
  · refine ok_aload0 (dq_of td_X7_year 70 rfl) ?_
    refine ok_get (v := k_rr G 114) fl_X7_53 (by decide) ko_100 rfl (dq_of td_X7_year 71 rfl) ?_
    refine ok_iload7 (dq_of td_X7_year 72 rfl) ?_
    refine ok_iload8 (dq_of td_X7_year 73 rfl) ?_
    refine ok_iast ka_114 (dq_of td_X7_year 74 rfl) (fun σ17 => ?_)
    refine ok_wk (wk_s (wk_n (wk_s (wk_s (wk_s (wk_s (wk_s (wk_n (wk_n wk_0))))))))) ?_
    exact ob_X7_year_135 _ _ _  hK hH _ _ _  _
theorem od_X7_year_51 {G : KW} {l : Launch} (x1 : Int32) (x2 : Int32) (x3 : Int32)  {K : Int32 → Sg → Option (Int32 × Sg)} {H : Int32 → Int32 → Int32 → Sg → Option (Int32 × Sg)} (hK : ∀ (x5 : Int32) (σ : Sg), Okk G l cX7_year 9 RX7 (some .int) (rmo 3 74) ccI 161 [some (k_rr G 100), none, none, some (.int x3), none, some (.int x5), none, none, none] [] σ (K x5 σ)) (hH : ∀ (x4 : Int32) (x5 : Int32) (x6 : Int32) (σ : Sg), Okk G l cX7_year 9 RX7 (some .int) (rmo 3 74) ccI 51 [some (k_rr G 100), none, some (.int x2), some (.int x3), some (.int x4), some (.int x5), some (.int x6), none, none] [] σ (H x4 x5 x6 σ)) (x4 : Int32) (x5 : Int32) (x6 : Int32)  (σ : Sg) : Okk G l cX7_year 9 RX7 (some .int) (rmo 3 74) ccI 51 [some (k_rr G 100), none, some (.int x2), some (.int x3), some (.int x4), some (.int x5), some (.int x6), none, none] [] σ (d_X7_year_51 x1 x2 x3 K H x4 x5 x6 σ) := by
  unfold d_X7_year_51
  refine ok_iload6 (dq_of td_X7_year 28 rfl) ?_
  refine ok_iload2 (dq_of td_X7_year 29 rfl) ?_
  refine ok_ic_ge (tgt := 161) (dq_of td_X7_year 30 rfl) (by decide) ?_ ?_
  · refine ok_wk (wk_s (wk_n (wk_n (wk_s (wk_n (wk_s (wk_n (wk_n (wk_n wk_0))))))))) ?_
    exact hK _ _
  · refine ok_bipush (v := 75) (dq_of td_X7_year 31 rfl) (by decide) ?_
    refine ok_iload4 (dq_of td_X7_year 32 rfl) ?_
    refine ok_imul (dq_of td_X7_year 33 rfl) ?_
    refine ok_bipush (v := 74) (dq_of td_X7_year 34 rfl) (by decide) ?_
    refine ok_iadd (dq_of td_X7_year 35 rfl) ?_
    refine ok_ldc (v := 65537) (dq_of td_X7_year 36 rfl) kc_X7_213 ?_
    refine ok_irem (dq_of td_X7_year 37 rfl) (by decide) ?_
    refine ok_gI (fun v9 => ?_)
    refine ok_istore4 (dq_of td_X7_year 38 rfl) rfl (by decide) ?_
    refine ok_iload4 (dq_of td_X7_year 39 rfl) ?_
    refine ok_iconst (v := 5) (dq_of td_X7_year 40 rfl) (by decide) ?_
    refine ok_irem (dq_of td_X7_year 41 rfl) (by decide) ?_
    refine ok_gI (fun v10 => ?_)
    refine ok_istore7 (dq_of td_X7_year 42 rfl) rfl (by decide) ?_
    refine ok_iload4 (dq_of td_X7_year 43 rfl) ?_
    refine ok_iconst (v := 5) (dq_of td_X7_year 44 rfl) (by decide) ?_
    refine ok_idiv (dq_of td_X7_year 45 rfl) (by decide) ?_
    refine ok_iconst (v := 5) (dq_of td_X7_year 46 rfl) (by decide) ?_
    refine ok_irem (dq_of td_X7_year 47 rfl) (by decide) ?_
    refine ok_gI (fun v11 => ?_)
    refine ok_istore8 (dq_of td_X7_year 48 rfl) rfl (by decide) ?_
    refine ok_aload0 (dq_of td_X7_year 49 rfl) ?_
    refine ok_iload7 (dq_of td_X7_year 50 rfl) ?_
    refine call_X7_isThere ml_X7_95  ⟨Nat.le_of_ble_eq_true rfl, Nat.le_of_ble_eq_true rfl⟩ ⟨Nat.zero_le _, Nat.zero_le _⟩ (Nat.le_of_ble_eq_true rfl) (dq_of td_X7_year 51 rfl) (fun r13 σ12 => ?_)
    refine ok_if_eq (tgt := 115) (dq_of td_X7_year 52 rfl) (by decide) ?_ ?_
    · refine ok_wk (wk_s (wk_n (wk_s (wk_s (wk_s (wk_s (wk_s (wk_s (wk_s wk_0))))))))) ?_
      exact ob_X7_year_115 _ _ _  hK hH _ _ _ _ _  _
    · refine ok_aload0 (dq_of td_X7_year 53 rfl) ?_
      refine ok_get (v := k_rr G 114) fl_X7_53 (by decide) ko_100 rfl (dq_of td_X7_year 54 rfl) ?_
      refine ok_iload7 (dq_of td_X7_year 55 rfl) ?_
      refine ok_iald ka_114 (dq_of td_X7_year 56 rfl) ?_
      refine ok_iconst (v := 5) (dq_of td_X7_year 57 rfl) (by decide) ?_
      refine ok_ic_ge (tgt := 115) (dq_of td_X7_year 58 rfl) (by decide) ?_ ?_
      · refine ok_wk (wk_s (wk_n (wk_s (wk_s (wk_s (wk_s (wk_s (wk_s (wk_s wk_0))))))))) ?_
        exact ob_X7_year_115 _ _ _  hK hH _ _ _ _ _  _
      · refine ok_aload0 (dq_of td_X7_year 59 rfl) ?_
        refine ok_get (v := k_rr G 114) fl_X7_53 (by decide) ko_100 rfl (dq_of td_X7_year 60 rfl) ?_
        refine ok_iload7 (dq_of td_X7_year 61 rfl) ?_
        refine ok_iconst (v := 5) (dq_of td_X7_year 62 rfl) (by decide) ?_
        refine ok_iast ka_114 (dq_of td_X7_year 63 rfl) (fun σ18 => ?_)
        refine ok_goto (tgt := 135) (dq_of td_X7_year 64 rfl) (by decide) ?_
        refine ok_wk (wk_s (wk_n (wk_s (wk_s (wk_s (wk_s (wk_s (wk_n (wk_n wk_0))))))))) ?_
        exact ob_X7_year_135 _ _ _  hK hH _ _ _  _
theorem ld_X7_year_51 {G : KW} {l : Launch} (x1 : Int32) (x2 : Int32) (x3 : Int32)  {K : Int32 → Sg → Option (Int32 × Sg)} (hK : ∀ (x5 : Int32) (σ : Sg), Okk G l cX7_year 9 RX7 (some .int) (rmo 3 74) ccI 161 [some (k_rr G 100), none, none, some (.int x3), none, some (.int x5), none, none, none] [] σ (K x5 σ)) (n : Nat) (x4 : Int32) (x5 : Int32) (x6 : Int32) (σ : Sg) : Okk G l cX7_year 9 RX7 (some .int) (rmo 3 74) ccI 51 [some (k_rr G 100), none, some (.int x2), some (.int x3), some (.int x4), some (.int x5), some (.int x6), none, none] [] σ (e_lp3 (d_X7_year_51 x1 x2 x3 K) n x4 x5 x6 σ) :=
  ok_lp3 (Lf := fun (x4 : Int32) (x5 : Int32) (x6 : Int32) => [some (k_rr G 100), none, some (.int x2), some (.int x3), some (.int x4), some (.int x5), some (.int x6), none, none]) (fun _ hH x4 x5 x6 σ => od_X7_year_51 _ _ _  hK hH x4 x5 x6 σ) n x4 x5 x6 σ
theorem ob_X7_year_229 {G : KW} {l : Launch} (x1 : Int32) (x2 : Int32) (x3 : Int32)  {K : Int32 → Int32 → Int32 → Sg → Option (Int32 × Sg)} {H : Int32 → Int32 → Int32 → Int32 → Sg → Option (Int32 × Sg)} (hK : ∀ (x5 : Int32) (x6 : Int32) (x7 : Int32) (σ : Sg), Okk G l cX7_year 9 RX7 (some .int) (rmo 3 74) ccI 238 [some (k_rr G 100), none, none, some (.int x3), none, some (.int x5), some (.int x6), some (.int x7), none] [] σ (K x5 x6 x7 σ)) (hH : ∀ (x5 : Int32) (x6 : Int32) (x7 : Int32) (x8 : Int32) (σ : Sg), Okk G l cX7_year 9 RX7 (some .int) (rmo 3 74) ccI 170 [some (k_rr G 100), none, none, some (.int x3), none, some (.int x5), some (.int x6), some (.int x7), some (.int x8)] [] σ (H x5 x6 x7 x8 σ)) (x5 : Int32) (x6 : Int32) (x8 : Int32) (s0 : Int32) (s1 : Int32)  (σ : Sg) : Okk G l cX7_year 9 RX7 (some .int) (rmo 3 74) ccI 229 [some (k_rr G 100), none, none, some (.int x3), none, some (.int x5), some (.int x6), none, some (.int x8)] [.int s0, .int s1] σ (b_X7_year_229 x1 x2 x3 K H x5 x6 x8 s0 s1 σ) := by
  unfold b_X7_year_229
  refine ok_iadd (dq_of td_X7_year 123 rfl) ?_
  refine ok_gI (fun v25 => ?_)
  refine ok_istore7 (dq_of td_X7_year 124 rfl) rfl (by decide) ?_
  refine ok_jinc8 (w := 1) (dq_of td_X7_year 125 rfl) (by decide) rfl (by decide) ?_
  refine ok_goto (tgt := 170) (dq_of td_X7_year 126 rfl) (by decide) ?_
  refine ok_wk (wk_s (wk_n (wk_n (wk_s (wk_n (wk_s (wk_s (wk_s (wk_s wk_0))))))))) ?_
  exact hH _ _ _ _ _
theorem ob_X7_year_201 {G : KW} {l : Launch} (x1 : Int32) (x2 : Int32) (x3 : Int32)  {K : Int32 → Int32 → Int32 → Sg → Option (Int32 × Sg)} {H : Int32 → Int32 → Int32 → Int32 → Sg → Option (Int32 × Sg)} (hK : ∀ (x5 : Int32) (x6 : Int32) (x7 : Int32) (σ : Sg), Okk G l cX7_year 9 RX7 (some .int) (rmo 3 74) ccI 238 [some (k_rr G 100), none, none, some (.int x3), none, some (.int x5), some (.int x6), some (.int x7), none] [] σ (K x5 x6 x7 σ)) (hH : ∀ (x5 : Int32) (x6 : Int32) (x7 : Int32) (x8 : Int32) (σ : Sg), Okk G l cX7_year 9 RX7 (some .int) (rmo 3 74) ccI 170 [some (k_rr G 100), none, none, some (.int x3), none, some (.int x5), some (.int x6), some (.int x7), some (.int x8)] [] σ (H x5 x6 x7 x8 σ)) (x5 : Int32) (x7 : Int32) (x8 : Int32) (s0 : Int32) (s1 : Int32)  (σ : Sg) : Okk G l cX7_year 9 RX7 (some .int) (rmo 3 74) ccI 201 [some (k_rr G 100), none, none, some (.int x3), none, some (.int x5), none, some (.int x7), some (.int x8)] [.int s0, .int s1] σ (b_X7_year_201 x1 x2 x3 K H x5 x7 x8 s0 s1 σ) := by
  unfold b_X7_year_201
  refine ok_iadd (dq_of td_X7_year 109 rfl) ?_
  refine ok_gI (fun v22 => ?_)
  refine ok_istore6 (dq_of td_X7_year 110 rfl) rfl (by decide) ?_
  refine ok_iload7 (dq_of td_X7_year 111 rfl) ?_
  refine ok_aload0 (dq_of td_X7_year 112 rfl) ?_
  refine ok_get (v := .int (σ 100 1)) fl_X7_92 (by decide) ko_100 rfl (dq_of td_X7_year 113 rfl) ?_
  refine ok_iload8 (dq_of td_X7_year 114 rfl) ?_
  refine call_X7_has ml_X7_88  ⟨Nat.le_of_ble_eq_true rfl, Nat.le_of_ble_eq_true rfl⟩ ⟨Nat.zero_le _, Nat.zero_le _⟩ (Nat.le_of_ble_eq_true rfl) (dq_of td_X7_year 115 rfl) (fun r24 σ23 => ?_)
  refine ok_if_eq (tgt := 228) (dq_of td_X7_year 116 rfl) (by decide) ?_ ?_
  · refine ok_iconst (v := 0) (dq_of td_X7_year 122 rfl) (by decide) ?_
    refine ok_wk (wk_s (wk_n (wk_n (wk_s (wk_n (wk_s (wk_s (wk_n (wk_s wk_0))))))))) ?_
    exact ob_X7_year_229 _ _ _  hK hH _ _ _ _ _  _
  · refine ok_aload0 (dq_of td_X7_year 117 rfl) ?_
    refine ok_get (v := k_rr G 118) fl_X7_65 (by decide) ko_100 rfl (dq_of td_X7_year 118 rfl) ?_
    refine ok_iload8 (dq_of td_X7_year 119 rfl) ?_
    refine ok_iald ka_118 (dq_of td_X7_year 120 rfl) ?_
    refine ok_goto (tgt := 229) (dq_of td_X7_year 121 rfl) (by decide) ?_
    refine ok_wk (wk_s (wk_n (wk_n (wk_s (wk_n (wk_s (wk_s (wk_n (wk_s wk_0))))))))) ?_
    exact ob_X7_year_229 _ _ _  hK hH _ _ _ _ _  _
theorem od_X7_year_170 {G : KW} {l : Launch} (x1 : Int32) (x2 : Int32) (x3 : Int32)  {K : Int32 → Int32 → Int32 → Sg → Option (Int32 × Sg)} {H : Int32 → Int32 → Int32 → Int32 → Sg → Option (Int32 × Sg)} (hK : ∀ (x5 : Int32) (x6 : Int32) (x7 : Int32) (σ : Sg), Okk G l cX7_year 9 RX7 (some .int) (rmo 3 74) ccI 238 [some (k_rr G 100), none, none, some (.int x3), none, some (.int x5), some (.int x6), some (.int x7), none] [] σ (K x5 x6 x7 σ)) (hH : ∀ (x5 : Int32) (x6 : Int32) (x7 : Int32) (x8 : Int32) (σ : Sg), Okk G l cX7_year 9 RX7 (some .int) (rmo 3 74) ccI 170 [some (k_rr G 100), none, none, some (.int x3), none, some (.int x5), some (.int x6), some (.int x7), some (.int x8)] [] σ (H x5 x6 x7 x8 σ)) (x5 : Int32) (x6 : Int32) (x7 : Int32) (x8 : Int32)  (σ : Sg) : Okk G l cX7_year 9 RX7 (some .int) (rmo 3 74) ccI 170 [some (k_rr G 100), none, none, some (.int x3), none, some (.int x5), some (.int x6), some (.int x7), some (.int x8)] [] σ (d_X7_year_170 x1 x2 x3 K H x5 x6 x7 x8 σ) := by
  unfold d_X7_year_170
  refine ok_iload8 (dq_of td_X7_year 94 rfl) ?_
  refine ok_iconst (v := 5) (dq_of td_X7_year 95 rfl) (by decide) ?_
  refine ok_ic_ge (tgt := 238) (dq_of td_X7_year 96 rfl) (by decide) ?_ ?_
  · refine ok_wk (wk_s (wk_n (wk_n (wk_s (wk_n (wk_s (wk_s (wk_s (wk_n wk_0))))))))) ?_
    exact hK _ _ _ _
  · refine ok_iload6 (dq_of td_X7_year 97 rfl) ?_
    refine ok_aload0 (dq_of td_X7_year 98 rfl) ?_
    refine ok_get (v := .int (σ 100 0)) fl_X7_85 (by decide) ko_100 rfl (dq_of td_X7_year 99 rfl) ?_
    refine ok_iload8 (dq_of td_X7_year 100 rfl) ?_
    refine call_X7_has ml_X7_88  ⟨Nat.le_of_ble_eq_true rfl, Nat.le_of_ble_eq_true rfl⟩ ⟨Nat.zero_le _, Nat.zero_le _⟩ (Nat.le_of_ble_eq_true rfl) (dq_of td_X7_year 101 rfl) (fun r21 σ20 => ?_)
    refine ok_if_eq (tgt := 200) (dq_of td_X7_year 102 rfl) (by decide) ?_ ?_
    · refine ok_iconst (v := 0) (dq_of td_X7_year 108 rfl) (by decide) ?_
      refine ok_wk (wk_s (wk_n (wk_n (wk_s (wk_n (wk_s (wk_n (wk_s (wk_s wk_0))))))))) ?_
      exact ob_X7_year_201 _ _ _  hK hH _ _ _ _ _  _
    · refine ok_aload0 (dq_of td_X7_year 103 rfl) ?_
      refine ok_get (v := k_rr G 116) fl_X7_59 (by decide) ko_100 rfl (dq_of td_X7_year 104 rfl) ?_
      refine ok_iload8 (dq_of td_X7_year 105 rfl) ?_
      refine ok_iald ka_116 (dq_of td_X7_year 106 rfl) ?_
      refine ok_goto (tgt := 201) (dq_of td_X7_year 107 rfl) (by decide) ?_
      refine ok_wk (wk_s (wk_n (wk_n (wk_s (wk_n (wk_s (wk_n (wk_s (wk_s wk_0))))))))) ?_
      exact ob_X7_year_201 _ _ _  hK hH _ _ _ _ _  _
theorem ld_X7_year_170 {G : KW} {l : Launch} (x1 : Int32) (x2 : Int32) (x3 : Int32)  {K : Int32 → Int32 → Int32 → Sg → Option (Int32 × Sg)} (hK : ∀ (x5 : Int32) (x6 : Int32) (x7 : Int32) (σ : Sg), Okk G l cX7_year 9 RX7 (some .int) (rmo 3 74) ccI 238 [some (k_rr G 100), none, none, some (.int x3), none, some (.int x5), some (.int x6), some (.int x7), none] [] σ (K x5 x6 x7 σ)) (n : Nat) (x5 : Int32) (x6 : Int32) (x7 : Int32) (x8 : Int32) (σ : Sg) : Okk G l cX7_year 9 RX7 (some .int) (rmo 3 74) ccI 170 [some (k_rr G 100), none, none, some (.int x3), none, some (.int x5), some (.int x6), some (.int x7), some (.int x8)] [] σ (e_lp4 (d_X7_year_170 x1 x2 x3 K) n x5 x6 x7 x8 σ) :=
  ok_lp4 (Lf := fun (x5 : Int32) (x6 : Int32) (x7 : Int32) (x8 : Int32) => [some (k_rr G 100), none, none, some (.int x3), none, some (.int x5), some (.int x6), some (.int x7), some (.int x8)]) (fun _ hH x5 x6 x7 x8 σ => od_X7_year_170 _ _ _  hK hH x5 x6 x7 x8 σ) n x5 x6 x7 x8 σ
def m_X7_year (x1 : Int32) (x2 : Int32) (x3 : Int32) (σ : Sg) : Option (Int32 × Sg) := e_cI (m_X7_in x1 0 9999 σ) (fun r2 σ1 => (if r2 = 0 then some ((-2), σ1) else e_cI (m_X7_in x2 1 99 σ1) (fun r4 σ3 => (if r4 = 0 then some ((-2), σ3) else e_cI (m_X7_in x3 0 2 σ3) (fun r6 σ5 => (if r6 = 0 then some ((-2), σ5) else e_cV (m_X7_asNow σ5) (fun σ7 => e_gd (k_in 0 5) (e_lt (σ7 107 (Int32.toNatClampNeg 0)) (fun v8 => e_lp3 (d_X7_year_51 x1 x2 x3 (fun x5q19 σ19 => e_lp4 (d_X7_year_170 x1 x2 x3 (fun x5q26 x6q26 x7q26 σ26 => (if x3 = 0 then e_cI (m_X7_isThere 0 σ26) (fun r28 σ27 => (if r28 = 0 then some (0, σ27) else e_gd (k_in 0 5) (some ((σ27 115 (Int32.toNatClampNeg 0)) - x5q26, σ27)))) else (if x3 = 1 then some (x6q26, σ26) else some (x7q26, σ26))))) e_F x5q19 0 0 0 σ19)) e_F x1 v8 0 σ7)))))))))
theorem om_X7_year {G : KW} {l : Launch} (x1 : Int32) (x2 : Int32) (x3 : Int32)  (σ : Sg) : Okk G l cX7_year 9 RX7 (some .int) (rmo 3 74) ccI 0 [some (k_rr G 100), some (.int x1), some (.int x2), some (.int x3), none, none, none, none, none] [] σ (m_X7_year x1 x2 x3 σ) := by
  unfold m_X7_year
  refine ok_iload1 (dq_of td_X7_year 0 rfl) ?_
  refine ok_iconst (v := 0) (dq_of td_X7_year 1 rfl) (by decide) ?_
  refine ok_sipush (v := 9999) (dq_of td_X7_year 2 rfl) (by decide) ?_
  refine call_X7_in ml_X7_81  ⟨Nat.le_of_ble_eq_true rfl, Nat.le_of_ble_eq_true rfl⟩ ⟨Nat.zero_le _, Nat.zero_le _⟩ (Nat.le_of_ble_eq_true rfl) (dq_of td_X7_year 3 rfl) (fun r2 σ1 => ?_)
  refine ok_if_eq (tgt := 30) (dq_of td_X7_year 4 rfl) (by decide) ?_ ?_
  · refine ok_bipush (v := (-2)) (dq_of td_X7_year 15 rfl) (by decide) ?_
    exact ok_iret (dq_of td_X7_year 16 rfl)
  · refine ok_iload2 (dq_of td_X7_year 5 rfl) ?_
    refine ok_iconst (v := 1) (dq_of td_X7_year 6 rfl) (by decide) ?_
    refine ok_bipush (v := 99) (dq_of td_X7_year 7 rfl) (by decide) ?_
    refine call_X7_in ml_X7_81  ⟨Nat.le_of_ble_eq_true rfl, Nat.le_of_ble_eq_true rfl⟩ ⟨Nat.zero_le _, Nat.zero_le _⟩ (Nat.le_of_ble_eq_true rfl) (dq_of td_X7_year 8 rfl) (fun r4 σ3 => ?_)
    refine ok_if_eq (tgt := 30) (dq_of td_X7_year 9 rfl) (by decide) ?_ ?_
    · refine ok_bipush (v := (-2)) (dq_of td_X7_year 15 rfl) (by decide) ?_
      exact ok_iret (dq_of td_X7_year 16 rfl)
    · refine ok_iload3 (dq_of td_X7_year 10 rfl) ?_
      refine ok_iconst (v := 0) (dq_of td_X7_year 11 rfl) (by decide) ?_
      refine ok_iconst (v := 2) (dq_of td_X7_year 12 rfl) (by decide) ?_
      refine call_X7_in ml_X7_81  ⟨Nat.le_of_ble_eq_true rfl, Nat.le_of_ble_eq_true rfl⟩ ⟨Nat.zero_le _, Nat.zero_le _⟩ (Nat.le_of_ble_eq_true rfl) (dq_of td_X7_year 13 rfl) (fun r6 σ5 => ?_)
      refine ok_if_ne (tgt := 33) (dq_of td_X7_year 14 rfl) (by decide) ?_ ?_
      · refine ok_aload0 (dq_of td_X7_year 17 rfl) ?_
        refine call_X7_asNow ml_X7_132  ⟨Nat.le_of_ble_eq_true rfl, Nat.le_of_ble_eq_true rfl⟩ ⟨Nat.zero_le _, Nat.zero_le _⟩ (Nat.le_of_ble_eq_true rfl) (dq_of td_X7_year 18 rfl) (fun σ7 => ?_)
        refine ok_iload1 (dq_of td_X7_year 19 rfl) ?_
        refine ok_istore4 (dq_of td_X7_year 20 rfl) rfl (by decide) ?_
        refine ok_aload0 (dq_of td_X7_year 21 rfl) ?_
        refine ok_get (v := k_rr G 107) fl_X7_32 (by decide) ko_100 rfl (dq_of td_X7_year 22 rfl) ?_
        refine ok_iconst (v := 0) (dq_of td_X7_year 23 rfl) (by decide) ?_
        refine ok_iald ka_107 (dq_of td_X7_year 24 rfl) ?_
        refine ok_gI (fun v8 => ?_)
        refine ok_istore5 (dq_of td_X7_year 25 rfl) rfl (by decide) ?_
        refine ok_iconst (v := 0) (dq_of td_X7_year 26 rfl) (by decide) ?_
        refine ok_istore6 (dq_of td_X7_year 27 rfl) rfl (by decide) ?_
        refine ok_wk (wk_s (wk_n (wk_s (wk_s (wk_s (wk_s (wk_s (wk_n (wk_n wk_0))))))))) ?_
        refine ld_X7_year_51 _ _ _  (fun x5q19 σ19 => ?_) _ _ _ _ _
        refine ok_iconst (v := 0) (dq_of td_X7_year 88 rfl) (by decide) ?_
        refine ok_istore6 (dq_of td_X7_year 89 rfl) rfl (by decide) ?_
        refine ok_iconst (v := 0) (dq_of td_X7_year 90 rfl) (by decide) ?_
        refine ok_istore7 (dq_of td_X7_year 91 rfl) rfl (by decide) ?_
        refine ok_iconst (v := 0) (dq_of td_X7_year 92 rfl) (by decide) ?_
        refine ok_istore8 (dq_of td_X7_year 93 rfl) rfl (by decide) ?_
        refine ok_wk (wk_s (wk_n (wk_n (wk_s (wk_n (wk_s (wk_s (wk_s (wk_s wk_0))))))))) ?_
        refine ld_X7_year_170 _ _ _  (fun x5q26 x6q26 x7q26 σ26 => ?_) _ _ _ _ _ _
        refine ok_iload3 (dq_of td_X7_year 127 rfl) ?_
        refine ok_if_ne (tgt := 266) (dq_of td_X7_year 128 rfl) (by decide) ?_ ?_
        · refine ok_iload3 (dq_of td_X7_year 142 rfl) ?_
          refine ok_iconst (v := 1) (dq_of td_X7_year 143 rfl) (by decide) ?_
          refine ok_ic_ne (tgt := 276) (dq_of td_X7_year 144 rfl) (by decide) ?_ ?_
          · refine ok_iload7 (dq_of td_X7_year 147 rfl) ?_
            exact ok_iret (dq_of td_X7_year 148 rfl)
          · refine ok_iload6 (dq_of td_X7_year 145 rfl) ?_
            refine ok_goto (tgt := 278) (dq_of td_X7_year 146 rfl) (by decide) ?_
            exact ok_iret (dq_of td_X7_year 148 rfl)
        · refine ok_aload0 (dq_of td_X7_year 129 rfl) ?_
          refine ok_iconst (v := 0) (dq_of td_X7_year 130 rfl) (by decide) ?_
          refine call_X7_isThere ml_X7_95  ⟨Nat.le_of_ble_eq_true rfl, Nat.le_of_ble_eq_true rfl⟩ ⟨Nat.zero_le _, Nat.zero_le _⟩ (Nat.le_of_ble_eq_true rfl) (dq_of td_X7_year 131 rfl) (fun r28 σ27 => ?_)
          refine ok_if_eq (tgt := 262) (dq_of td_X7_year 132 rfl) (by decide) ?_ ?_
          · refine ok_iconst (v := 0) (dq_of td_X7_year 140 rfl) (by decide) ?_
            refine ok_goto (tgt := 278) (dq_of td_X7_year 141 rfl) (by decide) ?_
            exact ok_iret (dq_of td_X7_year 148 rfl)
          · refine ok_aload0 (dq_of td_X7_year 133 rfl) ?_
            refine ok_get (v := k_rr G 115) fl_X7_56 (by decide) ko_100 rfl (dq_of td_X7_year 134 rfl) ?_
            refine ok_iconst (v := 0) (dq_of td_X7_year 135 rfl) (by decide) ?_
            refine ok_iald ka_115 (dq_of td_X7_year 136 rfl) ?_
            refine ok_iload5 (dq_of td_X7_year 137 rfl) ?_
            refine ok_isub (dq_of td_X7_year 138 rfl) ?_
            refine ok_goto (tgt := 278) (dq_of td_X7_year 139 rfl) (by decide) ?_
            exact ok_iret (dq_of td_X7_year 148 rfl)
      · refine ok_bipush (v := (-2)) (dq_of td_X7_year 15 rfl) (by decide) ?_
        exact ok_iret (dq_of td_X7_year 16 rfl)
theorem ct_X7_year {G : KW} {l : Launch} (x1 : Int32) (x2 : Int32) (x3 : Int32)  (σ : Sg) : ∀ b, m_X7_year x1 x2 x3 σ = some b → MetF G l yX7_year cX7_year 9 (some .int) 3 74 [k_rr G 100, .int x1, .int x2, .int x3] (k_wl G σ) (ccI b).1 (k_wl G (ccI b).2) :=
  met_of (by decide) (Nat.le_of_ble_eq_true rfl) rfl (om_X7_year _ _ _  σ)
theorem call_X7_year {G : KW} {l : Launch} {cc : ByteArray} {nL : Nat} {own : String} {rt : Option FieldType} {R : Room} {α : Type} {X : State → Array Value → Method → Prop} {Z : α → List Frame → Array Value → State → State → Prop} {k0 n0 pc index : Nat} {L : List (Option Value)} {S : List Value} {σ : Sg} {F : Int32 → Sg → Option α} {x1 : Int32} {x2 : Int32} {x3 : Int32} (lk : MLk own index yX7_year)  (hR : R.frames ≥ 3 + 1 ∧ R.locals ≥ 8 + (9 + 11) + 74) (hcs : k0 ≤ R.cells ∧ n0 ≤ R.slots) (hro : (S.map fun v => v.category).sum ≤ 8) (d : decode cc pc = .ok (.invokevirtual index, 3)) (kk : ∀ (r : Int32) (σ' : Sg), Okg G l cc nL own rt R X Z k0 n0 (pc + 3) L (.int r :: S) σ' (F r σ')) : Okg G l cc nL own rt R X Z k0 n0 pc L (.int x3 :: .int x2 :: .int x1 :: k_rr G 100 :: S) σ (e_cI (m_X7_year x1 x2 x3 σ) F) :=
  ok_cV (cb := ccI) (As := [.int x1, .int x2, .int x3]) (ct_X7_year _ _ _  σ) mo_X7_year hi_X7_year lk rfl (ci := 7) rfl rfl (by decide) ko_100 hR rfl hcs hro d (fun b => kk b.1 b.2)
/-! CoatDinnerModel.image(I)I -/
def d_X7_image_19 (x1 : Int32) (K : Int32 → Sg → Option (Int32 × Sg)) (H : Int32 → Int32 → Sg → Option (Int32 × Sg)) (x2 : Int32) (x3 : Int32) (σ : Sg) : Option (Int32 × Sg) := (if 5 ≤ x3 then K x2 σ else e_gd (k_in x3 5) (e_wr σ 121 (x2 + x3) 200 (σ 101 (Int32.toNatClampNeg x3)) (fun σ4 => e_gd (k_in x3 5) (e_wr σ4 121 ((x2 + 5) + x3) 200 (σ4 102 (Int32.toNatClampNeg x3)) (fun σ5 => e_gd (k_in x3 5) (e_wr σ5 121 ((x2 + 10) + x3) 200 (σ5 103 (Int32.toNatClampNeg x3)) (fun σ6 => e_gd (k_in x3 5) (e_wr σ6 121 ((x2 + 15) + x3) 200 (σ6 104 (Int32.toNatClampNeg x3)) (fun σ7 => e_gd (k_in x3 5) (e_wr σ7 121 ((x2 + 20) + x3) 200 (σ7 105 (Int32.toNatClampNeg x3)) (fun σ8 => e_gd (k_in x3 5) (e_wr σ8 121 ((x2 + 25) + x3) 200 (σ8 106 (Int32.toNatClampNeg x3)) (fun σ9 => e_gd (k_in x3 5) (e_wr σ9 121 ((x2 + 30) + x3) 200 (σ9 107 (Int32.toNatClampNeg x3)) (fun σ10 => e_gd (k_in x3 5) (e_wr σ10 121 ((x2 + 35) + x3) 200 (σ10 108 (Int32.toNatClampNeg x3)) (fun σ11 => e_gd (k_in x3 5) (e_wr σ11 121 ((x2 + 40) + x3) 200 (σ11 109 (Int32.toNatClampNeg x3)) (fun σ12 => e_gd (k_in x3 5) (e_wr σ12 121 ((x2 + 45) + x3) 200 (σ12 110 (Int32.toNatClampNeg x3)) (fun σ13 => e_gd (k_in x3 5) (e_wr σ13 121 ((x2 + 50) + x3) 200 (σ13 111 (Int32.toNatClampNeg x3)) (fun σ14 => H x2 (x3 + 1) σ14)))))))))))))))))))))))
def d_X7_image_215 (x1 : Int32) (K : Int32 → Sg → Option (Int32 × Sg)) (H : Int32 → Int32 → Sg → Option (Int32 × Sg)) (x2 : Int32) (x3 : Int32) (σ : Sg) : Option (Int32 × Sg) := (if 12 ≤ x3 then K x2 σ else e_gd (k_in x3 12) (e_wr σ 121 ((x2 + 55) + x3) 200 (σ 112 (Int32.toNatClampNeg x3)) (fun σ16 => H x2 (x3 + 1) σ16)))
theorem od_X7_image_19 {G : KW} {l : Launch} (x1 : Int32)  {K : Int32 → Sg → Option (Int32 × Sg)} {H : Int32 → Int32 → Sg → Option (Int32 × Sg)} (hK : ∀ (x2 : Int32) (σ : Sg), Okk G l cX7_image 4 RX7 (some .int) (rmo 1 22) ccI 213 [some (k_rr G 100), some (.int x1), some (.int x2), none] [] σ (K x2 σ)) (hH : ∀ (x2 : Int32) (x3 : Int32) (σ : Sg), Okk G l cX7_image 4 RX7 (some .int) (rmo 1 22) ccI 19 [some (k_rr G 100), some (.int x1), some (.int x2), some (.int x3)] [] σ (H x2 x3 σ)) (x2 : Int32) (x3 : Int32)  (σ : Sg) : Okk G l cX7_image 4 RX7 (some .int) (rmo 1 22) ccI 19 [some (k_rr G 100), some (.int x1), some (.int x2), some (.int x3)] [] σ (d_X7_image_19 x1 K H x2 x3 σ) := by
  unfold d_X7_image_19
  refine ok_iload3 (dq_of td_X7_image 13 rfl) ?_
  refine ok_iconst (v := 5) (dq_of td_X7_image 14 rfl) (by decide) ?_
  refine ok_ic_ge (tgt := 213) (dq_of td_X7_image 15 rfl) (by decide) ?_ ?_
  · refine ok_wk (wk_s (wk_s (wk_s (wk_n wk_0)))) ?_
    exact hK _ _
  · refine ok_aload0 (dq_of td_X7_image 16 rfl) ?_
    refine ok_get (v := k_rr G 121) fl_X7_75 (by decide) ko_100 rfl (dq_of td_X7_image 17 rfl) ?_
    refine ok_iload2 (dq_of td_X7_image 18 rfl) ?_
    refine ok_iload3 (dq_of td_X7_image 19 rfl) ?_
    refine ok_iadd (dq_of td_X7_image 20 rfl) ?_
    refine ok_aload0 (dq_of td_X7_image 21 rfl) ?_
    refine ok_get (v := k_rr G 101) fl_X7_7 (by decide) ko_100 rfl (dq_of td_X7_image 22 rfl) ?_
    refine ok_iload3 (dq_of td_X7_image 23 rfl) ?_
    refine ok_iald ka_101 (dq_of td_X7_image 24 rfl) ?_
    refine ok_iast ka_121 (dq_of td_X7_image 25 rfl) (fun σ4 => ?_)
    refine ok_aload0 (dq_of td_X7_image 26 rfl) ?_
    refine ok_get (v := k_rr G 121) fl_X7_75 (by decide) ko_100 rfl (dq_of td_X7_image 27 rfl) ?_
    refine ok_iload2 (dq_of td_X7_image 28 rfl) ?_
    refine ok_iconst (v := 5) (dq_of td_X7_image 29 rfl) (by decide) ?_
    refine ok_iadd (dq_of td_X7_image 30 rfl) ?_
    refine ok_iload3 (dq_of td_X7_image 31 rfl) ?_
    refine ok_iadd (dq_of td_X7_image 32 rfl) ?_
    refine ok_aload0 (dq_of td_X7_image 33 rfl) ?_
    refine ok_get (v := k_rr G 102) fl_X7_13 (by decide) ko_100 rfl (dq_of td_X7_image 34 rfl) ?_
    refine ok_iload3 (dq_of td_X7_image 35 rfl) ?_
    refine ok_iald ka_102 (dq_of td_X7_image 36 rfl) ?_
    refine ok_iast ka_121 (dq_of td_X7_image 37 rfl) (fun σ5 => ?_)
    refine ok_aload0 (dq_of td_X7_image 38 rfl) ?_
    refine ok_get (v := k_rr G 121) fl_X7_75 (by decide) ko_100 rfl (dq_of td_X7_image 39 rfl) ?_
    refine ok_iload2 (dq_of td_X7_image 40 rfl) ?_
    refine ok_bipush (v := 10) (dq_of td_X7_image 41 rfl) (by decide) ?_
    refine ok_iadd (dq_of td_X7_image 42 rfl) ?_
    refine ok_iload3 (dq_of td_X7_image 43 rfl) ?_
    refine ok_iadd (dq_of td_X7_image 44 rfl) ?_
    refine ok_aload0 (dq_of td_X7_image 45 rfl) ?_
    refine ok_get (v := k_rr G 103) fl_X7_16 (by decide) ko_100 rfl (dq_of td_X7_image 46 rfl) ?_
    refine ok_iload3 (dq_of td_X7_image 47 rfl) ?_
    refine ok_iald ka_103 (dq_of td_X7_image 48 rfl) ?_
    refine ok_iast ka_121 (dq_of td_X7_image 49 rfl) (fun σ6 => ?_)
    refine ok_aload0 (dq_of td_X7_image 50 rfl) ?_
    refine ok_get (v := k_rr G 121) fl_X7_75 (by decide) ko_100 rfl (dq_of td_X7_image 51 rfl) ?_
    refine ok_iload2 (dq_of td_X7_image 52 rfl) ?_
    refine ok_bipush (v := 15) (dq_of td_X7_image 53 rfl) (by decide) ?_
    refine ok_iadd (dq_of td_X7_image 54 rfl) ?_
    refine ok_iload3 (dq_of td_X7_image 55 rfl) ?_
    refine ok_iadd (dq_of td_X7_image 56 rfl) ?_
    refine ok_aload0 (dq_of td_X7_image 57 rfl) ?_
    refine ok_get (v := k_rr G 104) fl_X7_19 (by decide) ko_100 rfl (dq_of td_X7_image 58 rfl) ?_
    refine ok_iload3 (dq_of td_X7_image 59 rfl) ?_
    refine ok_iald ka_104 (dq_of td_X7_image 60 rfl) ?_
    refine ok_iast ka_121 (dq_of td_X7_image 61 rfl) (fun σ7 => ?_)
    refine ok_aload0 (dq_of td_X7_image 62 rfl) ?_
    refine ok_get (v := k_rr G 121) fl_X7_75 (by decide) ko_100 rfl (dq_of td_X7_image 63 rfl) ?_
    refine ok_iload2 (dq_of td_X7_image 64 rfl) ?_
    refine ok_bipush (v := 20) (dq_of td_X7_image 65 rfl) (by decide) ?_
    refine ok_iadd (dq_of td_X7_image 66 rfl) ?_
    refine ok_iload3 (dq_of td_X7_image 67 rfl) ?_
    refine ok_iadd (dq_of td_X7_image 68 rfl) ?_
    refine ok_aload0 (dq_of td_X7_image 69 rfl) ?_
    refine ok_get (v := k_rr G 105) fl_X7_22 (by decide) ko_100 rfl (dq_of td_X7_image 70 rfl) ?_
    refine ok_iload3 (dq_of td_X7_image 71 rfl) ?_
    refine ok_iald ka_105 (dq_of td_X7_image 72 rfl) ?_
    refine ok_iast ka_121 (dq_of td_X7_image 73 rfl) (fun σ8 => ?_)
    refine ok_aload0 (dq_of td_X7_image 74 rfl) ?_
    refine ok_get (v := k_rr G 121) fl_X7_75 (by decide) ko_100 rfl (dq_of td_X7_image 75 rfl) ?_
    refine ok_iload2 (dq_of td_X7_image 76 rfl) ?_
    refine ok_bipush (v := 25) (dq_of td_X7_image 77 rfl) (by decide) ?_
    refine ok_iadd (dq_of td_X7_image 78 rfl) ?_
    refine ok_iload3 (dq_of td_X7_image 79 rfl) ?_
    refine ok_iadd (dq_of td_X7_image 80 rfl) ?_
    refine ok_aload0 (dq_of td_X7_image 81 rfl) ?_
    refine ok_get (v := k_rr G 106) fl_X7_29 (by decide) ko_100 rfl (dq_of td_X7_image 82 rfl) ?_
    refine ok_iload3 (dq_of td_X7_image 83 rfl) ?_
    refine ok_iald ka_106 (dq_of td_X7_image 84 rfl) ?_
    refine ok_iast ka_121 (dq_of td_X7_image 85 rfl) (fun σ9 => ?_)
    refine ok_aload0 (dq_of td_X7_image 86 rfl) ?_
    refine ok_get (v := k_rr G 121) fl_X7_75 (by decide) ko_100 rfl (dq_of td_X7_image 87 rfl) ?_
    refine ok_iload2 (dq_of td_X7_image 88 rfl) ?_
    refine ok_bipush (v := 30) (dq_of td_X7_image 89 rfl) (by decide) ?_
    refine ok_iadd (dq_of td_X7_image 90 rfl) ?_
    refine ok_iload3 (dq_of td_X7_image 91 rfl) ?_
    refine ok_iadd (dq_of td_X7_image 92 rfl) ?_
    refine ok_aload0 (dq_of td_X7_image 93 rfl) ?_
    refine ok_get (v := k_rr G 107) fl_X7_32 (by decide) ko_100 rfl (dq_of td_X7_image 94 rfl) ?_
    refine ok_iload3 (dq_of td_X7_image 95 rfl) ?_
    refine ok_iald ka_107 (dq_of td_X7_image 96 rfl) ?_
    refine ok_iast ka_121 (dq_of td_X7_image 97 rfl) (fun σ10 => ?_)
    refine ok_aload0 (dq_of td_X7_image 98 rfl) ?_
    refine ok_get (v := k_rr G 121) fl_X7_75 (by decide) ko_100 rfl (dq_of td_X7_image 99 rfl) ?_
    refine ok_iload2 (dq_of td_X7_image 100 rfl) ?_
    refine ok_bipush (v := 35) (dq_of td_X7_image 101 rfl) (by decide) ?_
    refine ok_iadd (dq_of td_X7_image 102 rfl) ?_
    refine ok_iload3 (dq_of td_X7_image 103 rfl) ?_
    refine ok_iadd (dq_of td_X7_image 104 rfl) ?_
    refine ok_aload0 (dq_of td_X7_image 105 rfl) ?_
    refine ok_get (v := k_rr G 108) fl_X7_35 (by decide) ko_100 rfl (dq_of td_X7_image 106 rfl) ?_
    refine ok_iload3 (dq_of td_X7_image 107 rfl) ?_
    refine ok_iald ka_108 (dq_of td_X7_image 108 rfl) ?_
    refine ok_iast ka_121 (dq_of td_X7_image 109 rfl) (fun σ11 => ?_)
    refine ok_aload0 (dq_of td_X7_image 110 rfl) ?_
    refine ok_get (v := k_rr G 121) fl_X7_75 (by decide) ko_100 rfl (dq_of td_X7_image 111 rfl) ?_
    refine ok_iload2 (dq_of td_X7_image 112 rfl) ?_
    refine ok_bipush (v := 40) (dq_of td_X7_image 113 rfl) (by decide) ?_
    refine ok_iadd (dq_of td_X7_image 114 rfl) ?_
    refine ok_iload3 (dq_of td_X7_image 115 rfl) ?_
    refine ok_iadd (dq_of td_X7_image 116 rfl) ?_
    refine ok_aload0 (dq_of td_X7_image 117 rfl) ?_
    refine ok_get (v := k_rr G 109) fl_X7_38 (by decide) ko_100 rfl (dq_of td_X7_image 118 rfl) ?_
    refine ok_iload3 (dq_of td_X7_image 119 rfl) ?_
    refine ok_iald ka_109 (dq_of td_X7_image 120 rfl) ?_
    refine ok_iast ka_121 (dq_of td_X7_image 121 rfl) (fun σ12 => ?_)
    refine ok_aload0 (dq_of td_X7_image 122 rfl) ?_
    refine ok_get (v := k_rr G 121) fl_X7_75 (by decide) ko_100 rfl (dq_of td_X7_image 123 rfl) ?_
    refine ok_iload2 (dq_of td_X7_image 124 rfl) ?_
    refine ok_bipush (v := 45) (dq_of td_X7_image 125 rfl) (by decide) ?_
    refine ok_iadd (dq_of td_X7_image 126 rfl) ?_
    refine ok_iload3 (dq_of td_X7_image 127 rfl) ?_
    refine ok_iadd (dq_of td_X7_image 128 rfl) ?_
    refine ok_aload0 (dq_of td_X7_image 129 rfl) ?_
    refine ok_get (v := k_rr G 110) fl_X7_41 (by decide) ko_100 rfl (dq_of td_X7_image 130 rfl) ?_
    refine ok_iload3 (dq_of td_X7_image 131 rfl) ?_
    refine ok_iald ka_110 (dq_of td_X7_image 132 rfl) ?_
    refine ok_iast ka_121 (dq_of td_X7_image 133 rfl) (fun σ13 => ?_)
    refine ok_aload0 (dq_of td_X7_image 134 rfl) ?_
    refine ok_get (v := k_rr G 121) fl_X7_75 (by decide) ko_100 rfl (dq_of td_X7_image 135 rfl) ?_
    refine ok_iload2 (dq_of td_X7_image 136 rfl) ?_
    refine ok_bipush (v := 50) (dq_of td_X7_image 137 rfl) (by decide) ?_
    refine ok_iadd (dq_of td_X7_image 138 rfl) ?_
    refine ok_iload3 (dq_of td_X7_image 139 rfl) ?_
    refine ok_iadd (dq_of td_X7_image 140 rfl) ?_
    refine ok_aload0 (dq_of td_X7_image 141 rfl) ?_
    refine ok_get (v := k_rr G 111) fl_X7_44 (by decide) ko_100 rfl (dq_of td_X7_image 142 rfl) ?_
    refine ok_iload3 (dq_of td_X7_image 143 rfl) ?_
    refine ok_iald ka_111 (dq_of td_X7_image 144 rfl) ?_
    refine ok_iast ka_121 (dq_of td_X7_image 145 rfl) (fun σ14 => ?_)
    refine ok_jinc3 (w := 1) (dq_of td_X7_image 146 rfl) (by decide) rfl (by decide) ?_
    refine ok_goto (tgt := 19) (dq_of td_X7_image 147 rfl) (by decide) ?_
    refine ok_wk (wk_s (wk_s (wk_s (wk_s wk_0)))) ?_
    exact hH _ _ _
theorem ld_X7_image_19 {G : KW} {l : Launch} (x1 : Int32)  {K : Int32 → Sg → Option (Int32 × Sg)} (hK : ∀ (x2 : Int32) (σ : Sg), Okk G l cX7_image 4 RX7 (some .int) (rmo 1 22) ccI 213 [some (k_rr G 100), some (.int x1), some (.int x2), none] [] σ (K x2 σ)) (n : Nat) (x2 : Int32) (x3 : Int32) (σ : Sg) : Okk G l cX7_image 4 RX7 (some .int) (rmo 1 22) ccI 19 [some (k_rr G 100), some (.int x1), some (.int x2), some (.int x3)] [] σ (e_lp2 (d_X7_image_19 x1 K) n x2 x3 σ) :=
  ok_lp2 (Lf := fun (x2 : Int32) (x3 : Int32) => [some (k_rr G 100), some (.int x1), some (.int x2), some (.int x3)]) (fun _ hH x2 x3 σ => od_X7_image_19 _  hK hH x2 x3 σ) n x2 x3 σ
theorem od_X7_image_215 {G : KW} {l : Launch} (x1 : Int32)  {K : Int32 → Sg → Option (Int32 × Sg)} {H : Int32 → Int32 → Sg → Option (Int32 × Sg)} (hK : ∀ (x2 : Int32) (σ : Sg), Okk G l cX7_image 4 RX7 (some .int) (rmo 1 22) ccI 244 [some (k_rr G 100), some (.int x1), some (.int x2), none] [] σ (K x2 σ)) (hH : ∀ (x2 : Int32) (x3 : Int32) (σ : Sg), Okk G l cX7_image 4 RX7 (some .int) (rmo 1 22) ccI 215 [some (k_rr G 100), some (.int x1), some (.int x2), some (.int x3)] [] σ (H x2 x3 σ)) (x2 : Int32) (x3 : Int32)  (σ : Sg) : Okk G l cX7_image 4 RX7 (some .int) (rmo 1 22) ccI 215 [some (k_rr G 100), some (.int x1), some (.int x2), some (.int x3)] [] σ (d_X7_image_215 x1 K H x2 x3 σ) := by
  unfold d_X7_image_215
  refine ok_iload3 (dq_of td_X7_image 150 rfl) ?_
  refine ok_bipush (v := 12) (dq_of td_X7_image 151 rfl) (by decide) ?_
  refine ok_ic_ge (tgt := 244) (dq_of td_X7_image 152 rfl) (by decide) ?_ ?_
  · refine ok_wk (wk_s (wk_s (wk_s (wk_n wk_0)))) ?_
    exact hK _ _
  · refine ok_aload0 (dq_of td_X7_image 153 rfl) ?_
    refine ok_get (v := k_rr G 121) fl_X7_75 (by decide) ko_100 rfl (dq_of td_X7_image 154 rfl) ?_
    refine ok_iload2 (dq_of td_X7_image 155 rfl) ?_
    refine ok_bipush (v := 55) (dq_of td_X7_image 156 rfl) (by decide) ?_
    refine ok_iadd (dq_of td_X7_image 157 rfl) ?_
    refine ok_iload3 (dq_of td_X7_image 158 rfl) ?_
    refine ok_iadd (dq_of td_X7_image 159 rfl) ?_
    refine ok_aload0 (dq_of td_X7_image 160 rfl) ?_
    refine ok_get (v := k_rr G 112) fl_X7_47 (by decide) ko_100 rfl (dq_of td_X7_image 161 rfl) ?_
    refine ok_iload3 (dq_of td_X7_image 162 rfl) ?_
    refine ok_iald ka_112 (dq_of td_X7_image 163 rfl) ?_
    refine ok_iast ka_121 (dq_of td_X7_image 164 rfl) (fun σ16 => ?_)
    refine ok_jinc3 (w := 1) (dq_of td_X7_image 165 rfl) (by decide) rfl (by decide) ?_
    refine ok_goto (tgt := 215) (dq_of td_X7_image 166 rfl) (by decide) ?_
    refine ok_wk (wk_s (wk_s (wk_s (wk_s wk_0)))) ?_
    exact hH _ _ _
theorem ld_X7_image_215 {G : KW} {l : Launch} (x1 : Int32)  {K : Int32 → Sg → Option (Int32 × Sg)} (hK : ∀ (x2 : Int32) (σ : Sg), Okk G l cX7_image 4 RX7 (some .int) (rmo 1 22) ccI 244 [some (k_rr G 100), some (.int x1), some (.int x2), none] [] σ (K x2 σ)) (n : Nat) (x2 : Int32) (x3 : Int32) (σ : Sg) : Okk G l cX7_image 4 RX7 (some .int) (rmo 1 22) ccI 215 [some (k_rr G 100), some (.int x1), some (.int x2), some (.int x3)] [] σ (e_lp2 (d_X7_image_215 x1 K) n x2 x3 σ) :=
  ok_lp2 (Lf := fun (x2 : Int32) (x3 : Int32) => [some (k_rr G 100), some (.int x1), some (.int x2), some (.int x3)]) (fun _ hH x2 x3 σ => od_X7_image_215 _  hK hH x2 x3 σ) n x2 x3 σ
def m_X7_image (x1 : Int32) (σ : Sg) : Option (Int32 × Sg) := e_cI (m_X7_in x1 0 1 σ) (fun r2 σ1 => (if r2 = 0 then some ((-2), σ1) else e_lt (100 * x1) (fun v3 => e_lp2 (d_X7_image_19 x1 (fun x2q15 σ15 => e_lp2 (d_X7_image_215 x1 (fun x2q17 σ17 => e_wr σ17 121 (x2q17 + 70) 200 (σ17 100 0) (fun σ18 => e_wr σ18 121 (x2q17 + 71) 200 (σ18 100 1) (fun σ19 => e_wr σ19 121 (x2q17 + 72) 200 (σ19 100 7) (fun σ20 => e_wr σ20 121 (x2q17 + 73) 200 (σ20 100 14) (fun σ21 => e_wr σ21 122 x1 2 1 (fun σ22 => some (1, σ22)))))))) e_F x2q15 0 σ15)) e_F v3 0 σ1)))
theorem om_X7_image {G : KW} {l : Launch} (x1 : Int32)  (σ : Sg) : Okk G l cX7_image 4 RX7 (some .int) (rmo 1 22) ccI 0 [some (k_rr G 100), some (.int x1), none, none] [] σ (m_X7_image x1 σ) := by
  unfold m_X7_image
  refine ok_iload1 (dq_of td_X7_image 0 rfl) ?_
  refine ok_iconst (v := 0) (dq_of td_X7_image 1 rfl) (by decide) ?_
  refine ok_iconst (v := 1) (dq_of td_X7_image 2 rfl) (by decide) ?_
  refine call_X7_in ml_X7_81  ⟨Nat.le_of_ble_eq_true rfl, Nat.le_of_ble_eq_true rfl⟩ ⟨Nat.zero_le _, Nat.zero_le _⟩ (Nat.le_of_ble_eq_true rfl) (dq_of td_X7_image 3 rfl) (fun r2 σ1 => ?_)
  refine ok_if_ne (tgt := 12) (dq_of td_X7_image 4 rfl) (by decide) ?_ ?_
  · refine ok_bipush (v := 100) (dq_of td_X7_image 7 rfl) (by decide) ?_
    refine ok_iload1 (dq_of td_X7_image 8 rfl) ?_
    refine ok_imul (dq_of td_X7_image 9 rfl) ?_
    refine ok_gI (fun v3 => ?_)
    refine ok_istore2 (dq_of td_X7_image 10 rfl) rfl (by decide) ?_
    refine ok_iconst (v := 0) (dq_of td_X7_image 11 rfl) (by decide) ?_
    refine ok_istore3 (dq_of td_X7_image 12 rfl) rfl (by decide) ?_
    refine ok_wk (wk_s (wk_s (wk_s (wk_s wk_0)))) ?_
    refine ld_X7_image_19 _  (fun x2q15 σ15 => ?_) _ _ _ _
    refine ok_iconst (v := 0) (dq_of td_X7_image 148 rfl) (by decide) ?_
    refine ok_istore3 (dq_of td_X7_image 149 rfl) rfl (by decide) ?_
    refine ok_wk (wk_s (wk_s (wk_s (wk_s wk_0)))) ?_
    refine ld_X7_image_215 _  (fun x2q17 σ17 => ?_) _ _ _ _
    refine ok_aload0 (dq_of td_X7_image 167 rfl) ?_
    refine ok_get (v := k_rr G 121) fl_X7_75 (by decide) ko_100 rfl (dq_of td_X7_image 168 rfl) ?_
    refine ok_iload2 (dq_of td_X7_image 169 rfl) ?_
    refine ok_bipush (v := 70) (dq_of td_X7_image 170 rfl) (by decide) ?_
    refine ok_iadd (dq_of td_X7_image 171 rfl) ?_
    refine ok_aload0 (dq_of td_X7_image 172 rfl) ?_
    refine ok_get (v := .int (σ17 100 0)) fl_X7_85 (by decide) ko_100 rfl (dq_of td_X7_image 173 rfl) ?_
    refine ok_iast ka_121 (dq_of td_X7_image 174 rfl) (fun σ18 => ?_)
    refine ok_aload0 (dq_of td_X7_image 175 rfl) ?_
    refine ok_get (v := k_rr G 121) fl_X7_75 (by decide) ko_100 rfl (dq_of td_X7_image 176 rfl) ?_
    refine ok_iload2 (dq_of td_X7_image 177 rfl) ?_
    refine ok_bipush (v := 71) (dq_of td_X7_image 178 rfl) (by decide) ?_
    refine ok_iadd (dq_of td_X7_image 179 rfl) ?_
    refine ok_aload0 (dq_of td_X7_image 180 rfl) ?_
    refine ok_get (v := .int (σ18 100 1)) fl_X7_92 (by decide) ko_100 rfl (dq_of td_X7_image 181 rfl) ?_
    refine ok_iast ka_121 (dq_of td_X7_image 182 rfl) (fun σ19 => ?_)
    refine ok_aload0 (dq_of td_X7_image 183 rfl) ?_
    refine ok_get (v := k_rr G 121) fl_X7_75 (by decide) ko_100 rfl (dq_of td_X7_image 184 rfl) ?_
    refine ok_iload2 (dq_of td_X7_image 185 rfl) ?_
    refine ok_bipush (v := 72) (dq_of td_X7_image 186 rfl) (by decide) ?_
    refine ok_iadd (dq_of td_X7_image 187 rfl) ?_
    refine ok_aload0 (dq_of td_X7_image 188 rfl) ?_
    refine ok_get (v := .int (σ19 100 7)) fl_X7_25 (by decide) ko_100 rfl (dq_of td_X7_image 189 rfl) ?_
    refine ok_iast ka_121 (dq_of td_X7_image 190 rfl) (fun σ20 => ?_)
    refine ok_aload0 (dq_of td_X7_image 191 rfl) ?_
    refine ok_get (v := k_rr G 121) fl_X7_75 (by decide) ko_100 rfl (dq_of td_X7_image 192 rfl) ?_
    refine ok_iload2 (dq_of td_X7_image 193 rfl) ?_
    refine ok_bipush (v := 73) (dq_of td_X7_image 194 rfl) (by decide) ?_
    refine ok_iadd (dq_of td_X7_image 195 rfl) ?_
    refine ok_aload0 (dq_of td_X7_image 196 rfl) ?_
    refine ok_get (v := .int (σ20 100 14)) fl_X7_207 (by decide) ko_100 rfl (dq_of td_X7_image 197 rfl) ?_
    refine ok_iast ka_121 (dq_of td_X7_image 198 rfl) (fun σ21 => ?_)
    refine ok_aload0 (dq_of td_X7_image 199 rfl) ?_
    refine ok_get (v := k_rr G 122) fl_X7_78 (by decide) ko_100 rfl (dq_of td_X7_image 200 rfl) ?_
    refine ok_iload1 (dq_of td_X7_image 201 rfl) ?_
    refine ok_iconst (v := 1) (dq_of td_X7_image 202 rfl) (by decide) ?_
    refine ok_zast ka_122 (by decide) (dq_of td_X7_image 203 rfl) (fun σ22 => ?_)
    refine ok_iconst (v := 1) (dq_of td_X7_image 204 rfl) (by decide) ?_
    exact ok_iret (dq_of td_X7_image 205 rfl)
  · refine ok_bipush (v := (-2)) (dq_of td_X7_image 5 rfl) (by decide) ?_
    exact ok_iret (dq_of td_X7_image 6 rfl)
theorem ct_X7_image {G : KW} {l : Launch} (x1 : Int32)  (σ : Sg) : ∀ b, m_X7_image x1 σ = some b → MetF G l yX7_image cX7_image 4 (some .int) 1 22 [k_rr G 100, .int x1] (k_wl G σ) (ccI b).1 (k_wl G (ccI b).2) :=
  met_of (by decide) (Nat.le_of_ble_eq_true rfl) rfl (om_X7_image _  σ)
theorem call_X7_image {G : KW} {l : Launch} {cc : ByteArray} {nL : Nat} {own : String} {rt : Option FieldType} {R : Room} {α : Type} {X : State → Array Value → Method → Prop} {Z : α → List Frame → Array Value → State → State → Prop} {k0 n0 pc index : Nat} {L : List (Option Value)} {S : List Value} {σ : Sg} {F : Int32 → Sg → Option α} {x1 : Int32} (lk : MLk own index yX7_image)  (hR : R.frames ≥ 1 + 1 ∧ R.locals ≥ 8 + (4 + 11) + 22) (hcs : k0 ≤ R.cells ∧ n0 ≤ R.slots) (hro : (S.map fun v => v.category).sum ≤ 8) (d : decode cc pc = .ok (.invokevirtual index, 3)) (kk : ∀ (r : Int32) (σ' : Sg), Okg G l cc nL own rt R X Z k0 n0 (pc + 3) L (.int r :: S) σ' (F r σ')) : Okg G l cc nL own rt R X Z k0 n0 pc L (.int x1 :: k_rr G 100 :: S) σ (e_cI (m_X7_image x1 σ) F) :=
  ok_cV (cb := ccI) (As := [.int x1]) (ct_X7_image _  σ) mo_X7_image hi_X7_image lk rfl (ci := 7) rfl rfl (by decide) ko_100 hR rfl hcs hro d (fun b => kk b.1 b.2)
/-! CoatDinnerModel.restore(I)I -/
def d_X7_restore_31 (x1 : Int32) (K : Int32 → Sg → Option (Int32 × Sg)) (H : Int32 → Int32 → Sg → Option (Int32 × Sg)) (x2 : Int32) (x3 : Int32) (σ : Sg) : Option (Int32 × Sg) := (if 5 ≤ x3 then K x2 σ else e_gd (k_in (x2 + x3) 200) (e_wr σ 101 x3 5 (σ 121 (Int32.toNatClampNeg (x2 + x3))) (fun σ4 => e_gd (k_in ((x2 + 5) + x3) 200) (e_wr σ4 102 x3 5 (σ4 121 (Int32.toNatClampNeg ((x2 + 5) + x3))) (fun σ5 => e_gd (k_in ((x2 + 10) + x3) 200) (e_wr σ5 103 x3 5 (σ5 121 (Int32.toNatClampNeg ((x2 + 10) + x3))) (fun σ6 => e_gd (k_in ((x2 + 15) + x3) 200) (e_wr σ6 104 x3 5 (σ6 121 (Int32.toNatClampNeg ((x2 + 15) + x3))) (fun σ7 => e_gd (k_in ((x2 + 20) + x3) 200) (e_wr σ7 105 x3 5 (σ7 121 (Int32.toNatClampNeg ((x2 + 20) + x3))) (fun σ8 => e_gd (k_in ((x2 + 25) + x3) 200) (e_wr σ8 106 x3 5 (σ8 121 (Int32.toNatClampNeg ((x2 + 25) + x3))) (fun σ9 => e_gd (k_in ((x2 + 30) + x3) 200) (e_wr σ9 107 x3 5 (σ9 121 (Int32.toNatClampNeg ((x2 + 30) + x3))) (fun σ10 => e_gd (k_in ((x2 + 35) + x3) 200) (e_wr σ10 108 x3 5 (σ10 121 (Int32.toNatClampNeg ((x2 + 35) + x3))) (fun σ11 => e_gd (k_in ((x2 + 40) + x3) 200) (e_wr σ11 109 x3 5 (σ11 121 (Int32.toNatClampNeg ((x2 + 40) + x3))) (fun σ12 => e_gd (k_in ((x2 + 45) + x3) 200) (e_wr σ12 110 x3 5 (σ12 121 (Int32.toNatClampNeg ((x2 + 45) + x3))) (fun σ13 => e_gd (k_in ((x2 + 50) + x3) 200) (e_wr σ13 111 x3 5 (σ13 121 (Int32.toNatClampNeg ((x2 + 50) + x3))) (fun σ14 => H x2 (x3 + 1) σ14)))))))))))))))))))))))
def d_X7_restore_227 (x1 : Int32) (K : Int32 → Sg → Option (Int32 × Sg)) (H : Int32 → Int32 → Sg → Option (Int32 × Sg)) (x2 : Int32) (x3 : Int32) (σ : Sg) : Option (Int32 × Sg) := (if 12 ≤ x3 then K x2 σ else e_gd (k_in ((x2 + 55) + x3) 200) (e_wr σ 112 x3 12 (σ 121 (Int32.toNatClampNeg ((x2 + 55) + x3))) (fun σ16 => H x2 (x3 + 1) σ16)))
theorem od_X7_restore_31 {G : KW} {l : Launch} (x1 : Int32)  {K : Int32 → Sg → Option (Int32 × Sg)} {H : Int32 → Int32 → Sg → Option (Int32 × Sg)} (hK : ∀ (x2 : Int32) (σ : Sg), Okk G l cX7_restore 4 RX7 (some .int) (rmo 1 22) ccI 225 [some (k_rr G 100), none, some (.int x2), none] [] σ (K x2 σ)) (hH : ∀ (x2 : Int32) (x3 : Int32) (σ : Sg), Okk G l cX7_restore 4 RX7 (some .int) (rmo 1 22) ccI 31 [some (k_rr G 100), none, some (.int x2), some (.int x3)] [] σ (H x2 x3 σ)) (x2 : Int32) (x3 : Int32)  (σ : Sg) : Okk G l cX7_restore 4 RX7 (some .int) (rmo 1 22) ccI 31 [some (k_rr G 100), none, some (.int x2), some (.int x3)] [] σ (d_X7_restore_31 x1 K H x2 x3 σ) := by
  unfold d_X7_restore_31
  refine ok_iload3 (dq_of td_X7_restore 20 rfl) ?_
  refine ok_iconst (v := 5) (dq_of td_X7_restore 21 rfl) (by decide) ?_
  refine ok_ic_ge (tgt := 225) (dq_of td_X7_restore 22 rfl) (by decide) ?_ ?_
  · refine ok_wk (wk_s (wk_n (wk_s (wk_n wk_0)))) ?_
    exact hK _ _
  · refine ok_aload0 (dq_of td_X7_restore 23 rfl) ?_
    refine ok_get (v := k_rr G 101) fl_X7_7 (by decide) ko_100 rfl (dq_of td_X7_restore 24 rfl) ?_
    refine ok_iload3 (dq_of td_X7_restore 25 rfl) ?_
    refine ok_aload0 (dq_of td_X7_restore 26 rfl) ?_
    refine ok_get (v := k_rr G 121) fl_X7_75 (by decide) ko_100 rfl (dq_of td_X7_restore 27 rfl) ?_
    refine ok_iload2 (dq_of td_X7_restore 28 rfl) ?_
    refine ok_iload3 (dq_of td_X7_restore 29 rfl) ?_
    refine ok_iadd (dq_of td_X7_restore 30 rfl) ?_
    refine ok_iald ka_121 (dq_of td_X7_restore 31 rfl) ?_
    refine ok_iast ka_101 (dq_of td_X7_restore 32 rfl) (fun σ4 => ?_)
    refine ok_aload0 (dq_of td_X7_restore 33 rfl) ?_
    refine ok_get (v := k_rr G 102) fl_X7_13 (by decide) ko_100 rfl (dq_of td_X7_restore 34 rfl) ?_
    refine ok_iload3 (dq_of td_X7_restore 35 rfl) ?_
    refine ok_aload0 (dq_of td_X7_restore 36 rfl) ?_
    refine ok_get (v := k_rr G 121) fl_X7_75 (by decide) ko_100 rfl (dq_of td_X7_restore 37 rfl) ?_
    refine ok_iload2 (dq_of td_X7_restore 38 rfl) ?_
    refine ok_iconst (v := 5) (dq_of td_X7_restore 39 rfl) (by decide) ?_
    refine ok_iadd (dq_of td_X7_restore 40 rfl) ?_
    refine ok_iload3 (dq_of td_X7_restore 41 rfl) ?_
    refine ok_iadd (dq_of td_X7_restore 42 rfl) ?_
    refine ok_iald ka_121 (dq_of td_X7_restore 43 rfl) ?_
    refine ok_iast ka_102 (dq_of td_X7_restore 44 rfl) (fun σ5 => ?_)
    refine ok_aload0 (dq_of td_X7_restore 45 rfl) ?_
    refine ok_get (v := k_rr G 103) fl_X7_16 (by decide) ko_100 rfl (dq_of td_X7_restore 46 rfl) ?_
    refine ok_iload3 (dq_of td_X7_restore 47 rfl) ?_
    refine ok_aload0 (dq_of td_X7_restore 48 rfl) ?_
    refine ok_get (v := k_rr G 121) fl_X7_75 (by decide) ko_100 rfl (dq_of td_X7_restore 49 rfl) ?_
    refine ok_iload2 (dq_of td_X7_restore 50 rfl) ?_
    refine ok_bipush (v := 10) (dq_of td_X7_restore 51 rfl) (by decide) ?_
    refine ok_iadd (dq_of td_X7_restore 52 rfl) ?_
    refine ok_iload3 (dq_of td_X7_restore 53 rfl) ?_
    refine ok_iadd (dq_of td_X7_restore 54 rfl) ?_
    refine ok_iald ka_121 (dq_of td_X7_restore 55 rfl) ?_
    refine ok_iast ka_103 (dq_of td_X7_restore 56 rfl) (fun σ6 => ?_)
    refine ok_aload0 (dq_of td_X7_restore 57 rfl) ?_
    refine ok_get (v := k_rr G 104) fl_X7_19 (by decide) ko_100 rfl (dq_of td_X7_restore 58 rfl) ?_
    refine ok_iload3 (dq_of td_X7_restore 59 rfl) ?_
    refine ok_aload0 (dq_of td_X7_restore 60 rfl) ?_
    refine ok_get (v := k_rr G 121) fl_X7_75 (by decide) ko_100 rfl (dq_of td_X7_restore 61 rfl) ?_
    refine ok_iload2 (dq_of td_X7_restore 62 rfl) ?_
    refine ok_bipush (v := 15) (dq_of td_X7_restore 63 rfl) (by decide) ?_
    refine ok_iadd (dq_of td_X7_restore 64 rfl) ?_
    refine ok_iload3 (dq_of td_X7_restore 65 rfl) ?_
    refine ok_iadd (dq_of td_X7_restore 66 rfl) ?_
    refine ok_iald ka_121 (dq_of td_X7_restore 67 rfl) ?_
    refine ok_iast ka_104 (dq_of td_X7_restore 68 rfl) (fun σ7 => ?_)
    refine ok_aload0 (dq_of td_X7_restore 69 rfl) ?_
    refine ok_get (v := k_rr G 105) fl_X7_22 (by decide) ko_100 rfl (dq_of td_X7_restore 70 rfl) ?_
    refine ok_iload3 (dq_of td_X7_restore 71 rfl) ?_
    refine ok_aload0 (dq_of td_X7_restore 72 rfl) ?_
    refine ok_get (v := k_rr G 121) fl_X7_75 (by decide) ko_100 rfl (dq_of td_X7_restore 73 rfl) ?_
    refine ok_iload2 (dq_of td_X7_restore 74 rfl) ?_
    refine ok_bipush (v := 20) (dq_of td_X7_restore 75 rfl) (by decide) ?_
    refine ok_iadd (dq_of td_X7_restore 76 rfl) ?_
    refine ok_iload3 (dq_of td_X7_restore 77 rfl) ?_
    refine ok_iadd (dq_of td_X7_restore 78 rfl) ?_
    refine ok_iald ka_121 (dq_of td_X7_restore 79 rfl) ?_
    refine ok_iast ka_105 (dq_of td_X7_restore 80 rfl) (fun σ8 => ?_)
    refine ok_aload0 (dq_of td_X7_restore 81 rfl) ?_
    refine ok_get (v := k_rr G 106) fl_X7_29 (by decide) ko_100 rfl (dq_of td_X7_restore 82 rfl) ?_
    refine ok_iload3 (dq_of td_X7_restore 83 rfl) ?_
    refine ok_aload0 (dq_of td_X7_restore 84 rfl) ?_
    refine ok_get (v := k_rr G 121) fl_X7_75 (by decide) ko_100 rfl (dq_of td_X7_restore 85 rfl) ?_
    refine ok_iload2 (dq_of td_X7_restore 86 rfl) ?_
    refine ok_bipush (v := 25) (dq_of td_X7_restore 87 rfl) (by decide) ?_
    refine ok_iadd (dq_of td_X7_restore 88 rfl) ?_
    refine ok_iload3 (dq_of td_X7_restore 89 rfl) ?_
    refine ok_iadd (dq_of td_X7_restore 90 rfl) ?_
    refine ok_iald ka_121 (dq_of td_X7_restore 91 rfl) ?_
    refine ok_iast ka_106 (dq_of td_X7_restore 92 rfl) (fun σ9 => ?_)
    refine ok_aload0 (dq_of td_X7_restore 93 rfl) ?_
    refine ok_get (v := k_rr G 107) fl_X7_32 (by decide) ko_100 rfl (dq_of td_X7_restore 94 rfl) ?_
    refine ok_iload3 (dq_of td_X7_restore 95 rfl) ?_
    refine ok_aload0 (dq_of td_X7_restore 96 rfl) ?_
    refine ok_get (v := k_rr G 121) fl_X7_75 (by decide) ko_100 rfl (dq_of td_X7_restore 97 rfl) ?_
    refine ok_iload2 (dq_of td_X7_restore 98 rfl) ?_
    refine ok_bipush (v := 30) (dq_of td_X7_restore 99 rfl) (by decide) ?_
    refine ok_iadd (dq_of td_X7_restore 100 rfl) ?_
    refine ok_iload3 (dq_of td_X7_restore 101 rfl) ?_
    refine ok_iadd (dq_of td_X7_restore 102 rfl) ?_
    refine ok_iald ka_121 (dq_of td_X7_restore 103 rfl) ?_
    refine ok_iast ka_107 (dq_of td_X7_restore 104 rfl) (fun σ10 => ?_)
    refine ok_aload0 (dq_of td_X7_restore 105 rfl) ?_
    refine ok_get (v := k_rr G 108) fl_X7_35 (by decide) ko_100 rfl (dq_of td_X7_restore 106 rfl) ?_
    refine ok_iload3 (dq_of td_X7_restore 107 rfl) ?_
    refine ok_aload0 (dq_of td_X7_restore 108 rfl) ?_
    refine ok_get (v := k_rr G 121) fl_X7_75 (by decide) ko_100 rfl (dq_of td_X7_restore 109 rfl) ?_
    refine ok_iload2 (dq_of td_X7_restore 110 rfl) ?_
    refine ok_bipush (v := 35) (dq_of td_X7_restore 111 rfl) (by decide) ?_
    refine ok_iadd (dq_of td_X7_restore 112 rfl) ?_
    refine ok_iload3 (dq_of td_X7_restore 113 rfl) ?_
    refine ok_iadd (dq_of td_X7_restore 114 rfl) ?_
    refine ok_iald ka_121 (dq_of td_X7_restore 115 rfl) ?_
    refine ok_iast ka_108 (dq_of td_X7_restore 116 rfl) (fun σ11 => ?_)
    refine ok_aload0 (dq_of td_X7_restore 117 rfl) ?_
    refine ok_get (v := k_rr G 109) fl_X7_38 (by decide) ko_100 rfl (dq_of td_X7_restore 118 rfl) ?_
    refine ok_iload3 (dq_of td_X7_restore 119 rfl) ?_
    refine ok_aload0 (dq_of td_X7_restore 120 rfl) ?_
    refine ok_get (v := k_rr G 121) fl_X7_75 (by decide) ko_100 rfl (dq_of td_X7_restore 121 rfl) ?_
    refine ok_iload2 (dq_of td_X7_restore 122 rfl) ?_
    refine ok_bipush (v := 40) (dq_of td_X7_restore 123 rfl) (by decide) ?_
    refine ok_iadd (dq_of td_X7_restore 124 rfl) ?_
    refine ok_iload3 (dq_of td_X7_restore 125 rfl) ?_
    refine ok_iadd (dq_of td_X7_restore 126 rfl) ?_
    refine ok_iald ka_121 (dq_of td_X7_restore 127 rfl) ?_
    refine ok_iast ka_109 (dq_of td_X7_restore 128 rfl) (fun σ12 => ?_)
    refine ok_aload0 (dq_of td_X7_restore 129 rfl) ?_
    refine ok_get (v := k_rr G 110) fl_X7_41 (by decide) ko_100 rfl (dq_of td_X7_restore 130 rfl) ?_
    refine ok_iload3 (dq_of td_X7_restore 131 rfl) ?_
    refine ok_aload0 (dq_of td_X7_restore 132 rfl) ?_
    refine ok_get (v := k_rr G 121) fl_X7_75 (by decide) ko_100 rfl (dq_of td_X7_restore 133 rfl) ?_
    refine ok_iload2 (dq_of td_X7_restore 134 rfl) ?_
    refine ok_bipush (v := 45) (dq_of td_X7_restore 135 rfl) (by decide) ?_
    refine ok_iadd (dq_of td_X7_restore 136 rfl) ?_
    refine ok_iload3 (dq_of td_X7_restore 137 rfl) ?_
    refine ok_iadd (dq_of td_X7_restore 138 rfl) ?_
    refine ok_iald ka_121 (dq_of td_X7_restore 139 rfl) ?_
    refine ok_iast ka_110 (dq_of td_X7_restore 140 rfl) (fun σ13 => ?_)
    refine ok_aload0 (dq_of td_X7_restore 141 rfl) ?_
    refine ok_get (v := k_rr G 111) fl_X7_44 (by decide) ko_100 rfl (dq_of td_X7_restore 142 rfl) ?_
    refine ok_iload3 (dq_of td_X7_restore 143 rfl) ?_
    refine ok_aload0 (dq_of td_X7_restore 144 rfl) ?_
    refine ok_get (v := k_rr G 121) fl_X7_75 (by decide) ko_100 rfl (dq_of td_X7_restore 145 rfl) ?_
    refine ok_iload2 (dq_of td_X7_restore 146 rfl) ?_
    refine ok_bipush (v := 50) (dq_of td_X7_restore 147 rfl) (by decide) ?_
    refine ok_iadd (dq_of td_X7_restore 148 rfl) ?_
    refine ok_iload3 (dq_of td_X7_restore 149 rfl) ?_
    refine ok_iadd (dq_of td_X7_restore 150 rfl) ?_
    refine ok_iald ka_121 (dq_of td_X7_restore 151 rfl) ?_
    refine ok_iast ka_111 (dq_of td_X7_restore 152 rfl) (fun σ14 => ?_)
    refine ok_jinc3 (w := 1) (dq_of td_X7_restore 153 rfl) (by decide) rfl (by decide) ?_
    refine ok_goto (tgt := 31) (dq_of td_X7_restore 154 rfl) (by decide) ?_
    refine ok_wk (wk_s (wk_n (wk_s (wk_s wk_0)))) ?_
    exact hH _ _ _
theorem ld_X7_restore_31 {G : KW} {l : Launch} (x1 : Int32)  {K : Int32 → Sg → Option (Int32 × Sg)} (hK : ∀ (x2 : Int32) (σ : Sg), Okk G l cX7_restore 4 RX7 (some .int) (rmo 1 22) ccI 225 [some (k_rr G 100), none, some (.int x2), none] [] σ (K x2 σ)) (n : Nat) (x2 : Int32) (x3 : Int32) (σ : Sg) : Okk G l cX7_restore 4 RX7 (some .int) (rmo 1 22) ccI 31 [some (k_rr G 100), none, some (.int x2), some (.int x3)] [] σ (e_lp2 (d_X7_restore_31 x1 K) n x2 x3 σ) :=
  ok_lp2 (Lf := fun (x2 : Int32) (x3 : Int32) => [some (k_rr G 100), none, some (.int x2), some (.int x3)]) (fun _ hH x2 x3 σ => od_X7_restore_31 _  hK hH x2 x3 σ) n x2 x3 σ
theorem od_X7_restore_227 {G : KW} {l : Launch} (x1 : Int32)  {K : Int32 → Sg → Option (Int32 × Sg)} {H : Int32 → Int32 → Sg → Option (Int32 × Sg)} (hK : ∀ (x2 : Int32) (σ : Sg), Okk G l cX7_restore 4 RX7 (some .int) (rmo 1 22) ccI 256 [some (k_rr G 100), none, some (.int x2), none] [] σ (K x2 σ)) (hH : ∀ (x2 : Int32) (x3 : Int32) (σ : Sg), Okk G l cX7_restore 4 RX7 (some .int) (rmo 1 22) ccI 227 [some (k_rr G 100), none, some (.int x2), some (.int x3)] [] σ (H x2 x3 σ)) (x2 : Int32) (x3 : Int32)  (σ : Sg) : Okk G l cX7_restore 4 RX7 (some .int) (rmo 1 22) ccI 227 [some (k_rr G 100), none, some (.int x2), some (.int x3)] [] σ (d_X7_restore_227 x1 K H x2 x3 σ) := by
  unfold d_X7_restore_227
  refine ok_iload3 (dq_of td_X7_restore 157 rfl) ?_
  refine ok_bipush (v := 12) (dq_of td_X7_restore 158 rfl) (by decide) ?_
  refine ok_ic_ge (tgt := 256) (dq_of td_X7_restore 159 rfl) (by decide) ?_ ?_
  · refine ok_wk (wk_s (wk_n (wk_s (wk_n wk_0)))) ?_
    exact hK _ _
  · refine ok_aload0 (dq_of td_X7_restore 160 rfl) ?_
    refine ok_get (v := k_rr G 112) fl_X7_47 (by decide) ko_100 rfl (dq_of td_X7_restore 161 rfl) ?_
    refine ok_iload3 (dq_of td_X7_restore 162 rfl) ?_
    refine ok_aload0 (dq_of td_X7_restore 163 rfl) ?_
    refine ok_get (v := k_rr G 121) fl_X7_75 (by decide) ko_100 rfl (dq_of td_X7_restore 164 rfl) ?_
    refine ok_iload2 (dq_of td_X7_restore 165 rfl) ?_
    refine ok_bipush (v := 55) (dq_of td_X7_restore 166 rfl) (by decide) ?_
    refine ok_iadd (dq_of td_X7_restore 167 rfl) ?_
    refine ok_iload3 (dq_of td_X7_restore 168 rfl) ?_
    refine ok_iadd (dq_of td_X7_restore 169 rfl) ?_
    refine ok_iald ka_121 (dq_of td_X7_restore 170 rfl) ?_
    refine ok_iast ka_112 (dq_of td_X7_restore 171 rfl) (fun σ16 => ?_)
    refine ok_jinc3 (w := 1) (dq_of td_X7_restore 172 rfl) (by decide) rfl (by decide) ?_
    refine ok_goto (tgt := 227) (dq_of td_X7_restore 173 rfl) (by decide) ?_
    refine ok_wk (wk_s (wk_n (wk_s (wk_s wk_0)))) ?_
    exact hH _ _ _
theorem ld_X7_restore_227 {G : KW} {l : Launch} (x1 : Int32)  {K : Int32 → Sg → Option (Int32 × Sg)} (hK : ∀ (x2 : Int32) (σ : Sg), Okk G l cX7_restore 4 RX7 (some .int) (rmo 1 22) ccI 256 [some (k_rr G 100), none, some (.int x2), none] [] σ (K x2 σ)) (n : Nat) (x2 : Int32) (x3 : Int32) (σ : Sg) : Okk G l cX7_restore 4 RX7 (some .int) (rmo 1 22) ccI 227 [some (k_rr G 100), none, some (.int x2), some (.int x3)] [] σ (e_lp2 (d_X7_restore_227 x1 K) n x2 x3 σ) :=
  ok_lp2 (Lf := fun (x2 : Int32) (x3 : Int32) => [some (k_rr G 100), none, some (.int x2), some (.int x3)]) (fun _ hH x2 x3 σ => od_X7_restore_227 _  hK hH x2 x3 σ) n x2 x3 σ
def m_X7_restore (x1 : Int32) (σ : Sg) : Option (Int32 × Sg) := e_cI (m_X7_in x1 0 1 σ) (fun r2 σ1 => (if r2 = 0 then some ((-2), σ1) else e_gd (k_in x1 2) ((if (σ1 122 (Int32.toNatClampNeg x1)) = 0 then some ((-3), σ1) else e_lt (100 * x1) (fun v3 => e_lp2 (d_X7_restore_31 x1 (fun x2q15 σ15 => e_lp2 (d_X7_restore_227 x1 (fun x2q17 σ17 => e_gd (k_in (x2q17 + 70) 200) (e_lt (k_up σ17 100 0 (σ17 121 (Int32.toNatClampNeg (x2q17 + 70)))) (fun σ18 => e_gd (k_in (x2q17 + 71) 200) (e_lt (k_up σ18 100 1 (σ18 121 (Int32.toNatClampNeg (x2q17 + 71)))) (fun σ19 => e_gd (k_in (x2q17 + 72) 200) (e_lt (k_up σ19 100 7 (σ19 121 (Int32.toNatClampNeg (x2q17 + 72)))) (fun σ20 => e_gd (k_in (x2q17 + 73) 200) (e_lt (k_up σ20 100 14 (σ20 121 (Int32.toNatClampNeg (x2q17 + 73)))) (fun σ21 => some (1, σ21))))))))))) e_F x2q15 0 σ15)) e_F v3 0 σ1)))))
theorem om_X7_restore {G : KW} {l : Launch} (x1 : Int32)  (σ : Sg) : Okk G l cX7_restore 4 RX7 (some .int) (rmo 1 22) ccI 0 [some (k_rr G 100), some (.int x1), none, none] [] σ (m_X7_restore x1 σ) := by
  unfold m_X7_restore
  refine ok_iload1 (dq_of td_X7_restore 0 rfl) ?_
  refine ok_iconst (v := 0) (dq_of td_X7_restore 1 rfl) (by decide) ?_
  refine ok_iconst (v := 1) (dq_of td_X7_restore 2 rfl) (by decide) ?_
  refine call_X7_in ml_X7_81  ⟨Nat.le_of_ble_eq_true rfl, Nat.le_of_ble_eq_true rfl⟩ ⟨Nat.zero_le _, Nat.zero_le _⟩ (Nat.le_of_ble_eq_true rfl) (dq_of td_X7_restore 3 rfl) (fun r2 σ1 => ?_)
  refine ok_if_ne (tgt := 12) (dq_of td_X7_restore 4 rfl) (by decide) ?_ ?_
  · refine ok_aload0 (dq_of td_X7_restore 7 rfl) ?_
    refine ok_get (v := k_rr G 122) fl_X7_78 (by decide) ko_100 rfl (dq_of td_X7_restore 8 rfl) ?_
    refine ok_iload1 (dq_of td_X7_restore 9 rfl) ?_
    refine ok_zald ka_122 (dq_of td_X7_restore 10 rfl) ?_
    refine ok_if_ne (tgt := 24) (dq_of td_X7_restore 11 rfl) (by decide) ?_ ?_
    · refine ok_bipush (v := 100) (dq_of td_X7_restore 14 rfl) (by decide) ?_
      refine ok_iload1 (dq_of td_X7_restore 15 rfl) ?_
      refine ok_imul (dq_of td_X7_restore 16 rfl) ?_
      refine ok_gI (fun v3 => ?_)
      refine ok_istore2 (dq_of td_X7_restore 17 rfl) rfl (by decide) ?_
      refine ok_iconst (v := 0) (dq_of td_X7_restore 18 rfl) (by decide) ?_
      refine ok_istore3 (dq_of td_X7_restore 19 rfl) rfl (by decide) ?_
      refine ok_wk (wk_s (wk_n (wk_s (wk_s wk_0)))) ?_
      refine ld_X7_restore_31 _  (fun x2q15 σ15 => ?_) _ _ _ _
      refine ok_iconst (v := 0) (dq_of td_X7_restore 155 rfl) (by decide) ?_
      refine ok_istore3 (dq_of td_X7_restore 156 rfl) rfl (by decide) ?_
      refine ok_wk (wk_s (wk_n (wk_s (wk_s wk_0)))) ?_
      refine ld_X7_restore_227 _  (fun x2q17 σ17 => ?_) _ _ _ _
      refine ok_aload0 (dq_of td_X7_restore 174 rfl) ?_
      refine ok_aload0 (dq_of td_X7_restore 175 rfl) ?_
      refine ok_get (v := k_rr G 121) fl_X7_75 (by decide) ko_100 rfl (dq_of td_X7_restore 176 rfl) ?_
      refine ok_iload2 (dq_of td_X7_restore 177 rfl) ?_
      refine ok_bipush (v := 70) (dq_of td_X7_restore 178 rfl) (by decide) ?_
      refine ok_iadd (dq_of td_X7_restore 179 rfl) ?_
      refine ok_iald ka_121 (dq_of td_X7_restore 180 rfl) ?_
      refine put_7_0 fl_X7_85 ko_100 (dq_of td_X7_restore 181 rfl) (fun σ18 => ?_)
      refine ok_aload0 (dq_of td_X7_restore 182 rfl) ?_
      refine ok_aload0 (dq_of td_X7_restore 183 rfl) ?_
      refine ok_get (v := k_rr G 121) fl_X7_75 (by decide) ko_100 rfl (dq_of td_X7_restore 184 rfl) ?_
      refine ok_iload2 (dq_of td_X7_restore 185 rfl) ?_
      refine ok_bipush (v := 71) (dq_of td_X7_restore 186 rfl) (by decide) ?_
      refine ok_iadd (dq_of td_X7_restore 187 rfl) ?_
      refine ok_iald ka_121 (dq_of td_X7_restore 188 rfl) ?_
      refine put_7_1 fl_X7_92 ko_100 (dq_of td_X7_restore 189 rfl) (fun σ19 => ?_)
      refine ok_aload0 (dq_of td_X7_restore 190 rfl) ?_
      refine ok_aload0 (dq_of td_X7_restore 191 rfl) ?_
      refine ok_get (v := k_rr G 121) fl_X7_75 (by decide) ko_100 rfl (dq_of td_X7_restore 192 rfl) ?_
      refine ok_iload2 (dq_of td_X7_restore 193 rfl) ?_
      refine ok_bipush (v := 72) (dq_of td_X7_restore 194 rfl) (by decide) ?_
      refine ok_iadd (dq_of td_X7_restore 195 rfl) ?_
      refine ok_iald ka_121 (dq_of td_X7_restore 196 rfl) ?_
      refine put_7_7 fl_X7_25 ko_100 (dq_of td_X7_restore 197 rfl) (fun σ20 => ?_)
      refine ok_aload0 (dq_of td_X7_restore 198 rfl) ?_
      refine ok_aload0 (dq_of td_X7_restore 199 rfl) ?_
      refine ok_get (v := k_rr G 121) fl_X7_75 (by decide) ko_100 rfl (dq_of td_X7_restore 200 rfl) ?_
      refine ok_iload2 (dq_of td_X7_restore 201 rfl) ?_
      refine ok_bipush (v := 73) (dq_of td_X7_restore 202 rfl) (by decide) ?_
      refine ok_iadd (dq_of td_X7_restore 203 rfl) ?_
      refine ok_iald ka_121 (dq_of td_X7_restore 204 rfl) ?_
      refine put_7_14 fl_X7_207 ko_100 (dq_of td_X7_restore 205 rfl) (fun σ21 => ?_)
      refine ok_iconst (v := 1) (dq_of td_X7_restore 206 rfl) (by decide) ?_
      exact ok_iret (dq_of td_X7_restore 207 rfl)
    · refine ok_bipush (v := (-3)) (dq_of td_X7_restore 12 rfl) (by decide) ?_
      exact ok_iret (dq_of td_X7_restore 13 rfl)
  · refine ok_bipush (v := (-2)) (dq_of td_X7_restore 5 rfl) (by decide) ?_
    exact ok_iret (dq_of td_X7_restore 6 rfl)
theorem ct_X7_restore {G : KW} {l : Launch} (x1 : Int32)  (σ : Sg) : ∀ b, m_X7_restore x1 σ = some b → MetF G l yX7_restore cX7_restore 4 (some .int) 1 22 [k_rr G 100, .int x1] (k_wl G σ) (ccI b).1 (k_wl G (ccI b).2) :=
  met_of (by decide) (Nat.le_of_ble_eq_true rfl) rfl (om_X7_restore _  σ)
theorem call_X7_restore {G : KW} {l : Launch} {cc : ByteArray} {nL : Nat} {own : String} {rt : Option FieldType} {R : Room} {α : Type} {X : State → Array Value → Method → Prop} {Z : α → List Frame → Array Value → State → State → Prop} {k0 n0 pc index : Nat} {L : List (Option Value)} {S : List Value} {σ : Sg} {F : Int32 → Sg → Option α} {x1 : Int32} (lk : MLk own index yX7_restore)  (hR : R.frames ≥ 1 + 1 ∧ R.locals ≥ 8 + (4 + 11) + 22) (hcs : k0 ≤ R.cells ∧ n0 ≤ R.slots) (hro : (S.map fun v => v.category).sum ≤ 8) (d : decode cc pc = .ok (.invokevirtual index, 3)) (kk : ∀ (r : Int32) (σ' : Sg), Okg G l cc nL own rt R X Z k0 n0 (pc + 3) L (.int r :: S) σ' (F r σ')) : Okg G l cc nL own rt R X Z k0 n0 pc L (.int x1 :: k_rr G 100 :: S) σ (e_cI (m_X7_restore x1 σ) F) :=
  ok_cV (cb := ccI) (As := [.int x1]) (ct_X7_restore _  σ) mo_X7_restore hi_X7_restore lk rfl (ci := 7) rfl rfl (by decide) ko_100 hR rfl hcs hro d (fun b => kk b.1 b.2)
