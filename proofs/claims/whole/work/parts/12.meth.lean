/-! CoatDinner.sewn(II)I -/
def d_X6_sewn_69 (x1 : Int32) (x2 : Int32) (K : Sg → Option (Int32 × Sg)) (H : Int32 → Int32 → Sg → Option (Int32 × Sg)) (x3 : Int32) (x4 : Int32) (σ : Sg) : Option (Int32 × Sg) := (if 99 < x4 then K σ else e_wr σ 22 x3 5 x4 (fun σ10 => e_cI (m_X6_seatIn 15 x1 σ10) (fun r12 σ11 => (if x2 < r12 then H x3 (x4 + 1) σ11 else e_gd (k_in x3 5) (some (x4 - (σ11 8 (Int32.toNatClampNeg x3)), σ11))))))
theorem od_X6_sewn_69 {G : KW} {l : Launch} (x1 : Int32) (x2 : Int32)  {K : Sg → Option (Int32 × Sg)} {H : Int32 → Int32 → Sg → Option (Int32 × Sg)} (hK : ∀  (σ : Sg), Okk G l cX6_sewn 5 RX6 (some .int) (rmo 4 88) ccI 119 [none, none, none, none, none] [] σ (K  σ)) (hH : ∀ (x3 : Int32) (x4 : Int32) (σ : Sg), Okk G l cX6_sewn 5 RX6 (some .int) (rmo 4 88) ccI 69 [some (k_rr G 0), some (.int x1), some (.int x2), some (.int x3), some (.int x4)] [] σ (H x3 x4 σ)) (x3 : Int32) (x4 : Int32)  (σ : Sg) : Okk G l cX6_sewn 5 RX6 (some .int) (rmo 4 88) ccI 69 [some (k_rr G 0), some (.int x1), some (.int x2), some (.int x3), some (.int x4)] [] σ (d_X6_sewn_69 x1 x2 K H x3 x4 σ) := by
  unfold d_X6_sewn_69
  refine ok_iload4 (dq_of td_X6_sewn 36 rfl) ?_
  refine ok_bipush (v := 99) (dq_of td_X6_sewn 37 rfl) (by decide) ?_
  refine ok_ic_gt (tgt := 119) (dq_of td_X6_sewn 38 rfl) (by decide) ?_ ?_
  · refine ok_wk (wk_n (wk_n (wk_n (wk_n (wk_n wk_0))))) ?_
    exact hK _
  · refine ok_aload0 (dq_of td_X6_sewn 39 rfl) ?_
    refine ok_get (v := k_rr G 15) fl_X6_16 (by decide) ko_0 rfl (dq_of td_X6_sewn 40 rfl) ?_
    refine ok_get (v := k_rr G 22) fl_X6_193 (by decide) (isT_kd tw_15) rfl (dq_of td_X6_sewn 41 rfl) ?_
    refine ok_iload3 (dq_of td_X6_sewn 42 rfl) ?_
    refine ok_iload4 (dq_of td_X6_sewn 43 rfl) ?_
    refine ok_iast ka_22 (dq_of td_X6_sewn 44 rfl) (fun σ10 => ?_)
    refine ok_aload0 (dq_of td_X6_sewn 45 rfl) ?_
    refine ok_aload0 (dq_of td_X6_sewn 46 rfl) ?_
    refine ok_get (v := k_rr G 15) fl_X6_16 (by decide) ko_0 rfl (dq_of td_X6_sewn 47 rfl) ?_
    refine ok_iload1 (dq_of td_X6_sewn 48 rfl) ?_
    refine call_X6_seatIn ml_X6_189 tw_15 ⟨Nat.le_of_ble_eq_true rfl, Nat.le_of_ble_eq_true rfl⟩ ⟨Nat.zero_le _, Nat.zero_le _⟩ (Nat.le_of_ble_eq_true rfl) (dq_of td_X6_sewn 49 rfl) (fun r12 σ11 => ?_)
    refine ok_iload2 (dq_of td_X6_sewn 50 rfl) ?_
    refine ok_ic_gt (tgt := 113) (dq_of td_X6_sewn 51 rfl) (by decide) ?_ ?_
    · refine ok_jinc4 (w := 1) (dq_of td_X6_sewn 60 rfl) (by decide) rfl (by decide) ?_
      refine ok_goto (tgt := 69) (dq_of td_X6_sewn 61 rfl) (by decide) ?_
      refine ok_wk (wk_s (wk_s (wk_s (wk_s (wk_s wk_0))))) ?_
      exact hH _ _ _
    · refine ok_iload4 (dq_of td_X6_sewn 52 rfl) ?_
      refine ok_aload0 (dq_of td_X6_sewn 53 rfl) ?_
      refine ok_get (v := k_rr G 1) fl_X6_10 (by decide) ko_0 rfl (dq_of td_X6_sewn 54 rfl) ?_
      refine ok_get (v := k_rr G 8) fl_X6_193 (by decide) (isT_kd tw_1) rfl (dq_of td_X6_sewn 55 rfl) ?_
      refine ok_iload3 (dq_of td_X6_sewn 56 rfl) ?_
      refine ok_iald ka_8 (dq_of td_X6_sewn 57 rfl) ?_
      refine ok_isub (dq_of td_X6_sewn 58 rfl) ?_
      exact ok_iret (dq_of td_X6_sewn 59 rfl)
theorem ld_X6_sewn_69 {G : KW} {l : Launch} (x1 : Int32) (x2 : Int32)  {K : Sg → Option (Int32 × Sg)} (hK : ∀  (σ : Sg), Okk G l cX6_sewn 5 RX6 (some .int) (rmo 4 88) ccI 119 [none, none, none, none, none] [] σ (K  σ)) (n : Nat) (x3 : Int32) (x4 : Int32) (σ : Sg) : Okk G l cX6_sewn 5 RX6 (some .int) (rmo 4 88) ccI 69 [some (k_rr G 0), some (.int x1), some (.int x2), some (.int x3), some (.int x4)] [] σ (e_lp2 (d_X6_sewn_69 x1 x2 K) n x3 x4 σ) :=
  ok_lp2 (Lf := fun (x3 : Int32) (x4 : Int32) => [some (k_rr G 0), some (.int x1), some (.int x2), some (.int x3), some (.int x4)]) (fun _ hH x3 x4 σ => od_X6_sewn_69 _ _  hK hH x3 x4 σ) n x3 x4 σ
def m_X6_sewn (x1 : Int32) (x2 : Int32) (σ : Sg) : Option (Int32 × Sg) := e_cI (m_X4_hasPerson 1 x1 σ) (fun r2 σ1 => (if r2 = 0 then some ((-1), σ1) else e_cI (m_X6_isSeat x2 σ1) (fun r4 σ3 => (if r4 = 0 then some ((-2), σ3) else e_gd (k_in x1 5) (e_lt (σ3 2 (Int32.toNatClampNeg x1)) (fun v5 => e_cI (m_X4_hasCoat 1 v5 σ3) (fun r7 σ6 => (if r7 = 0 then some ((-6), σ6) else e_cV (m_X4_become 15 1 σ6) (fun σ8 => e_gd (k_in v5 5) (e_lt (σ8 8 (Int32.toNatClampNeg v5)) (fun v9 => e_lp2 (d_X6_sewn_69 x1 x2 (fun σ13 => some ((-6), σ13))) e_F v5 v9 σ8)))))))))))
theorem om_X6_sewn {G : KW} {l : Launch} (x1 : Int32) (x2 : Int32)  (σ : Sg) : Okk G l cX6_sewn 5 RX6 (some .int) (rmo 4 88) ccI 0 [some (k_rr G 0), some (.int x1), some (.int x2), none, none] [] σ (m_X6_sewn x1 x2 σ) := by
  unfold m_X6_sewn
  refine ok_aload0 (dq_of td_X6_sewn 0 rfl) ?_
  refine ok_get (v := k_rr G 1) fl_X6_10 (by decide) ko_0 rfl (dq_of td_X6_sewn 1 rfl) ?_
  refine ok_iload1 (dq_of td_X6_sewn 2 rfl) ?_
  refine call_X4_hasPerson ml_X6_70 tw_1 ⟨Nat.le_of_ble_eq_true rfl, Nat.le_of_ble_eq_true rfl⟩ ⟨Nat.zero_le _, Nat.zero_le _⟩ (Nat.le_of_ble_eq_true rfl) (dq_of td_X6_sewn 3 rfl) (fun r2 σ1 => ?_)
  refine ok_if_ne (tgt := 13) (dq_of td_X6_sewn 4 rfl) (by decide) ?_ ?_
  · refine ok_iload2 (dq_of td_X6_sewn 7 rfl) ?_
    refine call_X6_isSeat ml_X6_165  ⟨Nat.le_of_ble_eq_true rfl, Nat.le_of_ble_eq_true rfl⟩ ⟨Nat.zero_le _, Nat.zero_le _⟩ (Nat.le_of_ble_eq_true rfl) (dq_of td_X6_sewn 8 rfl) (fun r4 σ3 => ?_)
    refine ok_if_ne (tgt := 23) (dq_of td_X6_sewn 9 rfl) (by decide) ?_ ?_
    · refine ok_aload0 (dq_of td_X6_sewn 12 rfl) ?_
      refine ok_get (v := k_rr G 1) fl_X6_10 (by decide) ko_0 rfl (dq_of td_X6_sewn 13 rfl) ?_
      refine ok_get (v := k_rr G 2) fl_X6_186 (by decide) (isT_kd tw_1) rfl (dq_of td_X6_sewn 14 rfl) ?_
      refine ok_iload1 (dq_of td_X6_sewn 15 rfl) ?_
      refine ok_iald ka_2 (dq_of td_X6_sewn 16 rfl) ?_
      refine ok_gI (fun v5 => ?_)
      refine ok_istore3 (dq_of td_X6_sewn 17 rfl) rfl (by decide) ?_
      refine ok_aload0 (dq_of td_X6_sewn 18 rfl) ?_
      refine ok_get (v := k_rr G 1) fl_X6_10 (by decide) ko_0 rfl (dq_of td_X6_sewn 19 rfl) ?_
      refine ok_iload3 (dq_of td_X6_sewn 20 rfl) ?_
      refine call_X4_hasCoat ml_X6_98 tw_1 ⟨Nat.le_of_ble_eq_true rfl, Nat.le_of_ble_eq_true rfl⟩ ⟨Nat.zero_le _, Nat.zero_le _⟩ (Nat.le_of_ble_eq_true rfl) (dq_of td_X6_sewn 21 rfl) (fun r7 σ6 => ?_)
      refine ok_if_ne (tgt := 47) (dq_of td_X6_sewn 22 rfl) (by decide) ?_ ?_
      · refine ok_aload0 (dq_of td_X6_sewn 25 rfl) ?_
        refine ok_get (v := k_rr G 15) fl_X6_16 (by decide) ko_0 rfl (dq_of td_X6_sewn 26 rfl) ?_
        refine ok_aload0 (dq_of td_X6_sewn 27 rfl) ?_
        refine ok_get (v := k_rr G 1) fl_X6_10 (by decide) ko_0 rfl (dq_of td_X6_sewn 28 rfl) ?_
        refine call_X4_become ml_X6_147 tw_15 tw_1 ⟨Nat.le_of_ble_eq_true rfl, Nat.le_of_ble_eq_true rfl⟩ ⟨Nat.zero_le _, Nat.zero_le _⟩ (Nat.le_of_ble_eq_true rfl) (dq_of td_X6_sewn 29 rfl) (fun σ8 => ?_)
        refine ok_aload0 (dq_of td_X6_sewn 30 rfl) ?_
        refine ok_get (v := k_rr G 1) fl_X6_10 (by decide) ko_0 rfl (dq_of td_X6_sewn 31 rfl) ?_
        refine ok_get (v := k_rr G 8) fl_X6_193 (by decide) (isT_kd tw_1) rfl (dq_of td_X6_sewn 32 rfl) ?_
        refine ok_iload3 (dq_of td_X6_sewn 33 rfl) ?_
        refine ok_iald ka_8 (dq_of td_X6_sewn 34 rfl) ?_
        refine ok_gI (fun v9 => ?_)
        refine ok_istore4 (dq_of td_X6_sewn 35 rfl) rfl (by decide) ?_
        refine ok_wk (wk_s (wk_s (wk_s (wk_s (wk_s wk_0))))) ?_
        refine ld_X6_sewn_69 _ _  (fun σ13 => ?_) _ _ _ _
        refine ok_bipush (v := (-6)) (dq_of td_X6_sewn 62 rfl) (by decide) ?_
        exact ok_iret (dq_of td_X6_sewn 63 rfl)
      · refine ok_bipush (v := (-6)) (dq_of td_X6_sewn 23 rfl) (by decide) ?_
        exact ok_iret (dq_of td_X6_sewn 24 rfl)
    · refine ok_bipush (v := (-2)) (dq_of td_X6_sewn 10 rfl) (by decide) ?_
      exact ok_iret (dq_of td_X6_sewn 11 rfl)
  · refine ok_iconst (v := (-1)) (dq_of td_X6_sewn 5 rfl) (by decide) ?_
    exact ok_iret (dq_of td_X6_sewn 6 rfl)
theorem ct_X6_sewn {G : KW} {l : Launch} (x1 : Int32) (x2 : Int32)  (σ : Sg) : ∀ b, m_X6_sewn x1 x2 σ = some b → MetF G l yX6_sewn cX6_sewn 5 (some .int) 4 88 [k_rr G 0, .int x1, .int x2] (k_wl G σ) (ccI b).1 (k_wl G (ccI b).2) :=
  met_of (by decide) (Nat.le_of_ble_eq_true rfl) rfl (om_X6_sewn _ _  σ)
theorem call_X6_sewn {G : KW} {l : Launch} {cc : ByteArray} {nL : Nat} {own : String} {rt : Option FieldType} {R : Room} {α : Type} {X : State → Array Value → Method → Prop} {Z : α → List Frame → Array Value → State → State → Prop} {k0 n0 pc index : Nat} {L : List (Option Value)} {S : List Value} {σ : Sg} {F : Int32 → Sg → Option α} {x1 : Int32} {x2 : Int32} (lk : MLk own index yX6_sewn)  (hR : R.frames ≥ 4 + 1 ∧ R.locals ≥ 8 + (5 + 11) + 88) (hcs : k0 ≤ R.cells ∧ n0 ≤ R.slots) (hro : (S.map fun v => v.category).sum ≤ 8) (d : decode cc pc = .ok (.invokevirtual index, 3)) (kk : ∀ (r : Int32) (σ' : Sg), Okg G l cc nL own rt R X Z k0 n0 (pc + 3) L (.int r :: S) σ' (F r σ')) : Okg G l cc nL own rt R X Z k0 n0 pc L (.int x2 :: .int x1 :: k_rr G 0 :: S) σ (e_cI (m_X6_sewn x1 x2 σ) F) :=
  ok_cV (cb := ccI) (As := [.int x1, .int x2]) (ct_X6_sewn _ _  σ) mo_X6_sewn hi_X6_sewn lk rfl (ci := 6) rfl rfl (by decide) ko_0 hR rfl hcs hro d (fun b => kk b.1 b.2)
/-! CoatDinner.hired(III)I -/
def b_X6_hired_139 (x1 : Int32) (x2 : Int32) (x3 : Int32) (K : Int32 → Int32 → Sg → Option (Int32 × Sg)) (H : Int32 → Int32 → Int32 → Sg → Option (Int32 × Sg)) (x6 : Int32) (x7 : Int32) (σ : Sg) : Option (Int32 × Sg) := H x6 x7 (x6 + 1) σ
def b_X6_hired_110 (x1 : Int32) (x2 : Int32) (x3 : Int32) (K : Int32 → Int32 → Sg → Option (Int32 × Sg)) (H : Int32 → Int32 → Int32 → Sg → Option (Int32 × Sg)) (x4 : Int32) (x5 : Int32) (x6 : Int32) (s0 : Int32) (σ : Sg) : Option (Int32 × Sg) := e_cI (m_X6_seatIn 15 x1 σ) (fun r12 σ11 => (if x2 < r12 then H x4 x5 (x6 + 1) σ11 else (if x4 = ((-6)) then b_X6_hired_139 x1 x2 x3 K H x6 s0 σ11 else (if x5 ≤ s0 then H x4 x5 (x6 + 1) σ11 else b_X6_hired_139 x1 x2 x3 K H x6 s0 σ11))))
def d_X6_hired_52 (x1 : Int32) (x2 : Int32) (x3 : Int32) (K : Int32 → Int32 → Sg → Option (Int32 × Sg)) (H : Int32 → Int32 → Int32 → Sg → Option (Int32 × Sg)) (x4 : Int32) (x5 : Int32) (x6 : Int32) (σ : Sg) : Option (Int32 × Sg) := (if 5 ≤ x6 then K x4 x5 σ else e_cI (m_X4_canHire 1 x1 x6 σ) (fun r9 σ8 => (if r9 = 0 then H x4 x5 (x6 + 1) σ8 else e_wr σ8 16 x1 5 x6 (fun σ10 => e_gd (k_in x6 5) ((if (σ10 9 (Int32.toNatClampNeg x6)) = x1 then b_X6_hired_110 x1 x2 x3 K H x4 x5 x6 0 σ10 else e_gd (k_in x6 5) (b_X6_hired_110 x1 x2 x3 K H x4 x5 x6 (σ10 10 (Int32.toNatClampNeg x6)) σ10)))))))
def b_X6_hired_165 (x1 : Int32) (x2 : Int32) (x3 : Int32) (x4 : Int32) (σ : Sg) : Option (Int32 × Sg) := some (x4, σ)
theorem ob_X6_hired_139 {G : KW} {l : Launch} (x1 : Int32) (x2 : Int32) (x3 : Int32)  {K : Int32 → Int32 → Sg → Option (Int32 × Sg)} {H : Int32 → Int32 → Int32 → Sg → Option (Int32 × Sg)} (hK : ∀ (x4 : Int32) (x5 : Int32) (σ : Sg), Okk G l cX6_hired 8 RX6 (some .int) (rmo 4 88) ccI 153 [none, none, none, some (.int x3), some (.int x4), some (.int x5), none, none] [] σ (K x4 x5 σ)) (hH : ∀ (x4 : Int32) (x5 : Int32) (x6 : Int32) (σ : Sg), Okk G l cX6_hired 8 RX6 (some .int) (rmo 4 88) ccI 52 [some (k_rr G 0), some (.int x1), some (.int x2), some (.int x3), some (.int x4), some (.int x5), some (.int x6), none] [] σ (H x4 x5 x6 σ)) (x6 : Int32) (x7 : Int32)  (σ : Sg) : Okk G l cX6_hired 8 RX6 (some .int) (rmo 4 88) ccI 139 [some (k_rr G 0), some (.int x1), some (.int x2), some (.int x3), none, none, some (.int x6), some (.int x7)] [] σ (b_X6_hired_139 x1 x2 x3 K H x6 x7 σ) := by
  unfold b_X6_hired_139
  refine ok_iload6 (dq_of td_X6_hired 70 rfl) ?_
  refine ok_istore4 (dq_of td_X6_hired 71 rfl) rfl (by decide) ?_
  refine ok_iload7 (dq_of td_X6_hired 72 rfl) ?_
  refine ok_istore5 (dq_of td_X6_hired 73 rfl) rfl (by decide) ?_
  refine ok_jinc6 (w := 1) (dq_of td_X6_hired 74 rfl) (by decide) rfl (by decide) ?_
  refine ok_goto (tgt := 52) (dq_of td_X6_hired 75 rfl) (by decide) ?_
  refine ok_wk (wk_s (wk_s (wk_s (wk_s (wk_s (wk_s (wk_s (wk_n wk_0)))))))) ?_
  exact hH _ _ _ _
theorem ob_X6_hired_110 {G : KW} {l : Launch} (x1 : Int32) (x2 : Int32) (x3 : Int32)  {K : Int32 → Int32 → Sg → Option (Int32 × Sg)} {H : Int32 → Int32 → Int32 → Sg → Option (Int32 × Sg)} (hK : ∀ (x4 : Int32) (x5 : Int32) (σ : Sg), Okk G l cX6_hired 8 RX6 (some .int) (rmo 4 88) ccI 153 [none, none, none, some (.int x3), some (.int x4), some (.int x5), none, none] [] σ (K x4 x5 σ)) (hH : ∀ (x4 : Int32) (x5 : Int32) (x6 : Int32) (σ : Sg), Okk G l cX6_hired 8 RX6 (some .int) (rmo 4 88) ccI 52 [some (k_rr G 0), some (.int x1), some (.int x2), some (.int x3), some (.int x4), some (.int x5), some (.int x6), none] [] σ (H x4 x5 x6 σ)) (x4 : Int32) (x5 : Int32) (x6 : Int32) (s0 : Int32)  (σ : Sg) : Okk G l cX6_hired 8 RX6 (some .int) (rmo 4 88) ccI 110 [some (k_rr G 0), some (.int x1), some (.int x2), some (.int x3), some (.int x4), some (.int x5), some (.int x6), none] [.int s0] σ (b_X6_hired_110 x1 x2 x3 K H x4 x5 x6 s0 σ) := by
  unfold b_X6_hired_110
  refine ok_istore7 (dq_of td_X6_hired 56 rfl) rfl (by decide) ?_
  refine ok_aload0 (dq_of td_X6_hired 57 rfl) ?_
  refine ok_aload0 (dq_of td_X6_hired 58 rfl) ?_
  refine ok_get (v := k_rr G 15) fl_X6_16 (by decide) ko_0 rfl (dq_of td_X6_hired 59 rfl) ?_
  refine ok_iload1 (dq_of td_X6_hired 60 rfl) ?_
  refine call_X6_seatIn ml_X6_189 tw_15 ⟨Nat.le_of_ble_eq_true rfl, Nat.le_of_ble_eq_true rfl⟩ ⟨Nat.zero_le _, Nat.zero_le _⟩ (Nat.le_of_ble_eq_true rfl) (dq_of td_X6_hired 61 rfl) (fun r12 σ11 => ?_)
  refine ok_iload2 (dq_of td_X6_hired 62 rfl) ?_
  refine ok_ic_gt (tgt := 147) (dq_of td_X6_hired 63 rfl) (by decide) ?_ ?_
  · refine ok_jinc6 (w := 1) (dq_of td_X6_hired 74 rfl) (by decide) rfl (by decide) ?_
    refine ok_goto (tgt := 52) (dq_of td_X6_hired 75 rfl) (by decide) ?_
    refine ok_wk (wk_s (wk_s (wk_s (wk_s (wk_s (wk_s (wk_s (wk_n wk_0)))))))) ?_
    exact hH _ _ _ _
  · refine ok_iload4 (dq_of td_X6_hired 64 rfl) ?_
    refine ok_bipush (v := (-6)) (dq_of td_X6_hired 65 rfl) (by decide) ?_
    refine ok_ic_eq (tgt := 139) (dq_of td_X6_hired 66 rfl) (by decide) ?_ ?_
    · refine ok_wk (wk_s (wk_s (wk_s (wk_s (wk_n (wk_n (wk_s (wk_s wk_0)))))))) ?_
      exact ob_X6_hired_139 _ _ _  hK hH _ _  _
    · refine ok_iload7 (dq_of td_X6_hired 67 rfl) ?_
      refine ok_iload5 (dq_of td_X6_hired 68 rfl) ?_
      refine ok_ic_ge (tgt := 147) (dq_of td_X6_hired 69 rfl) (by decide) ?_ ?_
      · refine ok_jinc6 (w := 1) (dq_of td_X6_hired 74 rfl) (by decide) rfl (by decide) ?_
        refine ok_goto (tgt := 52) (dq_of td_X6_hired 75 rfl) (by decide) ?_
        refine ok_wk (wk_s (wk_s (wk_s (wk_s (wk_s (wk_s (wk_s (wk_n wk_0)))))))) ?_
        exact hH _ _ _ _
      · refine ok_wk (wk_s (wk_s (wk_s (wk_s (wk_n (wk_n (wk_s (wk_s wk_0)))))))) ?_
        exact ob_X6_hired_139 _ _ _  hK hH _ _  _
theorem od_X6_hired_52 {G : KW} {l : Launch} (x1 : Int32) (x2 : Int32) (x3 : Int32)  {K : Int32 → Int32 → Sg → Option (Int32 × Sg)} {H : Int32 → Int32 → Int32 → Sg → Option (Int32 × Sg)} (hK : ∀ (x4 : Int32) (x5 : Int32) (σ : Sg), Okk G l cX6_hired 8 RX6 (some .int) (rmo 4 88) ccI 153 [none, none, none, some (.int x3), some (.int x4), some (.int x5), none, none] [] σ (K x4 x5 σ)) (hH : ∀ (x4 : Int32) (x5 : Int32) (x6 : Int32) (σ : Sg), Okk G l cX6_hired 8 RX6 (some .int) (rmo 4 88) ccI 52 [some (k_rr G 0), some (.int x1), some (.int x2), some (.int x3), some (.int x4), some (.int x5), some (.int x6), none] [] σ (H x4 x5 x6 σ)) (x4 : Int32) (x5 : Int32) (x6 : Int32)  (σ : Sg) : Okk G l cX6_hired 8 RX6 (some .int) (rmo 4 88) ccI 52 [some (k_rr G 0), some (.int x1), some (.int x2), some (.int x3), some (.int x4), some (.int x5), some (.int x6), none] [] σ (d_X6_hired_52 x1 x2 x3 K H x4 x5 x6 σ) := by
  unfold d_X6_hired_52
  refine ok_iload6 (dq_of td_X6_hired 27 rfl) ?_
  refine ok_iconst (v := 5) (dq_of td_X6_hired 28 rfl) (by decide) ?_
  refine ok_ic_ge (tgt := 153) (dq_of td_X6_hired 29 rfl) (by decide) ?_ ?_
  · refine ok_wk (wk_n (wk_n (wk_n (wk_s (wk_s (wk_s (wk_n (wk_n wk_0)))))))) ?_
    exact hK _ _ _
  · refine ok_aload0 (dq_of td_X6_hired 30 rfl) ?_
    refine ok_get (v := k_rr G 1) fl_X6_10 (by decide) ko_0 rfl (dq_of td_X6_hired 31 rfl) ?_
    refine ok_iload1 (dq_of td_X6_hired 32 rfl) ?_
    refine ok_iload6 (dq_of td_X6_hired 33 rfl) ?_
    refine call_X4_canHire ml_X6_196 tw_1 ⟨Nat.le_of_ble_eq_true rfl, Nat.le_of_ble_eq_true rfl⟩ ⟨Nat.zero_le _, Nat.zero_le _⟩ (Nat.le_of_ble_eq_true rfl) (dq_of td_X6_hired 34 rfl) (fun r9 σ8 => ?_)
    refine ok_if_eq (tgt := 147) (dq_of td_X6_hired 35 rfl) (by decide) ?_ ?_
    · refine ok_jinc6 (w := 1) (dq_of td_X6_hired 74 rfl) (by decide) rfl (by decide) ?_
      refine ok_goto (tgt := 52) (dq_of td_X6_hired 75 rfl) (by decide) ?_
      refine ok_wk (wk_s (wk_s (wk_s (wk_s (wk_s (wk_s (wk_s (wk_n wk_0)))))))) ?_
      exact hH _ _ _ _
    · refine ok_aload0 (dq_of td_X6_hired 36 rfl) ?_
      refine ok_get (v := k_rr G 15) fl_X6_16 (by decide) ko_0 rfl (dq_of td_X6_hired 37 rfl) ?_
      refine ok_get (v := k_rr G 16) fl_X6_186 (by decide) (isT_kd tw_15) rfl (dq_of td_X6_hired 38 rfl) ?_
      refine ok_iload1 (dq_of td_X6_hired 39 rfl) ?_
      refine ok_iload6 (dq_of td_X6_hired 40 rfl) ?_
      refine ok_iast ka_16 (dq_of td_X6_hired 41 rfl) (fun σ10 => ?_)
      refine ok_aload0 (dq_of td_X6_hired 42 rfl) ?_
      refine ok_get (v := k_rr G 1) fl_X6_10 (by decide) ko_0 rfl (dq_of td_X6_hired 43 rfl) ?_
      refine ok_get (v := k_rr G 9) fl_X6_199 (by decide) (isT_kd tw_1) rfl (dq_of td_X6_hired 44 rfl) ?_
      refine ok_iload6 (dq_of td_X6_hired 45 rfl) ?_
      refine ok_iald ka_9 (dq_of td_X6_hired 46 rfl) ?_
      refine ok_iload1 (dq_of td_X6_hired 47 rfl) ?_
      refine ok_ic_ne (tgt := 100) (dq_of td_X6_hired 48 rfl) (by decide) ?_ ?_
      · refine ok_aload0 (dq_of td_X6_hired 51 rfl) ?_
        refine ok_get (v := k_rr G 1) fl_X6_10 (by decide) ko_0 rfl (dq_of td_X6_hired 52 rfl) ?_
        refine ok_get (v := k_rr G 10) fl_X6_202 (by decide) (isT_kd tw_1) rfl (dq_of td_X6_hired 53 rfl) ?_
        refine ok_iload6 (dq_of td_X6_hired 54 rfl) ?_
        refine ok_iald ka_10 (dq_of td_X6_hired 55 rfl) ?_
        refine ok_wk (wk_s (wk_s (wk_s (wk_s (wk_s (wk_s (wk_s (wk_n wk_0)))))))) ?_
        exact ob_X6_hired_110 _ _ _  hK hH _ _ _ _  _
      · refine ok_iconst (v := 0) (dq_of td_X6_hired 49 rfl) (by decide) ?_
        refine ok_goto (tgt := 110) (dq_of td_X6_hired 50 rfl) (by decide) ?_
        refine ok_wk (wk_s (wk_s (wk_s (wk_s (wk_s (wk_s (wk_s (wk_n wk_0)))))))) ?_
        exact ob_X6_hired_110 _ _ _  hK hH _ _ _ _  _
theorem ld_X6_hired_52 {G : KW} {l : Launch} (x1 : Int32) (x2 : Int32) (x3 : Int32)  {K : Int32 → Int32 → Sg → Option (Int32 × Sg)} (hK : ∀ (x4 : Int32) (x5 : Int32) (σ : Sg), Okk G l cX6_hired 8 RX6 (some .int) (rmo 4 88) ccI 153 [none, none, none, some (.int x3), some (.int x4), some (.int x5), none, none] [] σ (K x4 x5 σ)) (n : Nat) (x4 : Int32) (x5 : Int32) (x6 : Int32) (σ : Sg) : Okk G l cX6_hired 8 RX6 (some .int) (rmo 4 88) ccI 52 [some (k_rr G 0), some (.int x1), some (.int x2), some (.int x3), some (.int x4), some (.int x5), some (.int x6), none] [] σ (e_lp3 (d_X6_hired_52 x1 x2 x3 K) n x4 x5 x6 σ) :=
  ok_lp3 (Lf := fun (x4 : Int32) (x5 : Int32) (x6 : Int32) => [some (k_rr G 0), some (.int x1), some (.int x2), some (.int x3), some (.int x4), some (.int x5), some (.int x6), none]) (fun _ hH x4 x5 x6 σ => od_X6_hired_52 _ _ _  hK hH x4 x5 x6 σ) n x4 x5 x6 σ
theorem ob_X6_hired_165 {G : KW} {l : Launch} (x1 : Int32) (x2 : Int32) (x3 : Int32)  (x4 : Int32)  (σ : Sg) : Okk G l cX6_hired 8 RX6 (some .int) (rmo 4 88) ccI 165 [none, none, none, none, some (.int x4), none, none, none] [] σ (b_X6_hired_165 x1 x2 x3 x4 σ) := by
  unfold b_X6_hired_165
  refine ok_iload4 (dq_of td_X6_hired 82 rfl) ?_
  refine ok_goto (tgt := 172) (dq_of td_X6_hired 83 rfl) (by decide) ?_
  exact ok_iret (dq_of td_X6_hired 85 rfl)
def m_X6_hired (x1 : Int32) (x2 : Int32) (x3 : Int32) (σ : Sg) : Option (Int32 × Sg) := e_cI (m_X4_hasPerson 1 x1 σ) (fun r2 σ1 => (if r2 = 0 then some ((-1), σ1) else e_cI (m_X6_isSeat x2 σ1) (fun r4 σ3 => (if r4 = 0 then some ((-2), σ3) else e_cI (m_X6_within x3 1 σ3) (fun r6 σ5 => (if r6 = 0 then some ((-2), σ5) else e_cV (m_X4_become 15 1 σ5) (fun σ7 => e_lp3 (d_X6_hired_52 x1 x2 x3 (fun x4q13 x5q13 σ13 => (if x4q13 = ((-6)) then b_X6_hired_165 x1 x2 x3 x4q13 σ13 else (if x3 = 1 then b_X6_hired_165 x1 x2 x3 x4q13 σ13 else some (x5q13, σ13))))) e_F ((-6)) 0 0 σ7)))))))
theorem om_X6_hired {G : KW} {l : Launch} (x1 : Int32) (x2 : Int32) (x3 : Int32)  (σ : Sg) : Okk G l cX6_hired 8 RX6 (some .int) (rmo 4 88) ccI 0 [some (k_rr G 0), some (.int x1), some (.int x2), some (.int x3), none, none, none, none] [] σ (m_X6_hired x1 x2 x3 σ) := by
  unfold m_X6_hired
  refine ok_aload0 (dq_of td_X6_hired 0 rfl) ?_
  refine ok_get (v := k_rr G 1) fl_X6_10 (by decide) ko_0 rfl (dq_of td_X6_hired 1 rfl) ?_
  refine ok_iload1 (dq_of td_X6_hired 2 rfl) ?_
  refine call_X4_hasPerson ml_X6_70 tw_1 ⟨Nat.le_of_ble_eq_true rfl, Nat.le_of_ble_eq_true rfl⟩ ⟨Nat.zero_le _, Nat.zero_le _⟩ (Nat.le_of_ble_eq_true rfl) (dq_of td_X6_hired 3 rfl) (fun r2 σ1 => ?_)
  refine ok_if_ne (tgt := 13) (dq_of td_X6_hired 4 rfl) (by decide) ?_ ?_
  · refine ok_iload2 (dq_of td_X6_hired 7 rfl) ?_
    refine call_X6_isSeat ml_X6_165  ⟨Nat.le_of_ble_eq_true rfl, Nat.le_of_ble_eq_true rfl⟩ ⟨Nat.zero_le _, Nat.zero_le _⟩ (Nat.le_of_ble_eq_true rfl) (dq_of td_X6_hired 8 rfl) (fun r4 σ3 => ?_)
    refine ok_if_eq (tgt := 28) (dq_of td_X6_hired 9 rfl) (by decide) ?_ ?_
    · refine ok_bipush (v := (-2)) (dq_of td_X6_hired 14 rfl) (by decide) ?_
      exact ok_iret (dq_of td_X6_hired 15 rfl)
    · refine ok_iload3 (dq_of td_X6_hired 10 rfl) ?_
      refine ok_iconst (v := 1) (dq_of td_X6_hired 11 rfl) (by decide) ?_
      refine call_X6_within ml_X6_66  ⟨Nat.le_of_ble_eq_true rfl, Nat.le_of_ble_eq_true rfl⟩ ⟨Nat.zero_le _, Nat.zero_le _⟩ (Nat.le_of_ble_eq_true rfl) (dq_of td_X6_hired 12 rfl) (fun r6 σ5 => ?_)
      refine ok_if_ne (tgt := 31) (dq_of td_X6_hired 13 rfl) (by decide) ?_ ?_
      · refine ok_bipush (v := (-6)) (dq_of td_X6_hired 16 rfl) (by decide) ?_
        refine ok_istore4 (dq_of td_X6_hired 17 rfl) rfl (by decide) ?_
        refine ok_iconst (v := 0) (dq_of td_X6_hired 18 rfl) (by decide) ?_
        refine ok_istore5 (dq_of td_X6_hired 19 rfl) rfl (by decide) ?_
        refine ok_aload0 (dq_of td_X6_hired 20 rfl) ?_
        refine ok_get (v := k_rr G 15) fl_X6_16 (by decide) ko_0 rfl (dq_of td_X6_hired 21 rfl) ?_
        refine ok_aload0 (dq_of td_X6_hired 22 rfl) ?_
        refine ok_get (v := k_rr G 1) fl_X6_10 (by decide) ko_0 rfl (dq_of td_X6_hired 23 rfl) ?_
        refine call_X4_become ml_X6_147 tw_15 tw_1 ⟨Nat.le_of_ble_eq_true rfl, Nat.le_of_ble_eq_true rfl⟩ ⟨Nat.zero_le _, Nat.zero_le _⟩ (Nat.le_of_ble_eq_true rfl) (dq_of td_X6_hired 24 rfl) (fun σ7 => ?_)
        refine ok_iconst (v := 0) (dq_of td_X6_hired 25 rfl) (by decide) ?_
        refine ok_istore6 (dq_of td_X6_hired 26 rfl) rfl (by decide) ?_
        refine ok_wk (wk_s (wk_s (wk_s (wk_s (wk_s (wk_s (wk_s (wk_n wk_0)))))))) ?_
        refine ld_X6_hired_52 _ _ _  (fun x4q13 x5q13 σ13 => ?_) _ _ _ _ _
        refine ok_iload4 (dq_of td_X6_hired 76 rfl) ?_
        refine ok_bipush (v := (-6)) (dq_of td_X6_hired 77 rfl) (by decide) ?_
        refine ok_ic_eq (tgt := 165) (dq_of td_X6_hired 78 rfl) (by decide) ?_ ?_
        · refine ok_wk (wk_n (wk_n (wk_n (wk_n (wk_s (wk_n (wk_n (wk_n wk_0)))))))) ?_
          exact ob_X6_hired_165 _ _ _  _  _
        · refine ok_iload3 (dq_of td_X6_hired 79 rfl) ?_
          refine ok_iconst (v := 1) (dq_of td_X6_hired 80 rfl) (by decide) ?_
          refine ok_ic_ne (tgt := 170) (dq_of td_X6_hired 81 rfl) (by decide) ?_ ?_
          · refine ok_iload5 (dq_of td_X6_hired 84 rfl) ?_
            exact ok_iret (dq_of td_X6_hired 85 rfl)
          · refine ok_wk (wk_n (wk_n (wk_n (wk_n (wk_s (wk_n (wk_n (wk_n wk_0)))))))) ?_
            exact ob_X6_hired_165 _ _ _  _  _
      · refine ok_bipush (v := (-2)) (dq_of td_X6_hired 14 rfl) (by decide) ?_
        exact ok_iret (dq_of td_X6_hired 15 rfl)
  · refine ok_iconst (v := (-1)) (dq_of td_X6_hired 5 rfl) (by decide) ?_
    exact ok_iret (dq_of td_X6_hired 6 rfl)
theorem ct_X6_hired {G : KW} {l : Launch} (x1 : Int32) (x2 : Int32) (x3 : Int32)  (σ : Sg) : ∀ b, m_X6_hired x1 x2 x3 σ = some b → MetF G l yX6_hired cX6_hired 8 (some .int) 4 88 [k_rr G 0, .int x1, .int x2, .int x3] (k_wl G σ) (ccI b).1 (k_wl G (ccI b).2) :=
  met_of (by decide) (Nat.le_of_ble_eq_true rfl) rfl (om_X6_hired _ _ _  σ)
theorem call_X6_hired {G : KW} {l : Launch} {cc : ByteArray} {nL : Nat} {own : String} {rt : Option FieldType} {R : Room} {α : Type} {X : State → Array Value → Method → Prop} {Z : α → List Frame → Array Value → State → State → Prop} {k0 n0 pc index : Nat} {L : List (Option Value)} {S : List Value} {σ : Sg} {F : Int32 → Sg → Option α} {x1 : Int32} {x2 : Int32} {x3 : Int32} (lk : MLk own index yX6_hired)  (hR : R.frames ≥ 4 + 1 ∧ R.locals ≥ 8 + (8 + 11) + 88) (hcs : k0 ≤ R.cells ∧ n0 ≤ R.slots) (hro : (S.map fun v => v.category).sum ≤ 8) (d : decode cc pc = .ok (.invokevirtual index, 3)) (kk : ∀ (r : Int32) (σ' : Sg), Okg G l cc nL own rt R X Z k0 n0 (pc + 3) L (.int r :: S) σ' (F r σ')) : Okg G l cc nL own rt R X Z k0 n0 pc L (.int x3 :: .int x2 :: .int x1 :: k_rr G 0 :: S) σ (e_cI (m_X6_hired x1 x2 x3 σ) F) :=
  ok_cV (cb := ccI) (As := [.int x1, .int x2, .int x3]) (ct_X6_hired _ _ _  σ) mo_X6_hired hi_X6_hired lk rfl (ci := 6) rfl rfl (by decide) ko_0 hR rfl hcs hro d (fun b => kk b.1 b.2)
/-! CoatDinner.rises(I)I -/
def d_X6_rises_33 (x1 : Int32) (K : Int32 → Sg → Option (Int32 × Sg)) (H : Int32 → Int32 → Sg → Option (Int32 × Sg)) (x2 : Int32) (x3 : Int32) (σ : Sg) : Option (Int32 × Sg) := (if 5 ≤ x3 then K x2 σ else e_cI (m_X4_hasPerson 1 x3 σ) (fun r6 σ5 => (if r6 = 0 then H x2 (x3 + 1) σ5 else e_cI (m_X6_seatIn 15 x3 σ5) (fun r8 σ7 => e_cI (m_X6_seatIn 1 x3 σ7) (fun r10 σ9 => (if r10 ≤ r8 then H x2 (x3 + 1) σ9 else e_lt (x2 ||| (jsl 1 x3)) (fun v11 => H v11 (x3 + 1) σ9)))))))
theorem od_X6_rises_33 {G : KW} {l : Launch} (x1 : Int32)  {K : Int32 → Sg → Option (Int32 × Sg)} {H : Int32 → Int32 → Sg → Option (Int32 × Sg)} (hK : ∀ (x2 : Int32) (σ : Sg), Okk G l cX6_rises 4 RX6 (some .int) (rmo 4 88) ccI 82 [none, none, some (.int x2), none] [] σ (K x2 σ)) (hH : ∀ (x2 : Int32) (x3 : Int32) (σ : Sg), Okk G l cX6_rises 4 RX6 (some .int) (rmo 4 88) ccI 33 [some (k_rr G 0), none, some (.int x2), some (.int x3)] [] σ (H x2 x3 σ)) (x2 : Int32) (x3 : Int32)  (σ : Sg) : Okk G l cX6_rises 4 RX6 (some .int) (rmo 4 88) ccI 33 [some (k_rr G 0), none, some (.int x2), some (.int x3)] [] σ (d_X6_rises_33 x1 K H x2 x3 σ) := by
  unfold d_X6_rises_33
  refine ok_iload3 (dq_of td_X6_rises 18 rfl) ?_
  refine ok_iconst (v := 5) (dq_of td_X6_rises 19 rfl) (by decide) ?_
  refine ok_ic_ge (tgt := 82) (dq_of td_X6_rises 20 rfl) (by decide) ?_ ?_
  · refine ok_wk (wk_n (wk_n (wk_s (wk_n wk_0)))) ?_
    exact hK _ _
  · refine ok_aload0 (dq_of td_X6_rises 21 rfl) ?_
    refine ok_get (v := k_rr G 1) fl_X6_10 (by decide) ko_0 rfl (dq_of td_X6_rises 22 rfl) ?_
    refine ok_iload3 (dq_of td_X6_rises 23 rfl) ?_
    refine call_X4_hasPerson ml_X6_70 tw_1 ⟨Nat.le_of_ble_eq_true rfl, Nat.le_of_ble_eq_true rfl⟩ ⟨Nat.zero_le _, Nat.zero_le _⟩ (Nat.le_of_ble_eq_true rfl) (dq_of td_X6_rises 24 rfl) (fun r6 σ5 => ?_)
    refine ok_if_eq (tgt := 76) (dq_of td_X6_rises 25 rfl) (by decide) ?_ ?_
    · refine ok_jinc3 (w := 1) (dq_of td_X6_rises 43 rfl) (by decide) rfl (by decide) ?_
      refine ok_goto (tgt := 33) (dq_of td_X6_rises 44 rfl) (by decide) ?_
      refine ok_wk (wk_s (wk_n (wk_s (wk_s wk_0)))) ?_
      exact hH _ _ _
    · refine ok_aload0 (dq_of td_X6_rises 26 rfl) ?_
      refine ok_aload0 (dq_of td_X6_rises 27 rfl) ?_
      refine ok_get (v := k_rr G 15) fl_X6_16 (by decide) ko_0 rfl (dq_of td_X6_rises 28 rfl) ?_
      refine ok_iload3 (dq_of td_X6_rises 29 rfl) ?_
      refine call_X6_seatIn ml_X6_189 tw_15 ⟨Nat.le_of_ble_eq_true rfl, Nat.le_of_ble_eq_true rfl⟩ ⟨Nat.zero_le _, Nat.zero_le _⟩ (Nat.le_of_ble_eq_true rfl) (dq_of td_X6_rises 30 rfl) (fun r8 σ7 => ?_)
      refine ok_aload0 (dq_of td_X6_rises 31 rfl) ?_
      refine ok_aload0 (dq_of td_X6_rises 32 rfl) ?_
      refine ok_get (v := k_rr G 1) fl_X6_10 (by decide) ko_0 rfl (dq_of td_X6_rises 33 rfl) ?_
      refine ok_iload3 (dq_of td_X6_rises 34 rfl) ?_
      refine call_X6_seatIn ml_X6_189 tw_1 ⟨Nat.le_of_ble_eq_true rfl, Nat.le_of_ble_eq_true rfl⟩ ⟨Nat.zero_le _, Nat.zero_le _⟩ (Nat.le_of_ble_eq_true rfl) (dq_of td_X6_rises 35 rfl) (fun r10 σ9 => ?_)
      refine ok_ic_ge (tgt := 76) (dq_of td_X6_rises 36 rfl) (by decide) ?_ ?_
      · refine ok_jinc3 (w := 1) (dq_of td_X6_rises 43 rfl) (by decide) rfl (by decide) ?_
        refine ok_goto (tgt := 33) (dq_of td_X6_rises 44 rfl) (by decide) ?_
        refine ok_wk (wk_s (wk_n (wk_s (wk_s wk_0)))) ?_
        exact hH _ _ _
      · refine ok_iload2 (dq_of td_X6_rises 37 rfl) ?_
        refine ok_iconst (v := 1) (dq_of td_X6_rises 38 rfl) (by decide) ?_
        refine ok_iload3 (dq_of td_X6_rises 39 rfl) ?_
        refine ok_ishl (dq_of td_X6_rises 40 rfl) ?_
        refine ok_ior (dq_of td_X6_rises 41 rfl) ?_
        refine ok_gI (fun v11 => ?_)
        refine ok_istore2 (dq_of td_X6_rises 42 rfl) rfl (by decide) ?_
        refine ok_jinc3 (w := 1) (dq_of td_X6_rises 43 rfl) (by decide) rfl (by decide) ?_
        refine ok_goto (tgt := 33) (dq_of td_X6_rises 44 rfl) (by decide) ?_
        refine ok_wk (wk_s (wk_n (wk_s (wk_s wk_0)))) ?_
        exact hH _ _ _
theorem ld_X6_rises_33 {G : KW} {l : Launch} (x1 : Int32)  {K : Int32 → Sg → Option (Int32 × Sg)} (hK : ∀ (x2 : Int32) (σ : Sg), Okk G l cX6_rises 4 RX6 (some .int) (rmo 4 88) ccI 82 [none, none, some (.int x2), none] [] σ (K x2 σ)) (n : Nat) (x2 : Int32) (x3 : Int32) (σ : Sg) : Okk G l cX6_rises 4 RX6 (some .int) (rmo 4 88) ccI 33 [some (k_rr G 0), none, some (.int x2), some (.int x3)] [] σ (e_lp2 (d_X6_rises_33 x1 K) n x2 x3 σ) :=
  ok_lp2 (Lf := fun (x2 : Int32) (x3 : Int32) => [some (k_rr G 0), none, some (.int x2), some (.int x3)]) (fun _ hH x2 x3 σ => od_X6_rises_33 _  hK hH x2 x3 σ) n x2 x3 σ
def m_X6_rises (x1 : Int32) (σ : Sg) : Option (Int32 × Sg) := e_cI (m_X6_isCap x1 σ) (fun r2 σ1 => (if r2 = 0 then some ((-2), σ1) else e_cV (m_X4_become 15 1 σ1) (fun σ3 => e_lt (k_up σ3 15 2 x1) (fun σ4 => e_lp2 (d_X6_rises_33 x1 (fun x2q12 σ12 => some (x2q12, σ12))) e_F 0 0 σ4))))
theorem om_X6_rises {G : KW} {l : Launch} (x1 : Int32)  (σ : Sg) : Okk G l cX6_rises 4 RX6 (some .int) (rmo 4 88) ccI 0 [some (k_rr G 0), some (.int x1), none, none] [] σ (m_X6_rises x1 σ) := by
  unfold m_X6_rises
  refine ok_iload1 (dq_of td_X6_rises 0 rfl) ?_
  refine call_X6_isCap ml_X6_111  ⟨Nat.le_of_ble_eq_true rfl, Nat.le_of_ble_eq_true rfl⟩ ⟨Nat.zero_le _, Nat.zero_le _⟩ (Nat.le_of_ble_eq_true rfl) (dq_of td_X6_rises 1 rfl) (fun r2 σ1 => ?_)
  refine ok_if_ne (tgt := 10) (dq_of td_X6_rises 2 rfl) (by decide) ?_ ?_
  · refine ok_iconst (v := 0) (dq_of td_X6_rises 5 rfl) (by decide) ?_
    refine ok_istore2 (dq_of td_X6_rises 6 rfl) rfl (by decide) ?_
    refine ok_aload0 (dq_of td_X6_rises 7 rfl) ?_
    refine ok_get (v := k_rr G 15) fl_X6_16 (by decide) ko_0 rfl (dq_of td_X6_rises 8 rfl) ?_
    refine ok_aload0 (dq_of td_X6_rises 9 rfl) ?_
    refine ok_get (v := k_rr G 1) fl_X6_10 (by decide) ko_0 rfl (dq_of td_X6_rises 10 rfl) ?_
    refine call_X4_become ml_X6_147 tw_15 tw_1 ⟨Nat.le_of_ble_eq_true rfl, Nat.le_of_ble_eq_true rfl⟩ ⟨Nat.zero_le _, Nat.zero_le _⟩ (Nat.le_of_ble_eq_true rfl) (dq_of td_X6_rises 11 rfl) (fun σ3 => ?_)
    refine ok_aload0 (dq_of td_X6_rises 12 rfl) ?_
    refine ok_get (v := k_rr G 15) fl_X6_16 (by decide) ko_0 rfl (dq_of td_X6_rises 13 rfl) ?_
    refine ok_iload1 (dq_of td_X6_rises 14 rfl) ?_
    refine put_4_2 fl_X6_114 (isT_kd tw_15) (dq_of td_X6_rises 15 rfl) (fun σ4 => ?_)
    refine ok_iconst (v := 0) (dq_of td_X6_rises 16 rfl) (by decide) ?_
    refine ok_istore3 (dq_of td_X6_rises 17 rfl) rfl (by decide) ?_
    refine ok_wk (wk_s (wk_n (wk_s (wk_s wk_0)))) ?_
    refine ld_X6_rises_33 _  (fun x2q12 σ12 => ?_) _ _ _ _
    refine ok_iload2 (dq_of td_X6_rises 45 rfl) ?_
    exact ok_iret (dq_of td_X6_rises 46 rfl)
  · refine ok_bipush (v := (-2)) (dq_of td_X6_rises 3 rfl) (by decide) ?_
    exact ok_iret (dq_of td_X6_rises 4 rfl)
theorem ct_X6_rises {G : KW} {l : Launch} (x1 : Int32)  (σ : Sg) : ∀ b, m_X6_rises x1 σ = some b → MetF G l yX6_rises cX6_rises 4 (some .int) 4 88 [k_rr G 0, .int x1] (k_wl G σ) (ccI b).1 (k_wl G (ccI b).2) :=
  met_of (by decide) (Nat.le_of_ble_eq_true rfl) rfl (om_X6_rises _  σ)
theorem call_X6_rises {G : KW} {l : Launch} {cc : ByteArray} {nL : Nat} {own : String} {rt : Option FieldType} {R : Room} {α : Type} {X : State → Array Value → Method → Prop} {Z : α → List Frame → Array Value → State → State → Prop} {k0 n0 pc index : Nat} {L : List (Option Value)} {S : List Value} {σ : Sg} {F : Int32 → Sg → Option α} {x1 : Int32} (lk : MLk own index yX6_rises)  (hR : R.frames ≥ 4 + 1 ∧ R.locals ≥ 8 + (4 + 11) + 88) (hcs : k0 ≤ R.cells ∧ n0 ≤ R.slots) (hro : (S.map fun v => v.category).sum ≤ 8) (d : decode cc pc = .ok (.invokevirtual index, 3)) (kk : ∀ (r : Int32) (σ' : Sg), Okg G l cc nL own rt R X Z k0 n0 (pc + 3) L (.int r :: S) σ' (F r σ')) : Okg G l cc nL own rt R X Z k0 n0 pc L (.int x1 :: k_rr G 0 :: S) σ (e_cI (m_X6_rises x1 σ) F) :=
  ok_cV (cb := ccI) (As := [.int x1]) (ct_X6_rises _  σ) mo_X6_rises hi_X6_rises lk rfl (ci := 6) rfl rfl (by decide) ko_0 hR rfl hcs hro d (fun b => kk b.1 b.2)
/-! CoatDinner.league(I)I -/
def m_X6_league (x1 : Int32) (σ : Sg) : Option (Int32 × Sg) := e_cI (m_X4_isLeague 1 x1 σ) (fun r2 σ1 => (if r2 = 0 then some ((-2), σ1) else e_cI (m_X4_worthOfLeague 1 x1 σ1) (fun r4 σ3 => some (r4, σ3))))
theorem om_X6_league {G : KW} {l : Launch} (x1 : Int32)  (σ : Sg) : Okk G l cX6_league 2 RX6 (some .int) (rmo 2 49) ccI 0 [some (k_rr G 0), some (.int x1)] [] σ (m_X6_league x1 σ) := by
  unfold m_X6_league
  refine ok_aload0 (dq_of td_X6_league 0 rfl) ?_
  refine ok_get (v := k_rr G 1) fl_X6_10 (by decide) ko_0 rfl (dq_of td_X6_league 1 rfl) ?_
  refine ok_iload1 (dq_of td_X6_league 2 rfl) ?_
  refine call_X4_isLeague ml_X6_205 tw_1 ⟨Nat.le_of_ble_eq_true rfl, Nat.le_of_ble_eq_true rfl⟩ ⟨Nat.zero_le _, Nat.zero_le _⟩ (Nat.le_of_ble_eq_true rfl) (dq_of td_X6_league 3 rfl) (fun r2 σ1 => ?_)
  refine ok_if_ne (tgt := 14) (dq_of td_X6_league 4 rfl) (by decide) ?_ ?_
  · refine ok_aload0 (dq_of td_X6_league 7 rfl) ?_
    refine ok_get (v := k_rr G 1) fl_X6_10 (by decide) ko_0 rfl (dq_of td_X6_league 8 rfl) ?_
    refine ok_iload1 (dq_of td_X6_league 9 rfl) ?_
    refine call_X4_worthOfLeague ml_X6_208 tw_1 ⟨Nat.le_of_ble_eq_true rfl, Nat.le_of_ble_eq_true rfl⟩ ⟨Nat.zero_le _, Nat.zero_le _⟩ (Nat.le_of_ble_eq_true rfl) (dq_of td_X6_league 10 rfl) (fun r4 σ3 => ?_)
    exact ok_iret (dq_of td_X6_league 11 rfl)
  · refine ok_bipush (v := (-2)) (dq_of td_X6_league 5 rfl) (by decide) ?_
    exact ok_iret (dq_of td_X6_league 6 rfl)
theorem ct_X6_league {G : KW} {l : Launch} (x1 : Int32)  (σ : Sg) : ∀ b, m_X6_league x1 σ = some b → MetF G l yX6_league cX6_league 2 (some .int) 2 49 [k_rr G 0, .int x1] (k_wl G σ) (ccI b).1 (k_wl G (ccI b).2) :=
  met_of (by decide) (Nat.le_of_ble_eq_true rfl) rfl (om_X6_league _  σ)
theorem call_X6_league {G : KW} {l : Launch} {cc : ByteArray} {nL : Nat} {own : String} {rt : Option FieldType} {R : Room} {α : Type} {X : State → Array Value → Method → Prop} {Z : α → List Frame → Array Value → State → State → Prop} {k0 n0 pc index : Nat} {L : List (Option Value)} {S : List Value} {σ : Sg} {F : Int32 → Sg → Option α} {x1 : Int32} (lk : MLk own index yX6_league)  (hR : R.frames ≥ 2 + 1 ∧ R.locals ≥ 8 + (2 + 11) + 49) (hcs : k0 ≤ R.cells ∧ n0 ≤ R.slots) (hro : (S.map fun v => v.category).sum ≤ 8) (d : decode cc pc = .ok (.invokevirtual index, 3)) (kk : ∀ (r : Int32) (σ' : Sg), Okg G l cc nL own rt R X Z k0 n0 (pc + 3) L (.int r :: S) σ' (F r σ')) : Okg G l cc nL own rt R X Z k0 n0 pc L (.int x1 :: k_rr G 0 :: S) σ (e_cI (m_X6_league x1 σ) F) :=
  ok_cV (cb := ccI) (As := [.int x1]) (ct_X6_league _  σ) mo_X6_league hi_X6_league lk rfl (ci := 6) rfl rfl (by decide) ko_0 hR rfl hcs hro d (fun b => kk b.1 b.2)
/-! CoatDinner.factorial(I)J -/
def m_X6_factorial (x0 : Int32) (σ : Sg) : Option (Int64 × Sg) := e_cI (m_X6_within x0 5 σ) (fun r2 σ1 => (if r2 = 0 then some (1, σ1) else e_gd (k_in x0 6) (some (Int32.toInt64 (stv 2 (Int32.toNatClampNeg x0)), σ1))))
theorem om_X6_factorial {G : KW} {l : Launch} (x0 : Int32)  (σ : Sg) : Okk G l cX6_factorial 1 RX6 (some .long) (rmo 1 21) ccJ 0 [some (.int x0)] [] σ (m_X6_factorial x0 σ) := by
  unfold m_X6_factorial
  refine ok_iload0 (dq_of td_X6_factorial 0 rfl) ?_
  refine ok_iconst (v := 5) (dq_of td_X6_factorial 1 rfl) (by decide) ?_
  refine call_X6_within ml_X6_66  ⟨Nat.le_of_ble_eq_true rfl, Nat.le_of_ble_eq_true rfl⟩ ⟨Nat.zero_le _, Nat.zero_le _⟩ (Nat.le_of_ble_eq_true rfl) (dq_of td_X6_factorial 2 rfl) (fun r2 σ1 => ?_)
  refine ok_if_eq (tgt := 17) (dq_of td_X6_factorial 3 rfl) (by decide) ?_ ?_
  · refine ok_lconst (v := 1) (dq_of td_X6_factorial 9 rfl) (by decide) ?_
    exact ok_lret (dq_of td_X6_factorial 10 rfl)
  · refine ok_gets (t := 2) (by decide) sl_X6_305 (dq_of td_X6_factorial 4 rfl) ?_
    refine ok_iload0 (dq_of td_X6_factorial 5 rfl) ?_
    refine ok_sald (by decide) rfl (dq_of td_X6_factorial 6 rfl) ?_
    refine ok_i2l (dq_of td_X6_factorial 7 rfl) ?_
    refine ok_goto (tgt := 18) (dq_of td_X6_factorial 8 rfl) (by decide) ?_
    exact ok_lret (dq_of td_X6_factorial 10 rfl)
theorem ct_X6_factorial {G : KW} {l : Launch} (x0 : Int32)  (σ : Sg) : ∀ b, m_X6_factorial x0 σ = some b → MetF G l yX6_factorial cX6_factorial 1 (some .long) 1 21 [.int x0] (k_wl G σ) (ccJ b).1 (k_wl G (ccJ b).2) :=
  met_of (by decide) (Nat.le_of_ble_eq_true rfl) rfl (om_X6_factorial _  σ)
theorem call_X6_factorial {G : KW} {l : Launch} {cc : ByteArray} {nL : Nat} {own : String} {rt : Option FieldType} {R : Room} {α : Type} {X : State → Array Value → Method → Prop} {Z : α → List Frame → Array Value → State → State → Prop} {k0 n0 pc index : Nat} {L : List (Option Value)} {S : List Value} {σ : Sg} {F : Int64 → Sg → Option α} {x0 : Int32} (lk : MLk own index yX6_factorial)  (hR : R.frames ≥ 1 + 1 ∧ R.locals ≥ 8 + (1 + 11) + 21) (hcs : k0 ≤ R.cells ∧ n0 ≤ R.slots) (hro : (S.map fun v => v.category).sum ≤ 8) (d : decode cc pc = .ok (.invokestatic index, 3)) (kk : ∀ (r : Int64) (σ' : Sg), Okg G l cc nL own rt R X Z k0 n0 (pc + 3) L (.long r :: S) σ' (F r σ')) : Okg G l cc nL own rt R X Z k0 n0 pc L (.int x0 :: S) σ (e_cJ (m_X6_factorial x0 σ) F) :=
  ok_cS (cb := ccJ) (ct_X6_factorial _  σ) mo_X6_factorial hi_X6_factorial lk rfl hR rfl hcs hro d (fun b => kk b.1 b.2)
/-! CoatDinner.rowsWithAhead(II)J -/
def m_X6_rowsWithAhead (x0 : Int32) (x1 : Int32) (σ : Sg) : Option (Int64 × Sg) := e_cJ (m_X6_factorial x0 σ) (fun r2 σ1 => e_cJ (m_X6_factorial ((x1 - x0) - 1) σ1) (fun r4 σ3 => some (r2 * r4, σ3)))
theorem om_X6_rowsWithAhead {G : KW} {l : Launch} (x0 : Int32) (x1 : Int32)  (σ : Sg) : Okk G l cX6_rowsWithAhead 2 RX6 (some .long) (rmo 2 41) ccJ 0 [some (.int x0), some (.int x1)] [] σ (m_X6_rowsWithAhead x0 x1 σ) := by
  unfold m_X6_rowsWithAhead
  refine ok_iload0 (dq_of td_X6_rowsWithAhead 0 rfl) ?_
  refine call_X6_factorial ml_X6_219  ⟨Nat.le_of_ble_eq_true rfl, Nat.le_of_ble_eq_true rfl⟩ ⟨Nat.zero_le _, Nat.zero_le _⟩ (Nat.le_of_ble_eq_true rfl) (dq_of td_X6_rowsWithAhead 1 rfl) (fun r2 σ1 => ?_)
  refine ok_iload1 (dq_of td_X6_rowsWithAhead 2 rfl) ?_
  refine ok_iload0 (dq_of td_X6_rowsWithAhead 3 rfl) ?_
  refine ok_isub (dq_of td_X6_rowsWithAhead 4 rfl) ?_
  refine ok_iconst (v := 1) (dq_of td_X6_rowsWithAhead 5 rfl) (by decide) ?_
  refine ok_isub (dq_of td_X6_rowsWithAhead 6 rfl) ?_
  refine call_X6_factorial ml_X6_219  ⟨Nat.le_of_ble_eq_true rfl, Nat.le_of_ble_eq_true rfl⟩ ⟨Nat.zero_le _, Nat.zero_le _⟩ (Nat.le_of_ble_eq_true rfl) (dq_of td_X6_rowsWithAhead 7 rfl) (fun r4 σ3 => ?_)
  refine ok_lmul (dq_of td_X6_rowsWithAhead 8 rfl) ?_
  exact ok_lret (dq_of td_X6_rowsWithAhead 9 rfl)
theorem ct_X6_rowsWithAhead {G : KW} {l : Launch} (x0 : Int32) (x1 : Int32)  (σ : Sg) : ∀ b, m_X6_rowsWithAhead x0 x1 σ = some b → MetF G l yX6_rowsWithAhead cX6_rowsWithAhead 2 (some .long) 2 41 [.int x0, .int x1] (k_wl G σ) (ccJ b).1 (k_wl G (ccJ b).2) :=
  met_of (by decide) (Nat.le_of_ble_eq_true rfl) rfl (om_X6_rowsWithAhead _ _  σ)
theorem call_X6_rowsWithAhead {G : KW} {l : Launch} {cc : ByteArray} {nL : Nat} {own : String} {rt : Option FieldType} {R : Room} {α : Type} {X : State → Array Value → Method → Prop} {Z : α → List Frame → Array Value → State → State → Prop} {k0 n0 pc index : Nat} {L : List (Option Value)} {S : List Value} {σ : Sg} {F : Int64 → Sg → Option α} {x0 : Int32} {x1 : Int32} (lk : MLk own index yX6_rowsWithAhead)  (hR : R.frames ≥ 2 + 1 ∧ R.locals ≥ 8 + (2 + 11) + 41) (hcs : k0 ≤ R.cells ∧ n0 ≤ R.slots) (hro : (S.map fun v => v.category).sum ≤ 8) (d : decode cc pc = .ok (.invokestatic index, 3)) (kk : ∀ (r : Int64) (σ' : Sg), Okg G l cc nL own rt R X Z k0 n0 (pc + 3) L (.long r :: S) σ' (F r σ')) : Okg G l cc nL own rt R X Z k0 n0 pc L (.int x1 :: .int x0 :: S) σ (e_cJ (m_X6_rowsWithAhead x0 x1 σ) F) :=
  ok_cS (cb := ccJ) (ct_X6_rowsWithAhead _ _  σ) mo_X6_rowsWithAhead hi_X6_rowsWithAhead lk rfl hR rfl hcs hro d (fun b => kk b.1 b.2)
/-! CoatDinner.commonDivisor(JJ)J -/
def d_X6_commonDivisor_9 (x0 : Int64) (x2 : Int64) (K : Int64 → Sg → Option (Int64 × Sg)) (H : Int64 → Int64 → Int32 → Sg → Option (Int64 × Sg)) (x4 : Int64) (x6 : Int64) (x8 : Int32) (σ : Sg) : Option (Int64 × Sg) := (if 100 ≤ x8 then K x4 σ else (if (lg_cmp x6 0) = 0 then K x4 σ else if x6 = 0 then none else e_lt (jrl x4 x6) (fun v1 => H x6 v1 (x8 + 1) σ)))
theorem od_X6_commonDivisor_9 {G : KW} {l : Launch} (x0 : Int64) (x2 : Int64)  {K : Int64 → Sg → Option (Int64 × Sg)} {H : Int64 → Int64 → Int32 → Sg → Option (Int64 × Sg)} (hK : ∀ (x4 : Int64) (σ : Sg), Okk G l cX6_commonDivisor 11 RX6 (some .long) (rmo 0 0) ccJ 44 [none, none, none, none, some (.long x4), none, none, none, none, none, none] [] σ (K x4 σ)) (hH : ∀ (x4 : Int64) (x6 : Int64) (x8 : Int32) (σ : Sg), Okk G l cX6_commonDivisor 11 RX6 (some .long) (rmo 0 0) ccJ 9 [none, none, none, none, some (.long x4), none, some (.long x6), none, some (.int x8), none, none] [] σ (H x4 x6 x8 σ)) (x4 : Int64) (x6 : Int64) (x8 : Int32)  (σ : Sg) : Okk G l cX6_commonDivisor 11 RX6 (some .long) (rmo 0 0) ccJ 9 [none, none, none, none, some (.long x4), none, some (.long x6), none, some (.int x8), none, none] [] σ (d_X6_commonDivisor_9 x0 x2 K H x4 x6 x8 σ) := by
  unfold d_X6_commonDivisor_9
  refine ok_iload8 (dq_of td_X6_commonDivisor 6 rfl) ?_
  refine ok_bipush (v := 100) (dq_of td_X6_commonDivisor 7 rfl) (by decide) ?_
  refine ok_ic_ge (tgt := 44) (dq_of td_X6_commonDivisor 8 rfl) (by decide) ?_ ?_
  · refine ok_wk (wk_n (wk_n (wk_n (wk_n (wk_s (wk_n (wk_n (wk_n (wk_n (wk_n (wk_n wk_0))))))))))) ?_
    exact hK _ _
  · refine ok_lload6 (dq_of td_X6_commonDivisor 9 rfl) ?_
    refine ok_lconst (v := 0) (dq_of td_X6_commonDivisor 10 rfl) (by decide) ?_
    refine ok_lcmp (dq_of td_X6_commonDivisor 11 rfl) ?_
    refine ok_if_eq (tgt := 44) (dq_of td_X6_commonDivisor 12 rfl) (by decide) ?_ ?_
    · refine ok_wk (wk_n (wk_n (wk_n (wk_n (wk_s (wk_n (wk_n (wk_n (wk_n (wk_n (wk_n wk_0))))))))))) ?_
      exact hK _ _
    · refine ok_lload4 (dq_of td_X6_commonDivisor 13 rfl) ?_
      refine ok_lload6 (dq_of td_X6_commonDivisor 14 rfl) ?_
      refine ok_lremG (dq_of td_X6_commonDivisor 15 rfl) ?_
      refine ok_gJ (fun v1 => ?_)
      refine ok_lstore9 (dq_of td_X6_commonDivisor 16 rfl) rfl (by decide) ?_
      refine ok_lload6 (dq_of td_X6_commonDivisor 17 rfl) ?_
      refine ok_lstore4 (dq_of td_X6_commonDivisor 18 rfl) rfl (by decide) ?_
      refine ok_lload9 (dq_of td_X6_commonDivisor 19 rfl) ?_
      refine ok_lstore6 (dq_of td_X6_commonDivisor 20 rfl) rfl (by decide) ?_
      refine ok_jinc8 (w := 1) (dq_of td_X6_commonDivisor 21 rfl) (by decide) rfl (by decide) ?_
      refine ok_goto (tgt := 9) (dq_of td_X6_commonDivisor 22 rfl) (by decide) ?_
      refine ok_wk (wk_n (wk_n (wk_n (wk_n (wk_s (wk_n (wk_s (wk_n (wk_s (wk_n (wk_n wk_0))))))))))) ?_
      exact hH _ _ _ _
theorem ld_X6_commonDivisor_9 {G : KW} {l : Launch} (x0 : Int64) (x2 : Int64)  {K : Int64 → Sg → Option (Int64 × Sg)} (hK : ∀ (x4 : Int64) (σ : Sg), Okk G l cX6_commonDivisor 11 RX6 (some .long) (rmo 0 0) ccJ 44 [none, none, none, none, some (.long x4), none, none, none, none, none, none] [] σ (K x4 σ)) (n : Nat) (x4 : Int64) (x6 : Int64) (x8 : Int32) (σ : Sg) : Okk G l cX6_commonDivisor 11 RX6 (some .long) (rmo 0 0) ccJ 9 [none, none, none, none, some (.long x4), none, some (.long x6), none, some (.int x8), none, none] [] σ (e_lp3 (d_X6_commonDivisor_9 x0 x2 K) n x4 x6 x8 σ) :=
  ok_lp3 (Lf := fun (x4 : Int64) (x6 : Int64) (x8 : Int32) => [none, none, none, none, some (.long x4), none, some (.long x6), none, some (.int x8), none, none]) (fun _ hH x4 x6 x8 σ => od_X6_commonDivisor_9 _ _  hK hH x4 x6 x8 σ) n x4 x6 x8 σ
def m_X6_commonDivisor (x0 : Int64) (x2 : Int64) (σ : Sg) : Option (Int64 × Sg) := e_lp3 (d_X6_commonDivisor_9 x0 x2 (fun x4q2 σ2 => some (x4q2, σ2))) e_F x0 x2 0 σ
theorem om_X6_commonDivisor {G : KW} {l : Launch} (x0 : Int64) (x2 : Int64)  (σ : Sg) : Okk G l cX6_commonDivisor 11 RX6 (some .long) (rmo 0 0) ccJ 0 [some (.long x0), none, some (.long x2), none, none, none, none, none, none, none, none] [] σ (m_X6_commonDivisor x0 x2 σ) := by
  unfold m_X6_commonDivisor
  refine ok_lload0 (dq_of td_X6_commonDivisor 0 rfl) ?_
  refine ok_lstore4 (dq_of td_X6_commonDivisor 1 rfl) rfl (by decide) ?_
  refine ok_lload2 (dq_of td_X6_commonDivisor 2 rfl) ?_
  refine ok_lstore6 (dq_of td_X6_commonDivisor 3 rfl) rfl (by decide) ?_
  refine ok_iconst (v := 0) (dq_of td_X6_commonDivisor 4 rfl) (by decide) ?_
  refine ok_istore8 (dq_of td_X6_commonDivisor 5 rfl) rfl (by decide) ?_
  refine ok_wk (wk_n (wk_n (wk_n (wk_n (wk_s (wk_n (wk_s (wk_n (wk_s (wk_n (wk_n wk_0))))))))))) ?_
  refine ld_X6_commonDivisor_9 _ _  (fun x4q2 σ2 => ?_) _ _ _ _ _
  refine ok_lload4 (dq_of td_X6_commonDivisor 23 rfl) ?_
  exact ok_lret (dq_of td_X6_commonDivisor 24 rfl)
theorem ct_X6_commonDivisor {G : KW} {l : Launch} (x0 : Int64) (x2 : Int64)  (σ : Sg) : ∀ b, m_X6_commonDivisor x0 x2 σ = some b → MetF G l yX6_commonDivisor cX6_commonDivisor 11 (some .long) 0 0 [.long x0, .long x2] (k_wl G σ) (ccJ b).1 (k_wl G (ccJ b).2) :=
  met_of (by decide) (Nat.le_of_ble_eq_true rfl) rfl (om_X6_commonDivisor _ _  σ)
theorem call_X6_commonDivisor {G : KW} {l : Launch} {cc : ByteArray} {nL : Nat} {own : String} {rt : Option FieldType} {R : Room} {α : Type} {X : State → Array Value → Method → Prop} {Z : α → List Frame → Array Value → State → State → Prop} {k0 n0 pc index : Nat} {L : List (Option Value)} {S : List Value} {σ : Sg} {F : Int64 → Sg → Option α} {x0 : Int64} {x2 : Int64} (lk : MLk own index yX6_commonDivisor)  (hR : R.frames ≥ 0 + 1 ∧ R.locals ≥ 8 + (11 + 11) + 0) (hcs : k0 ≤ R.cells ∧ n0 ≤ R.slots) (hro : (S.map fun v => v.category).sum ≤ 8) (d : decode cc pc = .ok (.invokestatic index, 3)) (kk : ∀ (r : Int64) (σ' : Sg), Okg G l cc nL own rt R X Z k0 n0 (pc + 3) L (.long r :: S) σ' (F r σ')) : Okg G l cc nL own rt R X Z k0 n0 pc L (.long x2 :: .long x0 :: S) σ (e_cJ (m_X6_commonDivisor x0 x2 σ) F) :=
  ok_cS (cb := ccJ) (ct_X6_commonDivisor _ _  σ) mo_X6_commonDivisor hi_X6_commonDivisor lk rfl hR rfl hcs hro d (fun b => kk b.1 b.2)
/-! CoatDinner.partOf(JJI)J -/
def b_X6_partOf_26 (x0 : Int64) (x2 : Int64) (x4 : Int32) (x5 : Int64) (s0 : Int64) (σ : Sg) : Option (Int64 × Sg) := if x5 = 0 then none else some (s0 / x5, σ)
theorem ob_X6_partOf_26 {G : KW} {l : Launch} (x0 : Int64) (x2 : Int64) (x4 : Int32)  (x5 : Int64) (s0 : Int64)  (σ : Sg) : Okk G l cX6_partOf 7 RX6 (some .long) (rmo 1 30) ccJ 26 [none, none, none, none, none, some (.long x5), none] [.long s0] σ (b_X6_partOf_26 x0 x2 x4 x5 s0 σ) := by
  unfold b_X6_partOf_26
  refine ok_lload5 (dq_of td_X6_partOf 15 rfl) ?_
  refine ok_ldivG (dq_of td_X6_partOf 16 rfl) ?_
  exact ok_lret (dq_of td_X6_partOf 17 rfl)
def m_X6_partOf (x0 : Int64) (x2 : Int64) (x4 : Int32) (σ : Sg) : Option (Int64 × Sg) := e_cJ (m_X6_commonDivisor x0 x2 σ) (fun r2 σ1 => (if (lg_cmp r2 0) = 0 then some (0, σ1) else (if x4 = 0 then b_X6_partOf_26 x0 x2 x4 r2 x0 σ1 else b_X6_partOf_26 x0 x2 x4 r2 x2 σ1)))
theorem om_X6_partOf {G : KW} {l : Launch} (x0 : Int64) (x2 : Int64) (x4 : Int32)  (σ : Sg) : Okk G l cX6_partOf 7 RX6 (some .long) (rmo 1 30) ccJ 0 [some (.long x0), none, some (.long x2), none, some (.int x4), none, none] [] σ (m_X6_partOf x0 x2 x4 σ) := by
  unfold m_X6_partOf
  refine ok_lload0 (dq_of td_X6_partOf 0 rfl) ?_
  refine ok_lload2 (dq_of td_X6_partOf 1 rfl) ?_
  refine call_X6_commonDivisor ml_X6_308  ⟨Nat.le_of_ble_eq_true rfl, Nat.le_of_ble_eq_true rfl⟩ ⟨Nat.zero_le _, Nat.zero_le _⟩ (Nat.le_of_ble_eq_true rfl) (dq_of td_X6_partOf 2 rfl) (fun r2 σ1 => ?_)
  refine ok_lstore5 (dq_of td_X6_partOf 3 rfl) rfl (by decide) ?_
  refine ok_lload5 (dq_of td_X6_partOf 4 rfl) ?_
  refine ok_lconst (v := 0) (dq_of td_X6_partOf 5 rfl) (by decide) ?_
  refine ok_lcmp (dq_of td_X6_partOf 6 rfl) ?_
  refine ok_if_ne (tgt := 16) (dq_of td_X6_partOf 7 rfl) (by decide) ?_ ?_
  · refine ok_iload4 (dq_of td_X6_partOf 10 rfl) ?_
    refine ok_if_ne (tgt := 25) (dq_of td_X6_partOf 11 rfl) (by decide) ?_ ?_
    · refine ok_lload2 (dq_of td_X6_partOf 14 rfl) ?_
      refine ok_wk (wk_n (wk_n (wk_n (wk_n (wk_n (wk_s (wk_n wk_0))))))) ?_
      exact ob_X6_partOf_26 _ _ _  _ _  _
    · refine ok_lload0 (dq_of td_X6_partOf 12 rfl) ?_
      refine ok_goto (tgt := 26) (dq_of td_X6_partOf 13 rfl) (by decide) ?_
      refine ok_wk (wk_n (wk_n (wk_n (wk_n (wk_n (wk_s (wk_n wk_0))))))) ?_
      exact ob_X6_partOf_26 _ _ _  _ _  _
  · refine ok_lconst (v := 0) (dq_of td_X6_partOf 8 rfl) (by decide) ?_
    exact ok_lret (dq_of td_X6_partOf 9 rfl)
theorem ct_X6_partOf {G : KW} {l : Launch} (x0 : Int64) (x2 : Int64) (x4 : Int32)  (σ : Sg) : ∀ b, m_X6_partOf x0 x2 x4 σ = some b → MetF G l yX6_partOf cX6_partOf 7 (some .long) 1 30 [.long x0, .long x2, .int x4] (k_wl G σ) (ccJ b).1 (k_wl G (ccJ b).2) :=
  met_of (by decide) (Nat.le_of_ble_eq_true rfl) rfl (om_X6_partOf _ _ _  σ)
theorem call_X6_partOf {G : KW} {l : Launch} {cc : ByteArray} {nL : Nat} {own : String} {rt : Option FieldType} {R : Room} {α : Type} {X : State → Array Value → Method → Prop} {Z : α → List Frame → Array Value → State → State → Prop} {k0 n0 pc index : Nat} {L : List (Option Value)} {S : List Value} {σ : Sg} {F : Int64 → Sg → Option α} {x0 : Int64} {x2 : Int64} {x4 : Int32} (lk : MLk own index yX6_partOf)  (hR : R.frames ≥ 1 + 1 ∧ R.locals ≥ 8 + (7 + 11) + 30) (hcs : k0 ≤ R.cells ∧ n0 ≤ R.slots) (hro : (S.map fun v => v.category).sum ≤ 8) (d : decode cc pc = .ok (.invokestatic index, 3)) (kk : ∀ (r : Int64) (σ' : Sg), Okg G l cc nL own rt R X Z k0 n0 (pc + 3) L (.long r :: S) σ' (F r σ')) : Okg G l cc nL own rt R X Z k0 n0 pc L (.int x4 :: .long x2 :: .long x0 :: S) σ (e_cJ (m_X6_partOf x0 x2 x4 σ) F) :=
  ok_cS (cb := ccJ) (ct_X6_partOf _ _ _  σ) mo_X6_partOf hi_X6_partOf lk rfl hR rfl hcs hro d (fun b => kk b.1 b.2)
/-! CoatDinner.share(II)J -/
def d_X6_share_44 (x1 : Int32) (x2 : Int32) (K : Int32 → Int64 → Sg → Option (Int64 × Sg)) (H : Int32 → Int64 → Int32 → Sg → Option (Int64 × Sg)) (x3 : Int32) (x4 : Int64) (x6 : Int32) (σ : Sg) : Option (Int64 × Sg) := (if 32 ≤ x6 then K x3 x4 σ else e_cI (m_X4_isLeague 1 x6 σ) (fun r8 σ7 => (if r8 = 0 then H x3 x4 (x6 + 1) σ7 else (if ((jsr x6 x1) &&& 1) = 0 then e_cI (m_X4_worthOfLeague 1 (x6 ||| (jsl 1 x1)) σ7) (fun r10 σ9 => e_cI (m_X4_worthOfLeague 1 x6 σ9) (fun r12 σ11 => e_lt (r10 - r12) (fun v13 => e_cI (m_J6_bitCount_0f7a4 x6 σ11) (fun r15 σ14 => e_cJ (m_X6_rowsWithAhead r15 x3 σ14) (fun r17 σ16 => e_lt (x4 + (r17 * (Int32.toInt64 v13))) (fun v18 => H x3 v18 (x6 + 1) σ16)))))) else H x3 x4 (x6 + 1) σ7))))
theorem od_X6_share_44 {G : KW} {l : Launch} (x1 : Int32) (x2 : Int32)  {K : Int32 → Int64 → Sg → Option (Int64 × Sg)} {H : Int32 → Int64 → Int32 → Sg → Option (Int64 × Sg)} (hK : ∀ (x3 : Int32) (x4 : Int64) (σ : Sg), Okk G l cX6_share 8 RX6 (some .long) (rmo 3 62) ccJ 121 [none, none, some (.int x2), some (.int x3), some (.long x4), none, none, none] [] σ (K x3 x4 σ)) (hH : ∀ (x3 : Int32) (x4 : Int64) (x6 : Int32) (σ : Sg), Okk G l cX6_share 8 RX6 (some .long) (rmo 3 62) ccJ 44 [some (k_rr G 0), some (.int x1), some (.int x2), some (.int x3), some (.long x4), none, some (.int x6), none] [] σ (H x3 x4 x6 σ)) (x3 : Int32) (x4 : Int64) (x6 : Int32)  (σ : Sg) : Okk G l cX6_share 8 RX6 (some .long) (rmo 3 62) ccJ 44 [some (k_rr G 0), some (.int x1), some (.int x2), some (.int x3), some (.long x4), none, some (.int x6), none] [] σ (d_X6_share_44 x1 x2 K H x3 x4 x6 σ) := by
  unfold d_X6_share_44
  refine ok_iload6 (dq_of td_X6_share 22 rfl) ?_
  refine ok_bipush (v := 32) (dq_of td_X6_share 23 rfl) (by decide) ?_
  refine ok_ic_ge (tgt := 121) (dq_of td_X6_share 24 rfl) (by decide) ?_ ?_
  · refine ok_wk (wk_n (wk_n (wk_s (wk_s (wk_s (wk_n (wk_n (wk_n wk_0)))))))) ?_
    exact hK _ _ _
  · refine ok_aload0 (dq_of td_X6_share 25 rfl) ?_
    refine ok_get (v := k_rr G 1) fl_X6_10 (by decide) ko_0 rfl (dq_of td_X6_share 26 rfl) ?_
    refine ok_iload6 (dq_of td_X6_share 27 rfl) ?_
    refine call_X4_isLeague ml_X6_205 tw_1 ⟨Nat.le_of_ble_eq_true rfl, Nat.le_of_ble_eq_true rfl⟩ ⟨Nat.zero_le _, Nat.zero_le _⟩ (Nat.le_of_ble_eq_true rfl) (dq_of td_X6_share 28 rfl) (fun r8 σ7 => ?_)
    refine ok_if_eq (tgt := 115) (dq_of td_X6_share 29 rfl) (by decide) ?_ ?_
    · refine ok_jinc6 (w := 1) (dq_of td_X6_share 60 rfl) (by decide) rfl (by decide) ?_
      refine ok_goto (tgt := 44) (dq_of td_X6_share 61 rfl) (by decide) ?_
      refine ok_wk (wk_s (wk_s (wk_s (wk_s (wk_s (wk_n (wk_s (wk_n wk_0)))))))) ?_
      exact hH _ _ _ _
    · refine ok_iload6 (dq_of td_X6_share 30 rfl) ?_
      refine ok_iload1 (dq_of td_X6_share 31 rfl) ?_
      refine ok_ishr (dq_of td_X6_share 32 rfl) ?_
      refine ok_iconst (v := 1) (dq_of td_X6_share 33 rfl) (by decide) ?_
      refine ok_iand (dq_of td_X6_share 34 rfl) ?_
      refine ok_if_ne (tgt := 115) (dq_of td_X6_share 35 rfl) (by decide) ?_ ?_
      · refine ok_jinc6 (w := 1) (dq_of td_X6_share 60 rfl) (by decide) rfl (by decide) ?_
        refine ok_goto (tgt := 44) (dq_of td_X6_share 61 rfl) (by decide) ?_
        refine ok_wk (wk_s (wk_s (wk_s (wk_s (wk_s (wk_n (wk_s (wk_n wk_0)))))))) ?_
        exact hH _ _ _ _
      · refine ok_aload0 (dq_of td_X6_share 36 rfl) ?_
        refine ok_get (v := k_rr G 1) fl_X6_10 (by decide) ko_0 rfl (dq_of td_X6_share 37 rfl) ?_
        refine ok_iload6 (dq_of td_X6_share 38 rfl) ?_
        refine ok_iconst (v := 1) (dq_of td_X6_share 39 rfl) (by decide) ?_
        refine ok_iload1 (dq_of td_X6_share 40 rfl) ?_
        refine ok_ishl (dq_of td_X6_share 41 rfl) ?_
        refine ok_ior (dq_of td_X6_share 42 rfl) ?_
        refine call_X4_worthOfLeague ml_X6_208 tw_1 ⟨Nat.le_of_ble_eq_true rfl, Nat.le_of_ble_eq_true rfl⟩ ⟨Nat.zero_le _, Nat.zero_le _⟩ (Nat.le_of_ble_eq_true rfl) (dq_of td_X6_share 43 rfl) (fun r10 σ9 => ?_)
        refine ok_aload0 (dq_of td_X6_share 44 rfl) ?_
        refine ok_get (v := k_rr G 1) fl_X6_10 (by decide) ko_0 rfl (dq_of td_X6_share 45 rfl) ?_
        refine ok_iload6 (dq_of td_X6_share 46 rfl) ?_
        refine call_X4_worthOfLeague ml_X6_208 tw_1 ⟨Nat.le_of_ble_eq_true rfl, Nat.le_of_ble_eq_true rfl⟩ ⟨Nat.zero_le _, Nat.zero_le _⟩ (Nat.le_of_ble_eq_true rfl) (dq_of td_X6_share 47 rfl) (fun r12 σ11 => ?_)
        refine ok_isub (dq_of td_X6_share 48 rfl) ?_
        refine ok_gI (fun v13 => ?_)
        refine ok_istore7 (dq_of td_X6_share 49 rfl) rfl (by decide) ?_
        refine ok_lload4 (dq_of td_X6_share 50 rfl) ?_
        refine ok_iload6 (dq_of td_X6_share 51 rfl) ?_
        refine call_J6_bitCount_0f7a4 ml_X6_82  ⟨Nat.le_of_ble_eq_true rfl, Nat.le_of_ble_eq_true rfl⟩ ⟨Nat.zero_le _, Nat.zero_le _⟩ (Nat.le_of_ble_eq_true rfl) (dq_of td_X6_share 52 rfl) (fun r15 σ14 => ?_)
        refine ok_iload3 (dq_of td_X6_share 53 rfl) ?_
        refine call_X6_rowsWithAhead ml_X6_215  ⟨Nat.le_of_ble_eq_true rfl, Nat.le_of_ble_eq_true rfl⟩ ⟨Nat.zero_le _, Nat.zero_le _⟩ (Nat.le_of_ble_eq_true rfl) (dq_of td_X6_share 54 rfl) (fun r17 σ16 => ?_)
        refine ok_iload7 (dq_of td_X6_share 55 rfl) ?_
        refine ok_i2l (dq_of td_X6_share 56 rfl) ?_
        refine ok_lmul (dq_of td_X6_share 57 rfl) ?_
        refine ok_ladd (dq_of td_X6_share 58 rfl) ?_
        refine ok_gJ (fun v18 => ?_)
        refine ok_lstore4 (dq_of td_X6_share 59 rfl) rfl (by decide) ?_
        refine ok_jinc6 (w := 1) (dq_of td_X6_share 60 rfl) (by decide) rfl (by decide) ?_
        refine ok_goto (tgt := 44) (dq_of td_X6_share 61 rfl) (by decide) ?_
        refine ok_wk (wk_s (wk_s (wk_s (wk_s (wk_s (wk_n (wk_s (wk_n wk_0)))))))) ?_
        exact hH _ _ _ _
theorem ld_X6_share_44 {G : KW} {l : Launch} (x1 : Int32) (x2 : Int32)  {K : Int32 → Int64 → Sg → Option (Int64 × Sg)} (hK : ∀ (x3 : Int32) (x4 : Int64) (σ : Sg), Okk G l cX6_share 8 RX6 (some .long) (rmo 3 62) ccJ 121 [none, none, some (.int x2), some (.int x3), some (.long x4), none, none, none] [] σ (K x3 x4 σ)) (n : Nat) (x3 : Int32) (x4 : Int64) (x6 : Int32) (σ : Sg) : Okk G l cX6_share 8 RX6 (some .long) (rmo 3 62) ccJ 44 [some (k_rr G 0), some (.int x1), some (.int x2), some (.int x3), some (.long x4), none, some (.int x6), none] [] σ (e_lp3 (d_X6_share_44 x1 x2 K) n x3 x4 x6 σ) :=
  ok_lp3 (Lf := fun (x3 : Int32) (x4 : Int64) (x6 : Int32) => [some (k_rr G 0), some (.int x1), some (.int x2), some (.int x3), some (.long x4), none, some (.int x6), none]) (fun _ hH x3 x4 x6 σ => od_X6_share_44 _ _  hK hH x3 x4 x6 σ) n x3 x4 x6 σ
def m_X6_share (x1 : Int32) (x2 : Int32) (σ : Sg) : Option (Int64 × Sg) := e_cI (m_X4_hasPerson 1 x1 σ) (fun r2 σ1 => (if r2 = 0 then some ((-1000000000000000001), σ1) else e_cI (m_X6_within x2 1 σ1) (fun r4 σ3 => (if r4 = 0 then some ((-1000000000000000002), σ3) else e_cI (m_J6_bitCount_0f7a4 (σ3 1 0) σ3) (fun r6 σ5 => e_lp3 (d_X6_share_44 x1 x2 (fun x3q19 x4q19 σ19 => e_cJ (m_X6_factorial x3q19 σ19) (fun r21 σ20 => e_cJ (m_X6_partOf x4q19 r21 x2 σ20) (fun r23 σ22 => some (r23, σ22))))) e_F r6 0 0 σ5)))))
theorem om_X6_share {G : KW} {l : Launch} (x1 : Int32) (x2 : Int32)  (σ : Sg) : Okk G l cX6_share 8 RX6 (some .long) (rmo 3 62) ccJ 0 [some (k_rr G 0), some (.int x1), some (.int x2), none, none, none, none, none] [] σ (m_X6_share x1 x2 σ) := by
  unfold m_X6_share
  refine ok_aload0 (dq_of td_X6_share 0 rfl) ?_
  refine ok_get (v := k_rr G 1) fl_X6_10 (by decide) ko_0 rfl (dq_of td_X6_share 1 rfl) ?_
  refine ok_iload1 (dq_of td_X6_share 2 rfl) ?_
  refine call_X4_hasPerson ml_X6_70 tw_1 ⟨Nat.le_of_ble_eq_true rfl, Nat.le_of_ble_eq_true rfl⟩ ⟨Nat.zero_le _, Nat.zero_le _⟩ (Nat.le_of_ble_eq_true rfl) (dq_of td_X6_share 3 rfl) (fun r2 σ1 => ?_)
  refine ok_if_ne (tgt := 15) (dq_of td_X6_share 4 rfl) (by decide) ?_ ?_
  · refine ok_iload2 (dq_of td_X6_share 7 rfl) ?_
    refine ok_iconst (v := 1) (dq_of td_X6_share 8 rfl) (by decide) ?_
    refine call_X6_within ml_X6_66  ⟨Nat.le_of_ble_eq_true rfl, Nat.le_of_ble_eq_true rfl⟩ ⟨Nat.zero_le _, Nat.zero_le _⟩ (Nat.le_of_ble_eq_true rfl) (dq_of td_X6_share 9 rfl) (fun r4 σ3 => ?_)
    refine ok_if_ne (tgt := 27) (dq_of td_X6_share 10 rfl) (by decide) ?_ ?_
    · refine ok_aload0 (dq_of td_X6_share 13 rfl) ?_
      refine ok_get (v := k_rr G 1) fl_X6_10 (by decide) ko_0 rfl (dq_of td_X6_share 14 rfl) ?_
      refine ok_get (v := .int (σ3 1 0)) fl_X6_78 (by decide) (isT_kd tw_1) rfl (dq_of td_X6_share 15 rfl) ?_
      refine call_J6_bitCount_0f7a4 ml_X6_82  ⟨Nat.le_of_ble_eq_true rfl, Nat.le_of_ble_eq_true rfl⟩ ⟨Nat.zero_le _, Nat.zero_le _⟩ (Nat.le_of_ble_eq_true rfl) (dq_of td_X6_share 16 rfl) (fun r6 σ5 => ?_)
      refine ok_istore3 (dq_of td_X6_share 17 rfl) rfl (by decide) ?_
      refine ok_lconst (v := 0) (dq_of td_X6_share 18 rfl) (by decide) ?_
      refine ok_lstore4 (dq_of td_X6_share 19 rfl) rfl (by decide) ?_
      refine ok_iconst (v := 0) (dq_of td_X6_share 20 rfl) (by decide) ?_
      refine ok_istore6 (dq_of td_X6_share 21 rfl) rfl (by decide) ?_
      refine ok_wk (wk_s (wk_s (wk_s (wk_s (wk_s (wk_n (wk_s (wk_n wk_0)))))))) ?_
      refine ld_X6_share_44 _ _  (fun x3q19 x4q19 σ19 => ?_) _ _ _ _ _
      refine ok_lload4 (dq_of td_X6_share 62 rfl) ?_
      refine ok_iload3 (dq_of td_X6_share 63 rfl) ?_
      refine call_X6_factorial ml_X6_219  ⟨Nat.le_of_ble_eq_true rfl, Nat.le_of_ble_eq_true rfl⟩ ⟨Nat.zero_le _, Nat.zero_le _⟩ (Nat.le_of_ble_eq_true rfl) (dq_of td_X6_share 64 rfl) (fun r21 σ20 => ?_)
      refine ok_iload2 (dq_of td_X6_share 65 rfl) ?_
      refine call_X6_partOf ml_X6_223  ⟨Nat.le_of_ble_eq_true rfl, Nat.le_of_ble_eq_true rfl⟩ ⟨Nat.zero_le _, Nat.zero_le _⟩ (Nat.le_of_ble_eq_true rfl) (dq_of td_X6_share 66 rfl) (fun r23 σ22 => ?_)
      exact ok_lret (dq_of td_X6_share 67 rfl)
    · refine ok_ldc2 (v := (-1000000000000000002)) (dq_of td_X6_share 11 rfl) kc_X6_213 ?_
      exact ok_lret (dq_of td_X6_share 12 rfl)
  · refine ok_ldc2 (v := (-1000000000000000001)) (dq_of td_X6_share 5 rfl) kc_X6_211 ?_
    exact ok_lret (dq_of td_X6_share 6 rfl)
theorem ct_X6_share {G : KW} {l : Launch} (x1 : Int32) (x2 : Int32)  (σ : Sg) : ∀ b, m_X6_share x1 x2 σ = some b → MetF G l yX6_share cX6_share 8 (some .long) 3 62 [k_rr G 0, .int x1, .int x2] (k_wl G σ) (ccJ b).1 (k_wl G (ccJ b).2) :=
  met_of (by decide) (Nat.le_of_ble_eq_true rfl) rfl (om_X6_share _ _  σ)
theorem call_X6_share {G : KW} {l : Launch} {cc : ByteArray} {nL : Nat} {own : String} {rt : Option FieldType} {R : Room} {α : Type} {X : State → Array Value → Method → Prop} {Z : α → List Frame → Array Value → State → State → Prop} {k0 n0 pc index : Nat} {L : List (Option Value)} {S : List Value} {σ : Sg} {F : Int64 → Sg → Option α} {x1 : Int32} {x2 : Int32} (lk : MLk own index yX6_share)  (hR : R.frames ≥ 3 + 1 ∧ R.locals ≥ 8 + (8 + 11) + 62) (hcs : k0 ≤ R.cells ∧ n0 ≤ R.slots) (hro : (S.map fun v => v.category).sum ≤ 8) (d : decode cc pc = .ok (.invokevirtual index, 3)) (kk : ∀ (r : Int64) (σ' : Sg), Okg G l cc nL own rt R X Z k0 n0 (pc + 3) L (.long r :: S) σ' (F r σ')) : Okg G l cc nL own rt R X Z k0 n0 pc L (.int x2 :: .int x1 :: k_rr G 0 :: S) σ (e_cJ (m_X6_share x1 x2 σ) F) :=
  ok_cV (cb := ccJ) (As := [.int x1, .int x2]) (ct_X6_share _ _  σ) mo_X6_share hi_X6_share lk rfl (ci := 6) rfl rfl (by decide) ko_0 hR rfl hcs hro d (fun b => kk b.1 b.2)
/-! CoatDinner.leaves(I)I -/
def b_X6_leaves_74 (x1 : Int32) (K : Int32 → Int32 → Sg → Option (Int32 × Sg)) (H : Int32 → Int32 → Int32 → Sg → Option (Int32 × Sg)) (x2 : Int32) (x4 : Int32) (s0 : Int32) (σ : Sg) : Option (Int32 × Sg) := H x2 s0 (x4 + 1) σ
def d_X6_leaves_19 (x1 : Int32) (K : Int32 → Int32 → Sg → Option (Int32 × Sg)) (H : Int32 → Int32 → Int32 → Sg → Option (Int32 × Sg)) (x2 : Int32) (x3 : Int32) (x4 : Int32) (σ : Sg) : Option (Int32 × Sg) := (if 32 ≤ x4 then K x2 x3 σ else e_cI (m_X4_isLeague 1 x4 σ) (fun r4 σ3 => (if r4 = 0 then H x2 x3 (x4 + 1) σ3 else e_cI (m_X4_worthOfLeague 1 x4 σ3) (fun r6 σ5 => e_cI (m_X4_giftsOfLeague 1 x4 σ5) (fun r8 σ7 => (if r6 ≤ r8 then H x2 x3 (x4 + 1) σ7 else (if x3 = ((-6)) then b_X6_leaves_74 x1 K H (x2 + 1) x4 x4 σ7 else b_X6_leaves_74 x1 K H (x2 + 1) x4 x3 σ7)))))))
theorem ob_X6_leaves_74 {G : KW} {l : Launch} (x1 : Int32)  {K : Int32 → Int32 → Sg → Option (Int32 × Sg)} {H : Int32 → Int32 → Int32 → Sg → Option (Int32 × Sg)} (hK : ∀ (x2 : Int32) (x3 : Int32) (σ : Sg), Okk G l cX6_leaves 5 RX6 (some .int) (rmo 2 49) ccI 81 [none, some (.int x1), some (.int x2), some (.int x3), none] [] σ (K x2 x3 σ)) (hH : ∀ (x2 : Int32) (x3 : Int32) (x4 : Int32) (σ : Sg), Okk G l cX6_leaves 5 RX6 (some .int) (rmo 2 49) ccI 19 [some (k_rr G 0), some (.int x1), some (.int x2), some (.int x3), some (.int x4)] [] σ (H x2 x3 x4 σ)) (x2 : Int32) (x4 : Int32) (s0 : Int32)  (σ : Sg) : Okk G l cX6_leaves 5 RX6 (some .int) (rmo 2 49) ccI 74 [some (k_rr G 0), some (.int x1), some (.int x2), none, some (.int x4)] [.int s0] σ (b_X6_leaves_74 x1 K H x2 x4 s0 σ) := by
  unfold b_X6_leaves_74
  refine ok_istore3 (dq_of td_X6_leaves 36 rfl) rfl (by decide) ?_
  refine ok_jinc4 (w := 1) (dq_of td_X6_leaves 37 rfl) (by decide) rfl (by decide) ?_
  refine ok_goto (tgt := 19) (dq_of td_X6_leaves 38 rfl) (by decide) ?_
  refine ok_wk (wk_s (wk_s (wk_s (wk_s (wk_s wk_0))))) ?_
  exact hH _ _ _ _
theorem od_X6_leaves_19 {G : KW} {l : Launch} (x1 : Int32)  {K : Int32 → Int32 → Sg → Option (Int32 × Sg)} {H : Int32 → Int32 → Int32 → Sg → Option (Int32 × Sg)} (hK : ∀ (x2 : Int32) (x3 : Int32) (σ : Sg), Okk G l cX6_leaves 5 RX6 (some .int) (rmo 2 49) ccI 81 [none, some (.int x1), some (.int x2), some (.int x3), none] [] σ (K x2 x3 σ)) (hH : ∀ (x2 : Int32) (x3 : Int32) (x4 : Int32) (σ : Sg), Okk G l cX6_leaves 5 RX6 (some .int) (rmo 2 49) ccI 19 [some (k_rr G 0), some (.int x1), some (.int x2), some (.int x3), some (.int x4)] [] σ (H x2 x3 x4 σ)) (x2 : Int32) (x3 : Int32) (x4 : Int32)  (σ : Sg) : Okk G l cX6_leaves 5 RX6 (some .int) (rmo 2 49) ccI 19 [some (k_rr G 0), some (.int x1), some (.int x2), some (.int x3), some (.int x4)] [] σ (d_X6_leaves_19 x1 K H x2 x3 x4 σ) := by
  unfold d_X6_leaves_19
  refine ok_iload4 (dq_of td_X6_leaves 12 rfl) ?_
  refine ok_bipush (v := 32) (dq_of td_X6_leaves 13 rfl) (by decide) ?_
  refine ok_ic_ge (tgt := 81) (dq_of td_X6_leaves 14 rfl) (by decide) ?_ ?_
  · refine ok_wk (wk_n (wk_s (wk_s (wk_s (wk_n wk_0))))) ?_
    exact hK _ _ _
  · refine ok_aload0 (dq_of td_X6_leaves 15 rfl) ?_
    refine ok_get (v := k_rr G 1) fl_X6_10 (by decide) ko_0 rfl (dq_of td_X6_leaves 16 rfl) ?_
    refine ok_iload4 (dq_of td_X6_leaves 17 rfl) ?_
    refine call_X4_isLeague ml_X6_205 tw_1 ⟨Nat.le_of_ble_eq_true rfl, Nat.le_of_ble_eq_true rfl⟩ ⟨Nat.zero_le _, Nat.zero_le _⟩ (Nat.le_of_ble_eq_true rfl) (dq_of td_X6_leaves 18 rfl) (fun r4 σ3 => ?_)
    refine ok_if_eq (tgt := 75) (dq_of td_X6_leaves 19 rfl) (by decide) ?_ ?_
    · refine ok_jinc4 (w := 1) (dq_of td_X6_leaves 37 rfl) (by decide) rfl (by decide) ?_
      refine ok_goto (tgt := 19) (dq_of td_X6_leaves 38 rfl) (by decide) ?_
      refine ok_wk (wk_s (wk_s (wk_s (wk_s (wk_s wk_0))))) ?_
      exact hH _ _ _ _
    · refine ok_aload0 (dq_of td_X6_leaves 20 rfl) ?_
      refine ok_get (v := k_rr G 1) fl_X6_10 (by decide) ko_0 rfl (dq_of td_X6_leaves 21 rfl) ?_
      refine ok_iload4 (dq_of td_X6_leaves 22 rfl) ?_
      refine call_X4_worthOfLeague ml_X6_208 tw_1 ⟨Nat.le_of_ble_eq_true rfl, Nat.le_of_ble_eq_true rfl⟩ ⟨Nat.zero_le _, Nat.zero_le _⟩ (Nat.le_of_ble_eq_true rfl) (dq_of td_X6_leaves 23 rfl) (fun r6 σ5 => ?_)
      refine ok_aload0 (dq_of td_X6_leaves 24 rfl) ?_
      refine ok_get (v := k_rr G 1) fl_X6_10 (by decide) ko_0 rfl (dq_of td_X6_leaves 25 rfl) ?_
      refine ok_iload4 (dq_of td_X6_leaves 26 rfl) ?_
      refine call_X4_giftsOfLeague ml_X6_227 tw_1 ⟨Nat.le_of_ble_eq_true rfl, Nat.le_of_ble_eq_true rfl⟩ ⟨Nat.zero_le _, Nat.zero_le _⟩ (Nat.le_of_ble_eq_true rfl) (dq_of td_X6_leaves 27 rfl) (fun r8 σ7 => ?_)
      refine ok_ic_le (tgt := 75) (dq_of td_X6_leaves 28 rfl) (by decide) ?_ ?_
      · refine ok_jinc4 (w := 1) (dq_of td_X6_leaves 37 rfl) (by decide) rfl (by decide) ?_
        refine ok_goto (tgt := 19) (dq_of td_X6_leaves 38 rfl) (by decide) ?_
        refine ok_wk (wk_s (wk_s (wk_s (wk_s (wk_s wk_0))))) ?_
        exact hH _ _ _ _
      · refine ok_jinc2 (w := 1) (dq_of td_X6_leaves 29 rfl) (by decide) rfl (by decide) ?_
        refine ok_iload3 (dq_of td_X6_leaves 30 rfl) ?_
        refine ok_bipush (v := (-6)) (dq_of td_X6_leaves 31 rfl) (by decide) ?_
        refine ok_ic_ne (tgt := 73) (dq_of td_X6_leaves 32 rfl) (by decide) ?_ ?_
        · refine ok_iload3 (dq_of td_X6_leaves 35 rfl) ?_
          refine ok_wk (wk_s (wk_s (wk_s (wk_n (wk_s wk_0))))) ?_
          exact ob_X6_leaves_74 _  hK hH _ _ _  _
        · refine ok_iload4 (dq_of td_X6_leaves 33 rfl) ?_
          refine ok_goto (tgt := 74) (dq_of td_X6_leaves 34 rfl) (by decide) ?_
          refine ok_wk (wk_s (wk_s (wk_s (wk_n (wk_s wk_0))))) ?_
          exact ob_X6_leaves_74 _  hK hH _ _ _  _
theorem ld_X6_leaves_19 {G : KW} {l : Launch} (x1 : Int32)  {K : Int32 → Int32 → Sg → Option (Int32 × Sg)} (hK : ∀ (x2 : Int32) (x3 : Int32) (σ : Sg), Okk G l cX6_leaves 5 RX6 (some .int) (rmo 2 49) ccI 81 [none, some (.int x1), some (.int x2), some (.int x3), none] [] σ (K x2 x3 σ)) (n : Nat) (x2 : Int32) (x3 : Int32) (x4 : Int32) (σ : Sg) : Okk G l cX6_leaves 5 RX6 (some .int) (rmo 2 49) ccI 19 [some (k_rr G 0), some (.int x1), some (.int x2), some (.int x3), some (.int x4)] [] σ (e_lp3 (d_X6_leaves_19 x1 K) n x2 x3 x4 σ) :=
  ok_lp3 (Lf := fun (x2 : Int32) (x3 : Int32) (x4 : Int32) => [some (k_rr G 0), some (.int x1), some (.int x2), some (.int x3), some (.int x4)]) (fun _ hH x2 x3 x4 σ => od_X6_leaves_19 _  hK hH x2 x3 x4 σ) n x2 x3 x4 σ
def m_X6_leaves (x1 : Int32) (σ : Sg) : Option (Int32 × Sg) := e_cI (m_X6_within x1 1 σ) (fun r2 σ1 => (if r2 = 0 then some ((-2), σ1) else e_lp3 (d_X6_leaves_19 x1 (fun x2q9 x3q9 σ9 => (if x1 = 0 then some (x2q9, σ9) else some (x3q9, σ9)))) e_F 0 ((-6)) 1 σ1))
theorem om_X6_leaves {G : KW} {l : Launch} (x1 : Int32)  (σ : Sg) : Okk G l cX6_leaves 5 RX6 (some .int) (rmo 2 49) ccI 0 [some (k_rr G 0), some (.int x1), none, none, none] [] σ (m_X6_leaves x1 σ) := by
  unfold m_X6_leaves
  refine ok_iload1 (dq_of td_X6_leaves 0 rfl) ?_
  refine ok_iconst (v := 1) (dq_of td_X6_leaves 1 rfl) (by decide) ?_
  refine call_X6_within ml_X6_66  ⟨Nat.le_of_ble_eq_true rfl, Nat.le_of_ble_eq_true rfl⟩ ⟨Nat.zero_le _, Nat.zero_le _⟩ (Nat.le_of_ble_eq_true rfl) (dq_of td_X6_leaves 2 rfl) (fun r2 σ1 => ?_)
  refine ok_if_ne (tgt := 11) (dq_of td_X6_leaves 3 rfl) (by decide) ?_ ?_
  · refine ok_iconst (v := 0) (dq_of td_X6_leaves 6 rfl) (by decide) ?_
    refine ok_istore2 (dq_of td_X6_leaves 7 rfl) rfl (by decide) ?_
    refine ok_bipush (v := (-6)) (dq_of td_X6_leaves 8 rfl) (by decide) ?_
    refine ok_istore3 (dq_of td_X6_leaves 9 rfl) rfl (by decide) ?_
    refine ok_iconst (v := 1) (dq_of td_X6_leaves 10 rfl) (by decide) ?_
    refine ok_istore4 (dq_of td_X6_leaves 11 rfl) rfl (by decide) ?_
    refine ok_wk (wk_s (wk_s (wk_s (wk_s (wk_s wk_0))))) ?_
    refine ld_X6_leaves_19 _  (fun x2q9 x3q9 σ9 => ?_) _ _ _ _ _
    refine ok_iload1 (dq_of td_X6_leaves 39 rfl) ?_
    refine ok_if_ne (tgt := 89) (dq_of td_X6_leaves 40 rfl) (by decide) ?_ ?_
    · refine ok_iload3 (dq_of td_X6_leaves 43 rfl) ?_
      exact ok_iret (dq_of td_X6_leaves 44 rfl)
    · refine ok_iload2 (dq_of td_X6_leaves 41 rfl) ?_
      refine ok_goto (tgt := 90) (dq_of td_X6_leaves 42 rfl) (by decide) ?_
      exact ok_iret (dq_of td_X6_leaves 44 rfl)
  · refine ok_bipush (v := (-2)) (dq_of td_X6_leaves 4 rfl) (by decide) ?_
    exact ok_iret (dq_of td_X6_leaves 5 rfl)
theorem ct_X6_leaves {G : KW} {l : Launch} (x1 : Int32)  (σ : Sg) : ∀ b, m_X6_leaves x1 σ = some b → MetF G l yX6_leaves cX6_leaves 5 (some .int) 2 49 [k_rr G 0, .int x1] (k_wl G σ) (ccI b).1 (k_wl G (ccI b).2) :=
  met_of (by decide) (Nat.le_of_ble_eq_true rfl) rfl (om_X6_leaves _  σ)
theorem call_X6_leaves {G : KW} {l : Launch} {cc : ByteArray} {nL : Nat} {own : String} {rt : Option FieldType} {R : Room} {α : Type} {X : State → Array Value → Method → Prop} {Z : α → List Frame → Array Value → State → State → Prop} {k0 n0 pc index : Nat} {L : List (Option Value)} {S : List Value} {σ : Sg} {F : Int32 → Sg → Option α} {x1 : Int32} (lk : MLk own index yX6_leaves)  (hR : R.frames ≥ 2 + 1 ∧ R.locals ≥ 8 + (5 + 11) + 49) (hcs : k0 ≤ R.cells ∧ n0 ≤ R.slots) (hro : (S.map fun v => v.category).sum ≤ 8) (d : decode cc pc = .ok (.invokevirtual index, 3)) (kk : ∀ (r : Int32) (σ' : Sg), Okg G l cc nL own rt R X Z k0 n0 (pc + 3) L (.int r :: S) σ' (F r σ')) : Okg G l cc nL own rt R X Z k0 n0 pc L (.int x1 :: k_rr G 0 :: S) σ (e_cI (m_X6_leaves x1 σ) F) :=
  ok_cV (cb := ccI) (As := [.int x1]) (ct_X6_leaves _  σ) mo_X6_leaves hi_X6_leaves lk rfl (ci := 6) rfl rfl (by decide) ko_0 hR rfl hcs hro d (fun b => kk b.1 b.2)
/-! CoatDinner.sureWinner()I -/
def b_X6_sureWinner_55  (K : Int32 → Sg → Option (Int32 × Sg)) (H : Int32 → Int32 → Sg → Option (Int32 × Sg)) (x2 : Int32) (x3 : Int32) (σ : Sg) : Option (Int32 × Sg) := e_cV (m_X5_goOn σ) (fun σ4 => H x3 (x2 + 1) σ4)
def d_X6_sureWinner_16  (K : Int32 → Sg → Option (Int32 × Sg)) (H : Int32 → Int32 → Sg → Option (Int32 × Sg)) (x1 : Int32) (x2 : Int32) (σ : Sg) : Option (Int32 × Sg) := (if 7776 ≤ x2 then K x1 σ else (if (σ 65 4) = 0 then K x1 σ else e_cI (m_X5_winner σ) (fun r3 σ2 => (if x1 = ((-6)) then b_X6_sureWinner_55  K H x2 r3 σ2 else (if x1 = r3 then b_X6_sureWinner_55  K H x2 r3 σ2 else some ((-6), σ2))))))
theorem ob_X6_sureWinner_55 {G : KW} {l : Launch}   {K : Int32 → Sg → Option (Int32 × Sg)} {H : Int32 → Int32 → Sg → Option (Int32 × Sg)} (hK : ∀ (x1 : Int32) (σ : Sg), Okk G l cX6_sureWinner 4 RX6 (some .int) (rmo 4 88) ccI 70 [none, some (.int x1), none, none] [] σ (K x1 σ)) (hH : ∀ (x1 : Int32) (x2 : Int32) (σ : Sg), Okk G l cX6_sureWinner 4 RX6 (some .int) (rmo 4 88) ccI 16 [some (k_rr G 0), some (.int x1), some (.int x2), none] [] σ (H x1 x2 σ)) (x2 : Int32) (x3 : Int32)  (σ : Sg) : Okk G l cX6_sureWinner 4 RX6 (some .int) (rmo 4 88) ccI 55 [some (k_rr G 0), none, some (.int x2), some (.int x3)] [] σ (b_X6_sureWinner_55  K H x2 x3 σ) := by
  unfold b_X6_sureWinner_55
  refine ok_iload3 (dq_of td_X6_sureWinner 28 rfl) ?_
  refine ok_istore1 (dq_of td_X6_sureWinner 29 rfl) rfl (by decide) ?_
  refine ok_aload0 (dq_of td_X6_sureWinner 30 rfl) ?_
  refine ok_get (v := k_rr G 65) fl_X6_55 (by decide) ko_0 rfl (dq_of td_X6_sureWinner 31 rfl) ?_
  refine call_X5_goOn ml_X6_176  ⟨Nat.le_of_ble_eq_true rfl, Nat.le_of_ble_eq_true rfl⟩ ⟨Nat.zero_le _, Nat.zero_le _⟩ (Nat.le_of_ble_eq_true rfl) (dq_of td_X6_sureWinner 32 rfl) (fun σ4 => ?_)
  refine ok_jinc2 (w := 1) (dq_of td_X6_sureWinner 33 rfl) (by decide) rfl (by decide) ?_
  refine ok_goto (tgt := 16) (dq_of td_X6_sureWinner 34 rfl) (by decide) ?_
  refine ok_wk (wk_s (wk_s (wk_s (wk_n wk_0)))) ?_
  exact hH _ _ _
theorem od_X6_sureWinner_16 {G : KW} {l : Launch}   {K : Int32 → Sg → Option (Int32 × Sg)} {H : Int32 → Int32 → Sg → Option (Int32 × Sg)} (hK : ∀ (x1 : Int32) (σ : Sg), Okk G l cX6_sureWinner 4 RX6 (some .int) (rmo 4 88) ccI 70 [none, some (.int x1), none, none] [] σ (K x1 σ)) (hH : ∀ (x1 : Int32) (x2 : Int32) (σ : Sg), Okk G l cX6_sureWinner 4 RX6 (some .int) (rmo 4 88) ccI 16 [some (k_rr G 0), some (.int x1), some (.int x2), none] [] σ (H x1 x2 σ)) (x1 : Int32) (x2 : Int32)  (σ : Sg) : Okk G l cX6_sureWinner 4 RX6 (some .int) (rmo 4 88) ccI 16 [some (k_rr G 0), some (.int x1), some (.int x2), none] [] σ (d_X6_sureWinner_16  K H x1 x2 σ) := by
  unfold d_X6_sureWinner_16
  refine ok_iload2 (dq_of td_X6_sureWinner 9 rfl) ?_
  refine ok_sipush (v := 7776) (dq_of td_X6_sureWinner 10 rfl) (by decide) ?_
  refine ok_ic_ge (tgt := 70) (dq_of td_X6_sureWinner 11 rfl) (by decide) ?_ ?_
  · refine ok_wk (wk_n (wk_s (wk_n (wk_n wk_0)))) ?_
    exact hK _ _
  · refine ok_aload0 (dq_of td_X6_sureWinner 12 rfl) ?_
    refine ok_get (v := k_rr G 65) fl_X6_55 (by decide) ko_0 rfl (dq_of td_X6_sureWinner 13 rfl) ?_
    refine ok_get (v := .int (σ 65 4)) fl_X6_171 (by decide) ko_65 rfl (dq_of td_X6_sureWinner 14 rfl) ?_
    refine ok_if_eq (tgt := 70) (dq_of td_X6_sureWinner 15 rfl) (by decide) ?_ ?_
    · refine ok_wk (wk_n (wk_s (wk_n (wk_n wk_0)))) ?_
      exact hK _ _
    · refine ok_aload0 (dq_of td_X6_sureWinner 16 rfl) ?_
      refine ok_get (v := k_rr G 65) fl_X6_55 (by decide) ko_0 rfl (dq_of td_X6_sureWinner 17 rfl) ?_
      refine call_X5_winner ml_X6_303  ⟨Nat.le_of_ble_eq_true rfl, Nat.le_of_ble_eq_true rfl⟩ ⟨Nat.zero_le _, Nat.zero_le _⟩ (Nat.le_of_ble_eq_true rfl) (dq_of td_X6_sureWinner 18 rfl) (fun r3 σ2 => ?_)
      refine ok_istore3 (dq_of td_X6_sureWinner 19 rfl) rfl (by decide) ?_
      refine ok_iload1 (dq_of td_X6_sureWinner 20 rfl) ?_
      refine ok_bipush (v := (-6)) (dq_of td_X6_sureWinner 21 rfl) (by decide) ?_
      refine ok_ic_eq (tgt := 55) (dq_of td_X6_sureWinner 22 rfl) (by decide) ?_ ?_
      · refine ok_wk (wk_s (wk_n (wk_s (wk_s wk_0)))) ?_
        exact ob_X6_sureWinner_55   hK hH _ _  _
      · refine ok_iload1 (dq_of td_X6_sureWinner 23 rfl) ?_
        refine ok_iload3 (dq_of td_X6_sureWinner 24 rfl) ?_
        refine ok_ic_eq (tgt := 55) (dq_of td_X6_sureWinner 25 rfl) (by decide) ?_ ?_
        · refine ok_wk (wk_s (wk_n (wk_s (wk_s wk_0)))) ?_
          exact ob_X6_sureWinner_55   hK hH _ _  _
        · refine ok_bipush (v := (-6)) (dq_of td_X6_sureWinner 26 rfl) (by decide) ?_
          exact ok_iret (dq_of td_X6_sureWinner 27 rfl)
theorem ld_X6_sureWinner_16 {G : KW} {l : Launch}   {K : Int32 → Sg → Option (Int32 × Sg)} (hK : ∀ (x1 : Int32) (σ : Sg), Okk G l cX6_sureWinner 4 RX6 (some .int) (rmo 4 88) ccI 70 [none, some (.int x1), none, none] [] σ (K x1 σ)) (n : Nat) (x1 : Int32) (x2 : Int32) (σ : Sg) : Okk G l cX6_sureWinner 4 RX6 (some .int) (rmo 4 88) ccI 16 [some (k_rr G 0), some (.int x1), some (.int x2), none] [] σ (e_lp2 (d_X6_sureWinner_16  K) n x1 x2 σ) :=
  ok_lp2 (Lf := fun (x1 : Int32) (x2 : Int32) => [some (k_rr G 0), some (.int x1), some (.int x2), none]) (fun _ hH x1 x2 σ => od_X6_sureWinner_16   hK hH x1 x2 σ) n x1 x2 σ
def m_X6_sureWinner  (σ : Sg) : Option (Int32 × Sg) := e_cV (m_X5_begin 1 σ) (fun σ1 => e_lp2 (d_X6_sureWinner_16  (fun x1q5 σ5 => some (x1q5, σ5))) e_F ((-6)) 0 σ1)
theorem om_X6_sureWinner {G : KW} {l : Launch}   (σ : Sg) : Okk G l cX6_sureWinner 4 RX6 (some .int) (rmo 4 88) ccI 0 [some (k_rr G 0), none, none, none] [] σ (m_X6_sureWinner  σ) := by
  unfold m_X6_sureWinner
  refine ok_bipush (v := (-6)) (dq_of td_X6_sureWinner 0 rfl) (by decide) ?_
  refine ok_istore1 (dq_of td_X6_sureWinner 1 rfl) rfl (by decide) ?_
  refine ok_aload0 (dq_of td_X6_sureWinner 2 rfl) ?_
  refine ok_get (v := k_rr G 65) fl_X6_55 (by decide) ko_0 rfl (dq_of td_X6_sureWinner 3 rfl) ?_
  refine ok_aload0 (dq_of td_X6_sureWinner 4 rfl) ?_
  refine ok_get (v := k_rr G 1) fl_X6_10 (by decide) ko_0 rfl (dq_of td_X6_sureWinner 5 rfl) ?_
  refine call_X5_begin ml_X6_168 tw_1 ⟨Nat.le_of_ble_eq_true rfl, Nat.le_of_ble_eq_true rfl⟩ ⟨Nat.zero_le _, Nat.zero_le _⟩ (Nat.le_of_ble_eq_true rfl) (dq_of td_X6_sureWinner 6 rfl) (fun σ1 => ?_)
  refine ok_iconst (v := 0) (dq_of td_X6_sureWinner 7 rfl) (by decide) ?_
  refine ok_istore2 (dq_of td_X6_sureWinner 8 rfl) rfl (by decide) ?_
  refine ok_wk (wk_s (wk_s (wk_s (wk_n wk_0)))) ?_
  refine ld_X6_sureWinner_16   (fun x1q5 σ5 => ?_) _ _ _ _
  refine ok_iload1 (dq_of td_X6_sureWinner 35 rfl) ?_
  exact ok_iret (dq_of td_X6_sureWinner 36 rfl)
theorem ct_X6_sureWinner {G : KW} {l : Launch}   (σ : Sg) : ∀ b, m_X6_sureWinner  σ = some b → MetF G l yX6_sureWinner cX6_sureWinner 4 (some .int) 4 88 [k_rr G 0] (k_wl G σ) (ccI b).1 (k_wl G (ccI b).2) :=
  met_of (by decide) (Nat.le_of_ble_eq_true rfl) rfl (om_X6_sureWinner   σ)
theorem call_X6_sureWinner {G : KW} {l : Launch} {cc : ByteArray} {nL : Nat} {own : String} {rt : Option FieldType} {R : Room} {α : Type} {X : State → Array Value → Method → Prop} {Z : α → List Frame → Array Value → State → State → Prop} {k0 n0 pc index : Nat} {L : List (Option Value)} {S : List Value} {σ : Sg} {F : Int32 → Sg → Option α}  (lk : MLk own index yX6_sureWinner)  (hR : R.frames ≥ 4 + 1 ∧ R.locals ≥ 8 + (4 + 11) + 88) (hcs : k0 ≤ R.cells ∧ n0 ≤ R.slots) (hro : (S.map fun v => v.category).sum ≤ 8) (d : decode cc pc = .ok (.invokevirtual index, 3)) (kk : ∀ (r : Int32) (σ' : Sg), Okg G l cc nL own rt R X Z k0 n0 (pc + 3) L (.int r :: S) σ' (F r σ')) : Okg G l cc nL own rt R X Z k0 n0 pc L (k_rr G 0 :: S) σ (e_cI (m_X6_sureWinner  σ) F) :=
  ok_cV (cb := ccI) (As := []) (ct_X6_sureWinner   σ) mo_X6_sureWinner hi_X6_sureWinner lk rfl (ci := 6) rfl rfl (by decide) ko_0 hR rfl hcs hro d (fun b => kk b.1 b.2)
/-! CoatDinner.elected(I)I -/
def m_X6_elected (x1 : Int32) (σ : Sg) : Option (Int32 × Sg) := e_cI (m_X6_within x1 1 σ) (fun r2 σ1 => (if r2 = 0 then some ((-2), σ1) else (if x1 = 0 then e_cV (m_X3_lay 1 σ1) (fun σ5 => e_cI (m_X3_winner 1 σ5) (fun r7 σ6 => some (r7, σ6))) else e_cI (m_X6_sureWinner σ1) (fun r4 σ3 => some (r4, σ3)))))
theorem om_X6_elected {G : KW} {l : Launch} (x1 : Int32)  (σ : Sg) : Okk G l cX6_elected 2 RX6 (some .int) (rmo 5 111) ccI 0 [some (k_rr G 0), some (.int x1)] [] σ (m_X6_elected x1 σ) := by
  unfold m_X6_elected
  refine ok_iload1 (dq_of td_X6_elected 0 rfl) ?_
  refine ok_iconst (v := 1) (dq_of td_X6_elected 1 rfl) (by decide) ?_
  refine call_X6_within ml_X6_66  ⟨Nat.le_of_ble_eq_true rfl, Nat.le_of_ble_eq_true rfl⟩ ⟨Nat.zero_le _, Nat.zero_le _⟩ (Nat.le_of_ble_eq_true rfl) (dq_of td_X6_elected 2 rfl) (fun r2 σ1 => ?_)
  refine ok_if_ne (tgt := 11) (dq_of td_X6_elected 3 rfl) (by decide) ?_ ?_
  · refine ok_iload1 (dq_of td_X6_elected 6 rfl) ?_
    refine ok_if_ne (tgt := 38) (dq_of td_X6_elected 7 rfl) (by decide) ?_ ?_
    · refine ok_aload0 (dq_of td_X6_elected 19 rfl) ?_
      refine call_X6_sureWinner ml_X6_233  ⟨Nat.le_of_ble_eq_true rfl, Nat.le_of_ble_eq_true rfl⟩ ⟨Nat.zero_le _, Nat.zero_le _⟩ (Nat.le_of_ble_eq_true rfl) (dq_of td_X6_elected 20 rfl) (fun r4 σ3 => ?_)
      exact ok_iret (dq_of td_X6_elected 21 rfl)
    · refine ok_aload0 (dq_of td_X6_elected 8 rfl) ?_
      refine ok_get (v := k_rr G 60) fl_X6_39 (by decide) ko_0 rfl (dq_of td_X6_elected 9 rfl) ?_
      refine ok_aload0 (dq_of td_X6_elected 10 rfl) ?_
      refine ok_get (v := k_rr G 1) fl_X6_10 (by decide) ko_0 rfl (dq_of td_X6_elected 11 rfl) ?_
      refine call_X3_lay ml_X6_155 tw_1 ⟨Nat.le_of_ble_eq_true rfl, Nat.le_of_ble_eq_true rfl⟩ ⟨Nat.zero_le _, Nat.zero_le _⟩ (Nat.le_of_ble_eq_true rfl) (dq_of td_X6_elected 12 rfl) (fun σ5 => ?_)
      refine ok_aload0 (dq_of td_X6_elected 13 rfl) ?_
      refine ok_get (v := k_rr G 60) fl_X6_39 (by decide) ko_0 rfl (dq_of td_X6_elected 14 rfl) ?_
      refine ok_aload0 (dq_of td_X6_elected 15 rfl) ?_
      refine ok_get (v := k_rr G 1) fl_X6_10 (by decide) ko_0 rfl (dq_of td_X6_elected 16 rfl) ?_
      refine call_X3_winner ml_X6_230 tw_1 ⟨Nat.le_of_ble_eq_true rfl, Nat.le_of_ble_eq_true rfl⟩ ⟨Nat.zero_le _, Nat.zero_le _⟩ (Nat.le_of_ble_eq_true rfl) (dq_of td_X6_elected 17 rfl) (fun r7 σ6 => ?_)
      exact ok_iret (dq_of td_X6_elected 18 rfl)
  · refine ok_bipush (v := (-2)) (dq_of td_X6_elected 4 rfl) (by decide) ?_
    exact ok_iret (dq_of td_X6_elected 5 rfl)
theorem ct_X6_elected {G : KW} {l : Launch} (x1 : Int32)  (σ : Sg) : ∀ b, m_X6_elected x1 σ = some b → MetF G l yX6_elected cX6_elected 2 (some .int) 5 111 [k_rr G 0, .int x1] (k_wl G σ) (ccI b).1 (k_wl G (ccI b).2) :=
  met_of (by decide) (Nat.le_of_ble_eq_true rfl) rfl (om_X6_elected _  σ)
theorem call_X6_elected {G : KW} {l : Launch} {cc : ByteArray} {nL : Nat} {own : String} {rt : Option FieldType} {R : Room} {α : Type} {X : State → Array Value → Method → Prop} {Z : α → List Frame → Array Value → State → State → Prop} {k0 n0 pc index : Nat} {L : List (Option Value)} {S : List Value} {σ : Sg} {F : Int32 → Sg → Option α} {x1 : Int32} (lk : MLk own index yX6_elected)  (hR : R.frames ≥ 5 + 1 ∧ R.locals ≥ 8 + (2 + 11) + 111) (hcs : k0 ≤ R.cells ∧ n0 ≤ R.slots) (hro : (S.map fun v => v.category).sum ≤ 8) (d : decode cc pc = .ok (.invokevirtual index, 3)) (kk : ∀ (r : Int32) (σ' : Sg), Okg G l cc nL own rt R X Z k0 n0 (pc + 3) L (.int r :: S) σ' (F r σ')) : Okg G l cc nL own rt R X Z k0 n0 pc L (.int x1 :: k_rr G 0 :: S) σ (e_cI (m_X6_elected x1 σ) F) :=
  ok_cV (cb := ccI) (As := [.int x1]) (ct_X6_elected _  σ) mo_X6_elected hi_X6_elected lk rfl (ci := 6) rfl rfl (by decide) ko_0 hR rfl hcs hro d (fun b => kk b.1 b.2)
/-! CoatDinner.moths(III)J -/
def d_X6_moths_52 (x1 : Int32) (x2 : Int32) (x3 : Int32) (K : Int32 → Int64 → Int64 → Sg → Option (Int64 × Sg)) (H : Int32 → Int64 → Int64 → Int32 → Sg → Option (Int64 × Sg)) (x4 : Int32) (x5 : Int64) (x7 : Int64) (x9 : Int32) (σ : Sg) : Option (Int64 × Sg) := e_cI (m_J6_bitCount_0f7a4 x4 σ) (fun r10 σ9 => (if r10 ≤ x9 then K x4 x5 x7 σ9 else e_lt (x7 * 10) (fun v11 => H x4 x5 v11 (x9 + 1) σ9)))
def d_X6_moths_79 (x1 : Int32) (x2 : Int32) (x3 : Int32) (K : Int64 → Int64 → Sg → Option (Int64 × Sg)) (H : Int32 → Int64 → Int64 → Int32 → Sg → Option (Int64 × Sg)) (x4 : Int32) (x5 : Int64) (x7 : Int64) (x9 : Int32) (σ : Sg) : Option (Int64 × Sg) := (if 32 ≤ x9 then K x5 x7 σ else (if (x9 &&& (x4 ^^^ ((-1)))) = 0 then e_cV (m_X4_become 15 1 σ) (fun σ13 => e_cV (m_X4_loseCoats 15 x9 σ13) (fun σ14 => e_cI (m_X6_seatIn 15 x1 σ14) (fun r16 σ15 => (if r16 = x2 then e_cJ (m_X4_chanceOf 1 x9 x4 σ15) (fun r18 σ17 => e_lt (x5 + r18) (fun v19 => H x4 v19 x7 (x9 + 1) σ17)) else H x4 x5 x7 (x9 + 1) σ15)))) else H x4 x5 x7 (x9 + 1) σ))
theorem od_X6_moths_52 {G : KW} {l : Launch} (x1 : Int32) (x2 : Int32) (x3 : Int32)  {K : Int32 → Int64 → Int64 → Sg → Option (Int64 × Sg)} {H : Int32 → Int64 → Int64 → Int32 → Sg → Option (Int64 × Sg)} (hK : ∀ (x4 : Int32) (x5 : Int64) (x7 : Int64) (σ : Sg), Okk G l cX6_moths 10 RX6 (some .long) (rmo 4 88) ccJ 76 [some (k_rr G 0), some (.int x1), some (.int x2), some (.int x3), some (.int x4), some (.long x5), none, some (.long x7), none, none] [] σ (K x4 x5 x7 σ)) (hH : ∀ (x4 : Int32) (x5 : Int64) (x7 : Int64) (x9 : Int32) (σ : Sg), Okk G l cX6_moths 10 RX6 (some .long) (rmo 4 88) ccJ 52 [some (k_rr G 0), some (.int x1), some (.int x2), some (.int x3), some (.int x4), some (.long x5), none, some (.long x7), none, some (.int x9)] [] σ (H x4 x5 x7 x9 σ)) (x4 : Int32) (x5 : Int64) (x7 : Int64) (x9 : Int32)  (σ : Sg) : Okk G l cX6_moths 10 RX6 (some .long) (rmo 4 88) ccJ 52 [some (k_rr G 0), some (.int x1), some (.int x2), some (.int x3), some (.int x4), some (.long x5), none, some (.long x7), none, some (.int x9)] [] σ (d_X6_moths_52 x1 x2 x3 K H x4 x5 x7 x9 σ) := by
  unfold d_X6_moths_52
  refine ok_iload9 (dq_of td_X6_moths 26 rfl) ?_
  refine ok_iload4 (dq_of td_X6_moths 27 rfl) ?_
  refine call_J6_bitCount_0f7a4 ml_X6_82  ⟨Nat.le_of_ble_eq_true rfl, Nat.le_of_ble_eq_true rfl⟩ ⟨Nat.zero_le _, Nat.zero_le _⟩ (Nat.le_of_ble_eq_true rfl) (dq_of td_X6_moths 28 rfl) (fun r10 σ9 => ?_)
  refine ok_ic_ge (tgt := 76) (dq_of td_X6_moths 29 rfl) (by decide) ?_ ?_
  · refine ok_wk (wk_s (wk_s (wk_s (wk_s (wk_s (wk_s (wk_n (wk_s (wk_n (wk_n wk_0)))))))))) ?_
    exact hK _ _ _ _
  · refine ok_lload7 (dq_of td_X6_moths 30 rfl) ?_
    refine ok_ldc2 (v := 10) (dq_of td_X6_moths 31 rfl) kc_X6_239 ?_
    refine ok_lmul (dq_of td_X6_moths 32 rfl) ?_
    refine ok_gJ (fun v11 => ?_)
    refine ok_lstore7 (dq_of td_X6_moths 33 rfl) rfl (by decide) ?_
    refine ok_jinc9 (w := 1) (dq_of td_X6_moths 34 rfl) (by decide) rfl (by decide) ?_
    refine ok_goto (tgt := 52) (dq_of td_X6_moths 35 rfl) (by decide) ?_
    refine ok_wk (wk_s (wk_s (wk_s (wk_s (wk_s (wk_s (wk_n (wk_s (wk_n (wk_s wk_0)))))))))) ?_
    exact hH _ _ _ _ _
theorem ld_X6_moths_52 {G : KW} {l : Launch} (x1 : Int32) (x2 : Int32) (x3 : Int32)  {K : Int32 → Int64 → Int64 → Sg → Option (Int64 × Sg)} (hK : ∀ (x4 : Int32) (x5 : Int64) (x7 : Int64) (σ : Sg), Okk G l cX6_moths 10 RX6 (some .long) (rmo 4 88) ccJ 76 [some (k_rr G 0), some (.int x1), some (.int x2), some (.int x3), some (.int x4), some (.long x5), none, some (.long x7), none, none] [] σ (K x4 x5 x7 σ)) (n : Nat) (x4 : Int32) (x5 : Int64) (x7 : Int64) (x9 : Int32) (σ : Sg) : Okk G l cX6_moths 10 RX6 (some .long) (rmo 4 88) ccJ 52 [some (k_rr G 0), some (.int x1), some (.int x2), some (.int x3), some (.int x4), some (.long x5), none, some (.long x7), none, some (.int x9)] [] σ (e_lp4 (d_X6_moths_52 x1 x2 x3 K) n x4 x5 x7 x9 σ) :=
  ok_lp4 (Lf := fun (x4 : Int32) (x5 : Int64) (x7 : Int64) (x9 : Int32) => [some (k_rr G 0), some (.int x1), some (.int x2), some (.int x3), some (.int x4), some (.long x5), none, some (.long x7), none, some (.int x9)]) (fun _ hH x4 x5 x7 x9 σ => od_X6_moths_52 _ _ _  hK hH x4 x5 x7 x9 σ) n x4 x5 x7 x9 σ
theorem od_X6_moths_79 {G : KW} {l : Launch} (x1 : Int32) (x2 : Int32) (x3 : Int32)  {K : Int64 → Int64 → Sg → Option (Int64 × Sg)} {H : Int32 → Int64 → Int64 → Int32 → Sg → Option (Int64 × Sg)} (hK : ∀ (x5 : Int64) (x7 : Int64) (σ : Sg), Okk G l cX6_moths 10 RX6 (some .long) (rmo 4 88) ccJ 151 [none, none, none, some (.int x3), none, some (.long x5), none, some (.long x7), none, none] [] σ (K x5 x7 σ)) (hH : ∀ (x4 : Int32) (x5 : Int64) (x7 : Int64) (x9 : Int32) (σ : Sg), Okk G l cX6_moths 10 RX6 (some .long) (rmo 4 88) ccJ 79 [some (k_rr G 0), some (.int x1), some (.int x2), some (.int x3), some (.int x4), some (.long x5), none, some (.long x7), none, some (.int x9)] [] σ (H x4 x5 x7 x9 σ)) (x4 : Int32) (x5 : Int64) (x7 : Int64) (x9 : Int32)  (σ : Sg) : Okk G l cX6_moths 10 RX6 (some .long) (rmo 4 88) ccJ 79 [some (k_rr G 0), some (.int x1), some (.int x2), some (.int x3), some (.int x4), some (.long x5), none, some (.long x7), none, some (.int x9)] [] σ (d_X6_moths_79 x1 x2 x3 K H x4 x5 x7 x9 σ) := by
  unfold d_X6_moths_79
  refine ok_iload9 (dq_of td_X6_moths 38 rfl) ?_
  refine ok_bipush (v := 32) (dq_of td_X6_moths 39 rfl) (by decide) ?_
  refine ok_ic_ge (tgt := 151) (dq_of td_X6_moths 40 rfl) (by decide) ?_ ?_
  · refine ok_wk (wk_n (wk_n (wk_n (wk_s (wk_n (wk_s (wk_n (wk_s (wk_n (wk_n wk_0)))))))))) ?_
    exact hK _ _ _
  · refine ok_iload9 (dq_of td_X6_moths 41 rfl) ?_
    refine ok_iload4 (dq_of td_X6_moths 42 rfl) ?_
    refine ok_iconst (v := (-1)) (dq_of td_X6_moths 43 rfl) (by decide) ?_
    refine ok_ixor (dq_of td_X6_moths 44 rfl) ?_
    refine ok_iand (dq_of td_X6_moths 45 rfl) ?_
    refine ok_if_ne (tgt := 145) (dq_of td_X6_moths 46 rfl) (by decide) ?_ ?_
    · refine ok_jinc9 (w := 1) (dq_of td_X6_moths 71 rfl) (by decide) rfl (by decide) ?_
      refine ok_goto (tgt := 79) (dq_of td_X6_moths 72 rfl) (by decide) ?_
      refine ok_wk (wk_s (wk_s (wk_s (wk_s (wk_s (wk_s (wk_n (wk_s (wk_n (wk_s wk_0)))))))))) ?_
      exact hH _ _ _ _ _
    · refine ok_aload0 (dq_of td_X6_moths 47 rfl) ?_
      refine ok_get (v := k_rr G 15) fl_X6_16 (by decide) ko_0 rfl (dq_of td_X6_moths 48 rfl) ?_
      refine ok_aload0 (dq_of td_X6_moths 49 rfl) ?_
      refine ok_get (v := k_rr G 1) fl_X6_10 (by decide) ko_0 rfl (dq_of td_X6_moths 50 rfl) ?_
      refine call_X4_become ml_X6_147 tw_15 tw_1 ⟨Nat.le_of_ble_eq_true rfl, Nat.le_of_ble_eq_true rfl⟩ ⟨Nat.zero_le _, Nat.zero_le _⟩ (Nat.le_of_ble_eq_true rfl) (dq_of td_X6_moths 51 rfl) (fun σ13 => ?_)
      refine ok_aload0 (dq_of td_X6_moths 52 rfl) ?_
      refine ok_get (v := k_rr G 15) fl_X6_16 (by decide) ko_0 rfl (dq_of td_X6_moths 53 rfl) ?_
      refine ok_iload9 (dq_of td_X6_moths 54 rfl) ?_
      refine call_X4_loseCoats ml_X6_241 tw_15 ⟨Nat.le_of_ble_eq_true rfl, Nat.le_of_ble_eq_true rfl⟩ ⟨Nat.zero_le _, Nat.zero_le _⟩ (Nat.le_of_ble_eq_true rfl) (dq_of td_X6_moths 55 rfl) (fun σ14 => ?_)
      refine ok_aload0 (dq_of td_X6_moths 56 rfl) ?_
      refine ok_aload0 (dq_of td_X6_moths 57 rfl) ?_
      refine ok_get (v := k_rr G 15) fl_X6_16 (by decide) ko_0 rfl (dq_of td_X6_moths 58 rfl) ?_
      refine ok_iload1 (dq_of td_X6_moths 59 rfl) ?_
      refine call_X6_seatIn ml_X6_189 tw_15 ⟨Nat.le_of_ble_eq_true rfl, Nat.le_of_ble_eq_true rfl⟩ ⟨Nat.zero_le _, Nat.zero_le _⟩ (Nat.le_of_ble_eq_true rfl) (dq_of td_X6_moths 60 rfl) (fun r16 σ15 => ?_)
      refine ok_iload2 (dq_of td_X6_moths 61 rfl) ?_
      refine ok_ic_ne (tgt := 145) (dq_of td_X6_moths 62 rfl) (by decide) ?_ ?_
      · refine ok_jinc9 (w := 1) (dq_of td_X6_moths 71 rfl) (by decide) rfl (by decide) ?_
        refine ok_goto (tgt := 79) (dq_of td_X6_moths 72 rfl) (by decide) ?_
        refine ok_wk (wk_s (wk_s (wk_s (wk_s (wk_s (wk_s (wk_n (wk_s (wk_n (wk_s wk_0)))))))))) ?_
        exact hH _ _ _ _ _
      · refine ok_lload5 (dq_of td_X6_moths 63 rfl) ?_
        refine ok_aload0 (dq_of td_X6_moths 64 rfl) ?_
        refine ok_get (v := k_rr G 1) fl_X6_10 (by decide) ko_0 rfl (dq_of td_X6_moths 65 rfl) ?_
        refine ok_iload9 (dq_of td_X6_moths 66 rfl) ?_
        refine ok_iload4 (dq_of td_X6_moths 67 rfl) ?_
        refine call_X4_chanceOf ml_X6_244 tw_1 ⟨Nat.le_of_ble_eq_true rfl, Nat.le_of_ble_eq_true rfl⟩ ⟨Nat.zero_le _, Nat.zero_le _⟩ (Nat.le_of_ble_eq_true rfl) (dq_of td_X6_moths 68 rfl) (fun r18 σ17 => ?_)
        refine ok_ladd (dq_of td_X6_moths 69 rfl) ?_
        refine ok_gJ (fun v19 => ?_)
        refine ok_lstore5 (dq_of td_X6_moths 70 rfl) rfl (by decide) ?_
        refine ok_jinc9 (w := 1) (dq_of td_X6_moths 71 rfl) (by decide) rfl (by decide) ?_
        refine ok_goto (tgt := 79) (dq_of td_X6_moths 72 rfl) (by decide) ?_
        refine ok_wk (wk_s (wk_s (wk_s (wk_s (wk_s (wk_s (wk_n (wk_s (wk_n (wk_s wk_0)))))))))) ?_
        exact hH _ _ _ _ _
theorem ld_X6_moths_79 {G : KW} {l : Launch} (x1 : Int32) (x2 : Int32) (x3 : Int32)  {K : Int64 → Int64 → Sg → Option (Int64 × Sg)} (hK : ∀ (x5 : Int64) (x7 : Int64) (σ : Sg), Okk G l cX6_moths 10 RX6 (some .long) (rmo 4 88) ccJ 151 [none, none, none, some (.int x3), none, some (.long x5), none, some (.long x7), none, none] [] σ (K x5 x7 σ)) (n : Nat) (x4 : Int32) (x5 : Int64) (x7 : Int64) (x9 : Int32) (σ : Sg) : Okk G l cX6_moths 10 RX6 (some .long) (rmo 4 88) ccJ 79 [some (k_rr G 0), some (.int x1), some (.int x2), some (.int x3), some (.int x4), some (.long x5), none, some (.long x7), none, some (.int x9)] [] σ (e_lp4 (d_X6_moths_79 x1 x2 x3 K) n x4 x5 x7 x9 σ) :=
  ok_lp4 (Lf := fun (x4 : Int32) (x5 : Int64) (x7 : Int64) (x9 : Int32) => [some (k_rr G 0), some (.int x1), some (.int x2), some (.int x3), some (.int x4), some (.long x5), none, some (.long x7), none, some (.int x9)]) (fun _ hH x4 x5 x7 x9 σ => od_X6_moths_79 _ _ _  hK hH x4 x5 x7 x9 σ) n x4 x5 x7 x9 σ
def m_X6_moths (x1 : Int32) (x2 : Int32) (x3 : Int32) (σ : Sg) : Option (Int64 × Sg) := e_cI (m_X4_hasPerson 1 x1 σ) (fun r2 σ1 => (if r2 = 0 then some ((-1000000000000000001), σ1) else e_cI (m_X6_isSeat x2 σ1) (fun r4 σ3 => (if r4 = 0 then some ((-1000000000000000002), σ3) else e_cI (m_X6_within x3 1 σ3) (fun r6 σ5 => (if r6 = 0 then some ((-1000000000000000002), σ5) else e_cI (m_X4_wornCoats 1 σ5) (fun r8 σ7 => e_lp4 (d_X6_moths_52 x1 x2 x3 (fun x4q12 x5q12 x7q12 σ12 => e_lp4 (d_X6_moths_79 x1 x2 x3 (fun x5q20 x7q20 σ20 => e_cJ (m_X6_partOf x5q20 x7q20 x3 σ20) (fun r22 σ21 => some (r22, σ21)))) e_F x4q12 x5q12 x7q12 0 σ12)) e_F r8 0 1 0 σ7)))))))
theorem om_X6_moths {G : KW} {l : Launch} (x1 : Int32) (x2 : Int32) (x3 : Int32)  (σ : Sg) : Okk G l cX6_moths 10 RX6 (some .long) (rmo 4 88) ccJ 0 [some (k_rr G 0), some (.int x1), some (.int x2), some (.int x3), none, none, none, none, none, none] [] σ (m_X6_moths x1 x2 x3 σ) := by
  unfold m_X6_moths
  refine ok_aload0 (dq_of td_X6_moths 0 rfl) ?_
  refine ok_get (v := k_rr G 1) fl_X6_10 (by decide) ko_0 rfl (dq_of td_X6_moths 1 rfl) ?_
  refine ok_iload1 (dq_of td_X6_moths 2 rfl) ?_
  refine call_X4_hasPerson ml_X6_70 tw_1 ⟨Nat.le_of_ble_eq_true rfl, Nat.le_of_ble_eq_true rfl⟩ ⟨Nat.zero_le _, Nat.zero_le _⟩ (Nat.le_of_ble_eq_true rfl) (dq_of td_X6_moths 3 rfl) (fun r2 σ1 => ?_)
  refine ok_if_ne (tgt := 15) (dq_of td_X6_moths 4 rfl) (by decide) ?_ ?_
  · refine ok_iload2 (dq_of td_X6_moths 7 rfl) ?_
    refine call_X6_isSeat ml_X6_165  ⟨Nat.le_of_ble_eq_true rfl, Nat.le_of_ble_eq_true rfl⟩ ⟨Nat.zero_le _, Nat.zero_le _⟩ (Nat.le_of_ble_eq_true rfl) (dq_of td_X6_moths 8 rfl) (fun r4 σ3 => ?_)
    refine ok_if_eq (tgt := 30) (dq_of td_X6_moths 9 rfl) (by decide) ?_ ?_
    · refine ok_ldc2 (v := (-1000000000000000002)) (dq_of td_X6_moths 14 rfl) kc_X6_213 ?_
      exact ok_lret (dq_of td_X6_moths 15 rfl)
    · refine ok_iload3 (dq_of td_X6_moths 10 rfl) ?_
      refine ok_iconst (v := 1) (dq_of td_X6_moths 11 rfl) (by decide) ?_
      refine call_X6_within ml_X6_66  ⟨Nat.le_of_ble_eq_true rfl, Nat.le_of_ble_eq_true rfl⟩ ⟨Nat.zero_le _, Nat.zero_le _⟩ (Nat.le_of_ble_eq_true rfl) (dq_of td_X6_moths 12 rfl) (fun r6 σ5 => ?_)
      refine ok_if_ne (tgt := 34) (dq_of td_X6_moths 13 rfl) (by decide) ?_ ?_
      · refine ok_aload0 (dq_of td_X6_moths 16 rfl) ?_
        refine ok_get (v := k_rr G 1) fl_X6_10 (by decide) ko_0 rfl (dq_of td_X6_moths 17 rfl) ?_
        refine call_X4_wornCoats ml_X6_236 tw_1 ⟨Nat.le_of_ble_eq_true rfl, Nat.le_of_ble_eq_true rfl⟩ ⟨Nat.zero_le _, Nat.zero_le _⟩ (Nat.le_of_ble_eq_true rfl) (dq_of td_X6_moths 18 rfl) (fun r8 σ7 => ?_)
        refine ok_istore4 (dq_of td_X6_moths 19 rfl) rfl (by decide) ?_
        refine ok_lconst (v := 0) (dq_of td_X6_moths 20 rfl) (by decide) ?_
        refine ok_lstore5 (dq_of td_X6_moths 21 rfl) rfl (by decide) ?_
        refine ok_lconst (v := 1) (dq_of td_X6_moths 22 rfl) (by decide) ?_
        refine ok_lstore7 (dq_of td_X6_moths 23 rfl) rfl (by decide) ?_
        refine ok_iconst (v := 0) (dq_of td_X6_moths 24 rfl) (by decide) ?_
        refine ok_istore9 (dq_of td_X6_moths 25 rfl) rfl (by decide) ?_
        refine ok_wk (wk_s (wk_s (wk_s (wk_s (wk_s (wk_s (wk_n (wk_s (wk_n (wk_s wk_0)))))))))) ?_
        refine ld_X6_moths_52 _ _ _  (fun x4q12 x5q12 x7q12 σ12 => ?_) _ _ _ _ _ _
        refine ok_iconst (v := 0) (dq_of td_X6_moths 36 rfl) (by decide) ?_
        refine ok_istore9 (dq_of td_X6_moths 37 rfl) rfl (by decide) ?_
        refine ok_wk (wk_s (wk_s (wk_s (wk_s (wk_s (wk_s (wk_n (wk_s (wk_n (wk_s wk_0)))))))))) ?_
        refine ld_X6_moths_79 _ _ _  (fun x5q20 x7q20 σ20 => ?_) _ _ _ _ _ _
        refine ok_lload5 (dq_of td_X6_moths 73 rfl) ?_
        refine ok_lload7 (dq_of td_X6_moths 74 rfl) ?_
        refine ok_iload3 (dq_of td_X6_moths 75 rfl) ?_
        refine call_X6_partOf ml_X6_223  ⟨Nat.le_of_ble_eq_true rfl, Nat.le_of_ble_eq_true rfl⟩ ⟨Nat.zero_le _, Nat.zero_le _⟩ (Nat.le_of_ble_eq_true rfl) (dq_of td_X6_moths 76 rfl) (fun r22 σ21 => ?_)
        exact ok_lret (dq_of td_X6_moths 77 rfl)
      · refine ok_ldc2 (v := (-1000000000000000002)) (dq_of td_X6_moths 14 rfl) kc_X6_213 ?_
        exact ok_lret (dq_of td_X6_moths 15 rfl)
  · refine ok_ldc2 (v := (-1000000000000000001)) (dq_of td_X6_moths 5 rfl) kc_X6_211 ?_
    exact ok_lret (dq_of td_X6_moths 6 rfl)
theorem ct_X6_moths {G : KW} {l : Launch} (x1 : Int32) (x2 : Int32) (x3 : Int32)  (σ : Sg) : ∀ b, m_X6_moths x1 x2 x3 σ = some b → MetF G l yX6_moths cX6_moths 10 (some .long) 4 88 [k_rr G 0, .int x1, .int x2, .int x3] (k_wl G σ) (ccJ b).1 (k_wl G (ccJ b).2) :=
  met_of (by decide) (Nat.le_of_ble_eq_true rfl) rfl (om_X6_moths _ _ _  σ)
theorem call_X6_moths {G : KW} {l : Launch} {cc : ByteArray} {nL : Nat} {own : String} {rt : Option FieldType} {R : Room} {α : Type} {X : State → Array Value → Method → Prop} {Z : α → List Frame → Array Value → State → State → Prop} {k0 n0 pc index : Nat} {L : List (Option Value)} {S : List Value} {σ : Sg} {F : Int64 → Sg → Option α} {x1 : Int32} {x2 : Int32} {x3 : Int32} (lk : MLk own index yX6_moths)  (hR : R.frames ≥ 4 + 1 ∧ R.locals ≥ 8 + (10 + 11) + 88) (hcs : k0 ≤ R.cells ∧ n0 ≤ R.slots) (hro : (S.map fun v => v.category).sum ≤ 8) (d : decode cc pc = .ok (.invokevirtual index, 3)) (kk : ∀ (r : Int64) (σ' : Sg), Okg G l cc nL own rt R X Z k0 n0 (pc + 3) L (.long r :: S) σ' (F r σ')) : Okg G l cc nL own rt R X Z k0 n0 pc L (.int x3 :: .int x2 :: .int x1 :: k_rr G 0 :: S) σ (e_cJ (m_X6_moths x1 x2 x3 σ) F) :=
  ok_cV (cb := ccJ) (As := [.int x1, .int x2, .int x3]) (ct_X6_moths _ _ _  σ) mo_X6_moths hi_X6_moths lk rfl (ci := 6) rfl rfl (by decide) ko_0 hR rfl hcs hro d (fun b => kk b.1 b.2)
/-! CoatDinner.seen(II)I -/
def m_X6_seen (x1 : Int32) (x2 : Int32) (σ : Sg) : Option (Int32 × Sg) := e_cI (m_X6_within x1 4 σ) (fun r2 σ1 => (if r2 = 0 then some ((-1), σ1) else e_cI (m_X6_isSeat x2 σ1) (fun r4 σ3 => (if r4 = 0 then some ((-2), σ3) else e_cI (m_X4_addSight 1 x1 x2 σ3) (fun r6 σ5 => (if r6 = 0 then some ((-4), σ5) else some (σ5 1 3, σ5)))))))
theorem om_X6_seen {G : KW} {l : Launch} (x1 : Int32) (x2 : Int32)  (σ : Sg) : Okk G l cX6_seen 3 RX6 (some .int) (rmo 2 43) ccI 0 [some (k_rr G 0), some (.int x1), some (.int x2)] [] σ (m_X6_seen x1 x2 σ) := by
  unfold m_X6_seen
  refine ok_iload1 (dq_of td_X6_seen 0 rfl) ?_
  refine ok_iconst (v := 4) (dq_of td_X6_seen 1 rfl) (by decide) ?_
  refine call_X6_within ml_X6_66  ⟨Nat.le_of_ble_eq_true rfl, Nat.le_of_ble_eq_true rfl⟩ ⟨Nat.zero_le _, Nat.zero_le _⟩ (Nat.le_of_ble_eq_true rfl) (dq_of td_X6_seen 2 rfl) (fun r2 σ1 => ?_)
  refine ok_if_ne (tgt := 10) (dq_of td_X6_seen 3 rfl) (by decide) ?_ ?_
  · refine ok_iload2 (dq_of td_X6_seen 6 rfl) ?_
    refine call_X6_isSeat ml_X6_165  ⟨Nat.le_of_ble_eq_true rfl, Nat.le_of_ble_eq_true rfl⟩ ⟨Nat.zero_le _, Nat.zero_le _⟩ (Nat.le_of_ble_eq_true rfl) (dq_of td_X6_seen 7 rfl) (fun r4 σ3 => ?_)
    refine ok_if_ne (tgt := 20) (dq_of td_X6_seen 8 rfl) (by decide) ?_ ?_
    · refine ok_aload0 (dq_of td_X6_seen 11 rfl) ?_
      refine ok_get (v := k_rr G 1) fl_X6_10 (by decide) ko_0 rfl (dq_of td_X6_seen 12 rfl) ?_
      refine ok_iload1 (dq_of td_X6_seen 13 rfl) ?_
      refine ok_iload2 (dq_of td_X6_seen 14 rfl) ?_
      refine call_X4_addSight ml_X6_247 tw_1 ⟨Nat.le_of_ble_eq_true rfl, Nat.le_of_ble_eq_true rfl⟩ ⟨Nat.zero_le _, Nat.zero_le _⟩ (Nat.le_of_ble_eq_true rfl) (dq_of td_X6_seen 15 rfl) (fun r6 σ5 => ?_)
      refine ok_if_eq (tgt := 42) (dq_of td_X6_seen 16 rfl) (by decide) ?_ ?_
      · refine ok_bipush (v := (-4)) (dq_of td_X6_seen 21 rfl) (by decide) ?_
        exact ok_iret (dq_of td_X6_seen 22 rfl)
      · refine ok_aload0 (dq_of td_X6_seen 17 rfl) ?_
        refine ok_get (v := k_rr G 1) fl_X6_10 (by decide) ko_0 rfl (dq_of td_X6_seen 18 rfl) ?_
        refine ok_get (v := .int (σ5 1 3)) fl_X6_250 (by decide) (isT_kd tw_1) rfl (dq_of td_X6_seen 19 rfl) ?_
        refine ok_goto (tgt := 44) (dq_of td_X6_seen 20 rfl) (by decide) ?_
        exact ok_iret (dq_of td_X6_seen 22 rfl)
    · refine ok_bipush (v := (-2)) (dq_of td_X6_seen 9 rfl) (by decide) ?_
      exact ok_iret (dq_of td_X6_seen 10 rfl)
  · refine ok_iconst (v := (-1)) (dq_of td_X6_seen 4 rfl) (by decide) ?_
    exact ok_iret (dq_of td_X6_seen 5 rfl)
theorem ct_X6_seen {G : KW} {l : Launch} (x1 : Int32) (x2 : Int32)  (σ : Sg) : ∀ b, m_X6_seen x1 x2 σ = some b → MetF G l yX6_seen cX6_seen 3 (some .int) 2 43 [k_rr G 0, .int x1, .int x2] (k_wl G σ) (ccI b).1 (k_wl G (ccI b).2) :=
  met_of (by decide) (Nat.le_of_ble_eq_true rfl) rfl (om_X6_seen _ _  σ)
theorem call_X6_seen {G : KW} {l : Launch} {cc : ByteArray} {nL : Nat} {own : String} {rt : Option FieldType} {R : Room} {α : Type} {X : State → Array Value → Method → Prop} {Z : α → List Frame → Array Value → State → State → Prop} {k0 n0 pc index : Nat} {L : List (Option Value)} {S : List Value} {σ : Sg} {F : Int32 → Sg → Option α} {x1 : Int32} {x2 : Int32} (lk : MLk own index yX6_seen)  (hR : R.frames ≥ 2 + 1 ∧ R.locals ≥ 8 + (3 + 11) + 43) (hcs : k0 ≤ R.cells ∧ n0 ≤ R.slots) (hro : (S.map fun v => v.category).sum ≤ 8) (d : decode cc pc = .ok (.invokevirtual index, 3)) (kk : ∀ (r : Int32) (σ' : Sg), Okg G l cc nL own rt R X Z k0 n0 (pc + 3) L (.int r :: S) σ' (F r σ')) : Okg G l cc nL own rt R X Z k0 n0 pc L (.int x2 :: .int x1 :: k_rr G 0 :: S) σ (e_cI (m_X6_seen x1 x2 σ) F) :=
  ok_cV (cb := ccI) (As := [.int x1, .int x2]) (ct_X6_seen _ _  σ) mo_X6_seen hi_X6_seen lk rfl (ci := 6) rfl rfl (by decide) ko_0 hR rfl hcs hro d (fun b => kk b.1 b.2)
/-! CoatDinner.forget()I -/
def m_X6_forget  (σ : Sg) : Option (Int32 × Sg) := e_lt (σ 1 3) (fun v1 => e_lt (k_up σ 1 3 0) (fun σ2 => some (v1, σ2)))
theorem om_X6_forget {G : KW} {l : Launch}   (σ : Sg) : Okk G l cX6_forget 2 RX6 (some .int) (rmo 0 0) ccI 0 [some (k_rr G 0), none] [] σ (m_X6_forget  σ) := by
  unfold m_X6_forget
  refine ok_aload0 (dq_of td_X6_forget 0 rfl) ?_
  refine ok_get (v := k_rr G 1) fl_X6_10 (by decide) ko_0 rfl (dq_of td_X6_forget 1 rfl) ?_
  refine ok_get (v := .int (σ 1 3)) fl_X6_250 (by decide) (isT_kd tw_1) rfl (dq_of td_X6_forget 2 rfl) ?_
  refine ok_gI (fun v1 => ?_)
  refine ok_istore1 (dq_of td_X6_forget 3 rfl) rfl (by decide) ?_
  refine ok_aload0 (dq_of td_X6_forget 4 rfl) ?_
  refine ok_get (v := k_rr G 1) fl_X6_10 (by decide) ko_0 rfl (dq_of td_X6_forget 5 rfl) ?_
  refine ok_iconst (v := 0) (dq_of td_X6_forget 6 rfl) (by decide) ?_
  refine put_4_3 fl_X6_250 (isT_kd tw_1) (dq_of td_X6_forget 7 rfl) (fun σ2 => ?_)
  refine ok_iload1 (dq_of td_X6_forget 8 rfl) ?_
  exact ok_iret (dq_of td_X6_forget 9 rfl)
theorem ct_X6_forget {G : KW} {l : Launch}   (σ : Sg) : ∀ b, m_X6_forget  σ = some b → MetF G l yX6_forget cX6_forget 2 (some .int) 0 0 [k_rr G 0] (k_wl G σ) (ccI b).1 (k_wl G (ccI b).2) :=
  met_of (by decide) (Nat.le_of_ble_eq_true rfl) rfl (om_X6_forget   σ)
theorem call_X6_forget {G : KW} {l : Launch} {cc : ByteArray} {nL : Nat} {own : String} {rt : Option FieldType} {R : Room} {α : Type} {X : State → Array Value → Method → Prop} {Z : α → List Frame → Array Value → State → State → Prop} {k0 n0 pc index : Nat} {L : List (Option Value)} {S : List Value} {σ : Sg} {F : Int32 → Sg → Option α}  (lk : MLk own index yX6_forget)  (hR : R.frames ≥ 0 + 1 ∧ R.locals ≥ 8 + (2 + 11) + 0) (hcs : k0 ≤ R.cells ∧ n0 ≤ R.slots) (hro : (S.map fun v => v.category).sum ≤ 8) (d : decode cc pc = .ok (.invokevirtual index, 3)) (kk : ∀ (r : Int32) (σ' : Sg), Okg G l cc nL own rt R X Z k0 n0 (pc + 3) L (.int r :: S) σ' (F r σ')) : Okg G l cc nL own rt R X Z k0 n0 pc L (k_rr G 0 :: S) σ (e_cI (m_X6_forget  σ) F) :=
  ok_cV (cb := ccI) (As := []) (ct_X6_forget   σ) mo_X6_forget hi_X6_forget lk rfl (ci := 6) rfl rfl (by decide) ko_0 hR rfl hcs hro d (fun b => kk b.1 b.2)
/-! CoatDinner.fit(I)I -/
def b_X6_fit_78 (x1 : Int32) (K : Int32 → Int32 → Sg → Option (Int32 × Sg)) (H : Int32 → Int32 → Int32 → Sg → Option (Int32 × Sg)) (x2 : Int32) (x3 : Int32) (x4 : Int32) (σ : Sg) : Option (Int32 × Sg) := e_cV (m_X5_goOn σ) (fun σ4 => H x2 x3 (x4 + 1) σ4)
def d_X6_fit_36 (x1 : Int32) (K : Int32 → Int32 → Sg → Option (Int32 × Sg)) (H : Int32 → Int32 → Int32 → Sg → Option (Int32 × Sg)) (x2 : Int32) (x3 : Int32) (x4 : Int32) (σ : Sg) : Option (Int32 × Sg) := (if 7776 ≤ x4 then K x2 x3 σ else (if (σ 65 4) = 0 then K x2 x3 σ else e_cI (m_X5_sightsHold σ) (fun r3 σ2 => (if r3 = 0 then b_X6_fit_78 x1 K H x2 x3 x4 σ2 else e_cI (m_X5_wearersOf x1 σ2) (fun r6 σ5 => e_lt (x3 ||| r6) (fun v7 => b_X6_fit_78 x1 K H (x2 + 1) v7 x4 σ5))))))
def b_X6_fit_91 (x1 : Int32) (x2 : Int32) (x3 : Int32) (σ : Sg) : Option (Int32 × Sg) := (if x1 = ((-1)) then some (x2, σ) else some (x3, σ))
def b_X6_fit_18 (x1 : Int32)  (σ : Sg) : Option (Int32 × Sg) := e_cV (m_X5_begin 1 σ) (fun σ1 => e_lp3 (d_X6_fit_36 x1 (fun x2q8 x3q8 σ8 => b_X6_fit_91 x1 x2q8 x3q8 σ8)) e_F 0 0 0 σ1)
theorem ob_X6_fit_78 {G : KW} {l : Launch} (x1 : Int32)  {K : Int32 → Int32 → Sg → Option (Int32 × Sg)} {H : Int32 → Int32 → Int32 → Sg → Option (Int32 × Sg)} (hK : ∀ (x2 : Int32) (x3 : Int32) (σ : Sg), Okk G l cX6_fit 5 RX6 (some .int) (rmo 4 88) ccI 91 [none, some (.int x1), some (.int x2), some (.int x3), none] [] σ (K x2 x3 σ)) (hH : ∀ (x2 : Int32) (x3 : Int32) (x4 : Int32) (σ : Sg), Okk G l cX6_fit 5 RX6 (some .int) (rmo 4 88) ccI 36 [some (k_rr G 0), some (.int x1), some (.int x2), some (.int x3), some (.int x4)] [] σ (H x2 x3 x4 σ)) (x2 : Int32) (x3 : Int32) (x4 : Int32)  (σ : Sg) : Okk G l cX6_fit 5 RX6 (some .int) (rmo 4 88) ccI 78 [some (k_rr G 0), some (.int x1), some (.int x2), some (.int x3), some (.int x4)] [] σ (b_X6_fit_78 x1 K H x2 x3 x4 σ) := by
  unfold b_X6_fit_78
  refine ok_aload0 (dq_of td_X6_fit 40 rfl) ?_
  refine ok_get (v := k_rr G 65) fl_X6_55 (by decide) ko_0 rfl (dq_of td_X6_fit 41 rfl) ?_
  refine call_X5_goOn ml_X6_176  ⟨Nat.le_of_ble_eq_true rfl, Nat.le_of_ble_eq_true rfl⟩ ⟨Nat.zero_le _, Nat.zero_le _⟩ (Nat.le_of_ble_eq_true rfl) (dq_of td_X6_fit 42 rfl) (fun σ4 => ?_)
  refine ok_jinc4 (w := 1) (dq_of td_X6_fit 43 rfl) (by decide) rfl (by decide) ?_
  refine ok_goto (tgt := 36) (dq_of td_X6_fit 44 rfl) (by decide) ?_
  refine ok_wk (wk_s (wk_s (wk_s (wk_s (wk_s wk_0))))) ?_
  exact hH _ _ _ _
theorem od_X6_fit_36 {G : KW} {l : Launch} (x1 : Int32)  {K : Int32 → Int32 → Sg → Option (Int32 × Sg)} {H : Int32 → Int32 → Int32 → Sg → Option (Int32 × Sg)} (hK : ∀ (x2 : Int32) (x3 : Int32) (σ : Sg), Okk G l cX6_fit 5 RX6 (some .int) (rmo 4 88) ccI 91 [none, some (.int x1), some (.int x2), some (.int x3), none] [] σ (K x2 x3 σ)) (hH : ∀ (x2 : Int32) (x3 : Int32) (x4 : Int32) (σ : Sg), Okk G l cX6_fit 5 RX6 (some .int) (rmo 4 88) ccI 36 [some (k_rr G 0), some (.int x1), some (.int x2), some (.int x3), some (.int x4)] [] σ (H x2 x3 x4 σ)) (x2 : Int32) (x3 : Int32) (x4 : Int32)  (σ : Sg) : Okk G l cX6_fit 5 RX6 (some .int) (rmo 4 88) ccI 36 [some (k_rr G 0), some (.int x1), some (.int x2), some (.int x3), some (.int x4)] [] σ (d_X6_fit_36 x1 K H x2 x3 x4 σ) := by
  unfold d_X6_fit_36
  refine ok_iload4 (dq_of td_X6_fit 21 rfl) ?_
  refine ok_sipush (v := 7776) (dq_of td_X6_fit 22 rfl) (by decide) ?_
  refine ok_ic_ge (tgt := 91) (dq_of td_X6_fit 23 rfl) (by decide) ?_ ?_
  · refine ok_wk (wk_n (wk_s (wk_s (wk_s (wk_n wk_0))))) ?_
    exact hK _ _ _
  · refine ok_aload0 (dq_of td_X6_fit 24 rfl) ?_
    refine ok_get (v := k_rr G 65) fl_X6_55 (by decide) ko_0 rfl (dq_of td_X6_fit 25 rfl) ?_
    refine ok_get (v := .int (σ 65 4)) fl_X6_171 (by decide) ko_65 rfl (dq_of td_X6_fit 26 rfl) ?_
    refine ok_if_eq (tgt := 91) (dq_of td_X6_fit 27 rfl) (by decide) ?_ ?_
    · refine ok_wk (wk_n (wk_s (wk_s (wk_s (wk_n wk_0))))) ?_
      exact hK _ _ _
    · refine ok_aload0 (dq_of td_X6_fit 28 rfl) ?_
      refine ok_get (v := k_rr G 65) fl_X6_55 (by decide) ko_0 rfl (dq_of td_X6_fit 29 rfl) ?_
      refine call_X5_sightsHold ml_X6_253  ⟨Nat.le_of_ble_eq_true rfl, Nat.le_of_ble_eq_true rfl⟩ ⟨Nat.zero_le _, Nat.zero_le _⟩ (Nat.le_of_ble_eq_true rfl) (dq_of td_X6_fit 30 rfl) (fun r3 σ2 => ?_)
      refine ok_if_eq (tgt := 78) (dq_of td_X6_fit 31 rfl) (by decide) ?_ ?_
      · refine ok_wk (wk_s (wk_s (wk_s (wk_s (wk_s wk_0))))) ?_
        exact ob_X6_fit_78 _  hK hH _ _ _  _
      · refine ok_jinc2 (w := 1) (dq_of td_X6_fit 32 rfl) (by decide) rfl (by decide) ?_
        refine ok_iload3 (dq_of td_X6_fit 33 rfl) ?_
        refine ok_aload0 (dq_of td_X6_fit 34 rfl) ?_
        refine ok_get (v := k_rr G 65) fl_X6_55 (by decide) ko_0 rfl (dq_of td_X6_fit 35 rfl) ?_
        refine ok_iload1 (dq_of td_X6_fit 36 rfl) ?_
        refine call_X5_wearersOf ml_X6_256  ⟨Nat.le_of_ble_eq_true rfl, Nat.le_of_ble_eq_true rfl⟩ ⟨Nat.zero_le _, Nat.zero_le _⟩ (Nat.le_of_ble_eq_true rfl) (dq_of td_X6_fit 37 rfl) (fun r6 σ5 => ?_)
        refine ok_ior (dq_of td_X6_fit 38 rfl) ?_
        refine ok_gI (fun v7 => ?_)
        refine ok_istore3 (dq_of td_X6_fit 39 rfl) rfl (by decide) ?_
        refine ok_wk (wk_s (wk_s (wk_s (wk_s (wk_s wk_0))))) ?_
        exact ob_X6_fit_78 _  hK hH _ _ _  _
theorem ld_X6_fit_36 {G : KW} {l : Launch} (x1 : Int32)  {K : Int32 → Int32 → Sg → Option (Int32 × Sg)} (hK : ∀ (x2 : Int32) (x3 : Int32) (σ : Sg), Okk G l cX6_fit 5 RX6 (some .int) (rmo 4 88) ccI 91 [none, some (.int x1), some (.int x2), some (.int x3), none] [] σ (K x2 x3 σ)) (n : Nat) (x2 : Int32) (x3 : Int32) (x4 : Int32) (σ : Sg) : Okk G l cX6_fit 5 RX6 (some .int) (rmo 4 88) ccI 36 [some (k_rr G 0), some (.int x1), some (.int x2), some (.int x3), some (.int x4)] [] σ (e_lp3 (d_X6_fit_36 x1 K) n x2 x3 x4 σ) :=
  ok_lp3 (Lf := fun (x2 : Int32) (x3 : Int32) (x4 : Int32) => [some (k_rr G 0), some (.int x1), some (.int x2), some (.int x3), some (.int x4)]) (fun _ hH x2 x3 x4 σ => od_X6_fit_36 _  hK hH x2 x3 x4 σ) n x2 x3 x4 σ
theorem ob_X6_fit_91 {G : KW} {l : Launch} (x1 : Int32)  (x2 : Int32) (x3 : Int32)  (σ : Sg) : Okk G l cX6_fit 5 RX6 (some .int) (rmo 4 88) ccI 91 [none, some (.int x1), some (.int x2), some (.int x3), none] [] σ (b_X6_fit_91 x1 x2 x3 σ) := by
  unfold b_X6_fit_91
  refine ok_iload1 (dq_of td_X6_fit 45 rfl) ?_
  refine ok_iconst (v := (-1)) (dq_of td_X6_fit 46 rfl) (by decide) ?_
  refine ok_ic_ne (tgt := 100) (dq_of td_X6_fit 47 rfl) (by decide) ?_ ?_
  · refine ok_iload3 (dq_of td_X6_fit 50 rfl) ?_
    exact ok_iret (dq_of td_X6_fit 51 rfl)
  · refine ok_iload2 (dq_of td_X6_fit 48 rfl) ?_
    refine ok_goto (tgt := 101) (dq_of td_X6_fit 49 rfl) (by decide) ?_
    exact ok_iret (dq_of td_X6_fit 51 rfl)
theorem ob_X6_fit_18 {G : KW} {l : Launch} (x1 : Int32)    (σ : Sg) : Okk G l cX6_fit 5 RX6 (some .int) (rmo 4 88) ccI 18 [some (k_rr G 0), some (.int x1), none, none, none] [] σ (b_X6_fit_18 x1  σ) := by
  unfold b_X6_fit_18
  refine ok_iconst (v := 0) (dq_of td_X6_fit 10 rfl) (by decide) ?_
  refine ok_istore2 (dq_of td_X6_fit 11 rfl) rfl (by decide) ?_
  refine ok_iconst (v := 0) (dq_of td_X6_fit 12 rfl) (by decide) ?_
  refine ok_istore3 (dq_of td_X6_fit 13 rfl) rfl (by decide) ?_
  refine ok_aload0 (dq_of td_X6_fit 14 rfl) ?_
  refine ok_get (v := k_rr G 65) fl_X6_55 (by decide) ko_0 rfl (dq_of td_X6_fit 15 rfl) ?_
  refine ok_aload0 (dq_of td_X6_fit 16 rfl) ?_
  refine ok_get (v := k_rr G 1) fl_X6_10 (by decide) ko_0 rfl (dq_of td_X6_fit 17 rfl) ?_
  refine call_X5_begin ml_X6_168 tw_1 ⟨Nat.le_of_ble_eq_true rfl, Nat.le_of_ble_eq_true rfl⟩ ⟨Nat.zero_le _, Nat.zero_le _⟩ (Nat.le_of_ble_eq_true rfl) (dq_of td_X6_fit 18 rfl) (fun σ1 => ?_)
  refine ok_iconst (v := 0) (dq_of td_X6_fit 19 rfl) (by decide) ?_
  refine ok_istore4 (dq_of td_X6_fit 20 rfl) rfl (by decide) ?_
  refine ok_wk (wk_s (wk_s (wk_s (wk_s (wk_s wk_0))))) ?_
  refine ld_X6_fit_36 _  (fun x2q8 x3q8 σ8 => ?_) _ _ _ _ _
  refine ok_wk (wk_n (wk_s (wk_s (wk_s (wk_n wk_0))))) ?_
  exact ob_X6_fit_91 _  _ _  _
def m_X6_fit (x1 : Int32) (σ : Sg) : Option (Int32 × Sg) := (if x1 = ((-1)) then b_X6_fit_18 x1 σ else e_cI (m_X4_hasCoat 1 x1 σ) (fun r10 σ9 => (if r10 = 0 then some ((-1), σ9) else b_X6_fit_18 x1 σ9)))
theorem om_X6_fit {G : KW} {l : Launch} (x1 : Int32)  (σ : Sg) : Okk G l cX6_fit 5 RX6 (some .int) (rmo 4 88) ccI 0 [some (k_rr G 0), some (.int x1), none, none, none] [] σ (m_X6_fit x1 σ) := by
  unfold m_X6_fit
  refine ok_iload1 (dq_of td_X6_fit 0 rfl) ?_
  refine ok_iconst (v := (-1)) (dq_of td_X6_fit 1 rfl) (by decide) ?_
  refine ok_ic_eq (tgt := 18) (dq_of td_X6_fit 2 rfl) (by decide) ?_ ?_
  · refine ok_wk (wk_s (wk_s (wk_n (wk_n (wk_n wk_0))))) ?_
    exact ob_X6_fit_18 _   _
  · refine ok_aload0 (dq_of td_X6_fit 3 rfl) ?_
    refine ok_get (v := k_rr G 1) fl_X6_10 (by decide) ko_0 rfl (dq_of td_X6_fit 4 rfl) ?_
    refine ok_iload1 (dq_of td_X6_fit 5 rfl) ?_
    refine call_X4_hasCoat ml_X6_98 tw_1 ⟨Nat.le_of_ble_eq_true rfl, Nat.le_of_ble_eq_true rfl⟩ ⟨Nat.zero_le _, Nat.zero_le _⟩ (Nat.le_of_ble_eq_true rfl) (dq_of td_X6_fit 6 rfl) (fun r10 σ9 => ?_)
    refine ok_if_ne (tgt := 18) (dq_of td_X6_fit 7 rfl) (by decide) ?_ ?_
    · refine ok_wk (wk_s (wk_s (wk_n (wk_n (wk_n wk_0))))) ?_
      exact ob_X6_fit_18 _   _
    · refine ok_iconst (v := (-1)) (dq_of td_X6_fit 8 rfl) (by decide) ?_
      exact ok_iret (dq_of td_X6_fit 9 rfl)
theorem ct_X6_fit {G : KW} {l : Launch} (x1 : Int32)  (σ : Sg) : ∀ b, m_X6_fit x1 σ = some b → MetF G l yX6_fit cX6_fit 5 (some .int) 4 88 [k_rr G 0, .int x1] (k_wl G σ) (ccI b).1 (k_wl G (ccI b).2) :=
  met_of (by decide) (Nat.le_of_ble_eq_true rfl) rfl (om_X6_fit _  σ)
theorem call_X6_fit {G : KW} {l : Launch} {cc : ByteArray} {nL : Nat} {own : String} {rt : Option FieldType} {R : Room} {α : Type} {X : State → Array Value → Method → Prop} {Z : α → List Frame → Array Value → State → State → Prop} {k0 n0 pc index : Nat} {L : List (Option Value)} {S : List Value} {σ : Sg} {F : Int32 → Sg → Option α} {x1 : Int32} (lk : MLk own index yX6_fit)  (hR : R.frames ≥ 4 + 1 ∧ R.locals ≥ 8 + (5 + 11) + 88) (hcs : k0 ≤ R.cells ∧ n0 ≤ R.slots) (hro : (S.map fun v => v.category).sum ≤ 8) (d : decode cc pc = .ok (.invokevirtual index, 3)) (kk : ∀ (r : Int32) (σ' : Sg), Okg G l cc nL own rt R X Z k0 n0 (pc + 3) L (.int r :: S) σ' (F r σ')) : Okg G l cc nL own rt R X Z k0 n0 pc L (.int x1 :: k_rr G 0 :: S) σ (e_cI (m_X6_fit x1 σ) F) :=
  ok_cV (cb := ccI) (As := [.int x1]) (ct_X6_fit _  σ) mo_X6_fit hi_X6_fit lk rfl (ci := 6) rfl rfl (by decide) ko_0 hR rfl hcs hro d (fun b => kk b.1 b.2)
/-! CoatDinner.year(III)I -/
def d_X6_year_49 (x1 : Int32) (x2 : Int32) (x3 : Int32) (K : Sg → Option (Int32 × Sg)) (H : Int32 → Int32 → Sg → Option (Int32 × Sg)) (x4 : Int32) (x5 : Int32) (σ : Sg) : Option (Int32 × Sg) := (if x2 ≤ x5 then K σ else e_lt (jrm ((75 * x4) + 74) 65537) (fun v6 => e_cV (m_X4_change 15 (jrm v6 5) (jrm (v6 / 5) 5) σ) (fun σ7 => (if (jrm (v6 / 25) 7) = 0 then e_cV (m_X4_fast 15 σ7) (fun σ9 => H v6 (x5 + 1) σ9) else e_cV (m_X4_dine 15 σ7) (fun σ8 => H v6 (x5 + 1) σ8)))))
theorem od_X6_year_49 {G : KW} {l : Launch} (x1 : Int32) (x2 : Int32) (x3 : Int32)  {K : Sg → Option (Int32 × Sg)} {H : Int32 → Int32 → Sg → Option (Int32 × Sg)} (hK : ∀  (σ : Sg), Okk G l cX6_year 6 RX6 (some .int) (rmo 4 90) ccI 124 [some (k_rr G 0), none, none, some (.int x3), none, none] [] σ (K  σ)) (hH : ∀ (x4 : Int32) (x5 : Int32) (σ : Sg), Okk G l cX6_year 6 RX6 (some .int) (rmo 4 90) ccI 49 [some (k_rr G 0), none, some (.int x2), some (.int x3), some (.int x4), some (.int x5)] [] σ (H x4 x5 σ)) (x4 : Int32) (x5 : Int32)  (σ : Sg) : Okk G l cX6_year 6 RX6 (some .int) (rmo 4 90) ccI 49 [some (k_rr G 0), none, some (.int x2), some (.int x3), some (.int x4), some (.int x5)] [] σ (d_X6_year_49 x1 x2 x3 K H x4 x5 σ) := by
  unfold d_X6_year_49
  refine ok_iload5 (dq_of td_X6_year 25 rfl) ?_
  refine ok_iload2 (dq_of td_X6_year 26 rfl) ?_
  refine ok_ic_ge (tgt := 124) (dq_of td_X6_year 27 rfl) (by decide) ?_ ?_
  · refine ok_wk (wk_s (wk_n (wk_n (wk_s (wk_n (wk_n wk_0)))))) ?_
    exact hK _
  · refine ok_bipush (v := 75) (dq_of td_X6_year 28 rfl) (by decide) ?_
    refine ok_iload4 (dq_of td_X6_year 29 rfl) ?_
    refine ok_imul (dq_of td_X6_year 30 rfl) ?_
    refine ok_bipush (v := 74) (dq_of td_X6_year 31 rfl) (by decide) ?_
    refine ok_iadd (dq_of td_X6_year 32 rfl) ?_
    refine ok_ldcw (v := 65537) (dq_of td_X6_year 33 rfl) kc_X6_259 ?_
    refine ok_irem (dq_of td_X6_year 34 rfl) (by decide) ?_
    refine ok_gI (fun v6 => ?_)
    refine ok_istore4 (dq_of td_X6_year 35 rfl) rfl (by decide) ?_
    refine ok_aload0 (dq_of td_X6_year 36 rfl) ?_
    refine ok_get (v := k_rr G 15) fl_X6_16 (by decide) ko_0 rfl (dq_of td_X6_year 37 rfl) ?_
    refine ok_iload4 (dq_of td_X6_year 38 rfl) ?_
    refine ok_iconst (v := 5) (dq_of td_X6_year 39 rfl) (by decide) ?_
    refine ok_irem (dq_of td_X6_year 40 rfl) (by decide) ?_
    refine ok_iload4 (dq_of td_X6_year 41 rfl) ?_
    refine ok_iconst (v := 5) (dq_of td_X6_year 42 rfl) (by decide) ?_
    refine ok_idiv (dq_of td_X6_year 43 rfl) (by decide) ?_
    refine ok_iconst (v := 5) (dq_of td_X6_year 44 rfl) (by decide) ?_
    refine ok_irem (dq_of td_X6_year 45 rfl) (by decide) ?_
    refine call_X4_change ml_X6_260 tw_15 ⟨Nat.le_of_ble_eq_true rfl, Nat.le_of_ble_eq_true rfl⟩ ⟨Nat.zero_le _, Nat.zero_le _⟩ (Nat.le_of_ble_eq_true rfl) (dq_of td_X6_year 46 rfl) (fun σ7 => ?_)
    refine ok_iload4 (dq_of td_X6_year 47 rfl) ?_
    refine ok_bipush (v := 25) (dq_of td_X6_year 48 rfl) (by decide) ?_
    refine ok_idiv (dq_of td_X6_year 49 rfl) (by decide) ?_
    refine ok_bipush (v := 7) (dq_of td_X6_year 50 rfl) (by decide) ?_
    refine ok_irem (dq_of td_X6_year 51 rfl) (by decide) ?_
    refine ok_if_ne (tgt := 107) (dq_of td_X6_year 52 rfl) (by decide) ?_ ?_
    · refine ok_aload0 (dq_of td_X6_year 57 rfl) ?_
      refine ok_get (v := k_rr G 15) fl_X6_16 (by decide) ko_0 rfl (dq_of td_X6_year 58 rfl) ?_
      refine ok_aload0 (dq_of td_X6_year 59 rfl) ?_
      refine ok_get (v := k_rr G 60) fl_X6_39 (by decide) ko_0 rfl (dq_of td_X6_year 60 rfl) ?_
      refine call_X4_dine ml_X6_267 tw_15 ⟨Nat.le_of_ble_eq_true rfl, Nat.le_of_ble_eq_true rfl⟩ ⟨Nat.zero_le _, Nat.zero_le _⟩ (Nat.le_of_ble_eq_true rfl) (dq_of td_X6_year 61 rfl) (fun σ8 => ?_)
      refine ok_jinc5 (w := 1) (dq_of td_X6_year 62 rfl) (by decide) rfl (by decide) ?_
      refine ok_goto (tgt := 49) (dq_of td_X6_year 63 rfl) (by decide) ?_
      refine ok_wk (wk_s (wk_n (wk_s (wk_s (wk_s (wk_s wk_0)))))) ?_
      exact hH _ _ _
    · refine ok_aload0 (dq_of td_X6_year 53 rfl) ?_
      refine ok_get (v := k_rr G 15) fl_X6_16 (by decide) ko_0 rfl (dq_of td_X6_year 54 rfl) ?_
      refine call_X4_fast ml_X6_264 tw_15 ⟨Nat.le_of_ble_eq_true rfl, Nat.le_of_ble_eq_true rfl⟩ ⟨Nat.zero_le _, Nat.zero_le _⟩ (Nat.le_of_ble_eq_true rfl) (dq_of td_X6_year 55 rfl) (fun σ9 => ?_)
      refine ok_goto (tgt := 118) (dq_of td_X6_year 56 rfl) (by decide) ?_
      refine ok_jinc5 (w := 1) (dq_of td_X6_year 62 rfl) (by decide) rfl (by decide) ?_
      refine ok_goto (tgt := 49) (dq_of td_X6_year 63 rfl) (by decide) ?_
      refine ok_wk (wk_s (wk_n (wk_s (wk_s (wk_s (wk_s wk_0)))))) ?_
      exact hH _ _ _
theorem ld_X6_year_49 {G : KW} {l : Launch} (x1 : Int32) (x2 : Int32) (x3 : Int32)  {K : Sg → Option (Int32 × Sg)} (hK : ∀  (σ : Sg), Okk G l cX6_year 6 RX6 (some .int) (rmo 4 90) ccI 124 [some (k_rr G 0), none, none, some (.int x3), none, none] [] σ (K  σ)) (n : Nat) (x4 : Int32) (x5 : Int32) (σ : Sg) : Okk G l cX6_year 6 RX6 (some .int) (rmo 4 90) ccI 49 [some (k_rr G 0), none, some (.int x2), some (.int x3), some (.int x4), some (.int x5)] [] σ (e_lp2 (d_X6_year_49 x1 x2 x3 K) n x4 x5 σ) :=
  ok_lp2 (Lf := fun (x4 : Int32) (x5 : Int32) => [some (k_rr G 0), none, some (.int x2), some (.int x3), some (.int x4), some (.int x5)]) (fun _ hH x4 x5 σ => od_X6_year_49 _ _ _  hK hH x4 x5 σ) n x4 x5 σ
def m_X6_year (x1 : Int32) (x2 : Int32) (x3 : Int32) (σ : Sg) : Option (Int32 × Sg) := e_cI (m_X6_within x1 9999 σ) (fun r2 σ1 => (if r2 = 0 then some ((-2), σ1) else (if x2 < 1 then some ((-2), σ1) else (if 99 < x2 then some ((-2), σ1) else e_cI (m_X6_within x3 2 σ1) (fun r4 σ3 => (if r4 = 0 then some ((-2), σ3) else e_cV (m_X4_become 15 1 σ3) (fun σ5 => e_lp2 (d_X6_year_49 x1 x2 x3 (fun σ10 => (if x3 = 0 then e_cI (m_X4_hasPerson 1 0 σ10) (fun r16 σ15 => (if r16 = 0 then some (0, σ15) else e_gd (k_in 0 5) (e_gd (k_in 0 5) (some ((σ15 17 (Int32.toNatClampNeg 0)) - (σ15 3 (Int32.toNatClampNeg 0)), σ15))))) else (if x3 = 1 then e_cI (m_X4_allOwed 15 σ10) (fun r14 σ13 => some (r14, σ13)) else e_cI (m_X4_allStitches 15 σ10) (fun r12 σ11 => some (r12, σ11)))))) e_F x1 0 σ5)))))))
theorem om_X6_year {G : KW} {l : Launch} (x1 : Int32) (x2 : Int32) (x3 : Int32)  (σ : Sg) : Okk G l cX6_year 6 RX6 (some .int) (rmo 4 90) ccI 0 [some (k_rr G 0), some (.int x1), some (.int x2), some (.int x3), none, none] [] σ (m_X6_year x1 x2 x3 σ) := by
  unfold m_X6_year
  refine ok_iload1 (dq_of td_X6_year 0 rfl) ?_
  refine ok_sipush (v := 9999) (dq_of td_X6_year 1 rfl) (by decide) ?_
  refine call_X6_within ml_X6_66  ⟨Nat.le_of_ble_eq_true rfl, Nat.le_of_ble_eq_true rfl⟩ ⟨Nat.zero_le _, Nat.zero_le _⟩ (Nat.le_of_ble_eq_true rfl) (dq_of td_X6_year 2 rfl) (fun r2 σ1 => ?_)
  refine ok_if_eq (tgt := 29) (dq_of td_X6_year 3 rfl) (by decide) ?_ ?_
  · refine ok_bipush (v := (-2)) (dq_of td_X6_year 14 rfl) (by decide) ?_
    exact ok_iret (dq_of td_X6_year 15 rfl)
  · refine ok_iload2 (dq_of td_X6_year 4 rfl) ?_
    refine ok_iconst (v := 1) (dq_of td_X6_year 5 rfl) (by decide) ?_
    refine ok_ic_lt (tgt := 29) (dq_of td_X6_year 6 rfl) (by decide) ?_ ?_
    · refine ok_bipush (v := (-2)) (dq_of td_X6_year 14 rfl) (by decide) ?_
      exact ok_iret (dq_of td_X6_year 15 rfl)
    · refine ok_iload2 (dq_of td_X6_year 7 rfl) ?_
      refine ok_bipush (v := 99) (dq_of td_X6_year 8 rfl) (by decide) ?_
      refine ok_ic_gt (tgt := 29) (dq_of td_X6_year 9 rfl) (by decide) ?_ ?_
      · refine ok_bipush (v := (-2)) (dq_of td_X6_year 14 rfl) (by decide) ?_
        exact ok_iret (dq_of td_X6_year 15 rfl)
      · refine ok_iload3 (dq_of td_X6_year 10 rfl) ?_
        refine ok_iconst (v := 2) (dq_of td_X6_year 11 rfl) (by decide) ?_
        refine call_X6_within ml_X6_66  ⟨Nat.le_of_ble_eq_true rfl, Nat.le_of_ble_eq_true rfl⟩ ⟨Nat.zero_le _, Nat.zero_le _⟩ (Nat.le_of_ble_eq_true rfl) (dq_of td_X6_year 12 rfl) (fun r4 σ3 => ?_)
        refine ok_if_ne (tgt := 32) (dq_of td_X6_year 13 rfl) (by decide) ?_ ?_
        · refine ok_aload0 (dq_of td_X6_year 16 rfl) ?_
          refine ok_get (v := k_rr G 15) fl_X6_16 (by decide) ko_0 rfl (dq_of td_X6_year 17 rfl) ?_
          refine ok_aload0 (dq_of td_X6_year 18 rfl) ?_
          refine ok_get (v := k_rr G 1) fl_X6_10 (by decide) ko_0 rfl (dq_of td_X6_year 19 rfl) ?_
          refine call_X4_become ml_X6_147 tw_15 tw_1 ⟨Nat.le_of_ble_eq_true rfl, Nat.le_of_ble_eq_true rfl⟩ ⟨Nat.zero_le _, Nat.zero_le _⟩ (Nat.le_of_ble_eq_true rfl) (dq_of td_X6_year 20 rfl) (fun σ5 => ?_)
          refine ok_iload1 (dq_of td_X6_year 21 rfl) ?_
          refine ok_istore4 (dq_of td_X6_year 22 rfl) rfl (by decide) ?_
          refine ok_iconst (v := 0) (dq_of td_X6_year 23 rfl) (by decide) ?_
          refine ok_istore5 (dq_of td_X6_year 24 rfl) rfl (by decide) ?_
          refine ok_wk (wk_s (wk_n (wk_s (wk_s (wk_s (wk_s wk_0)))))) ?_
          refine ld_X6_year_49 _ _ _  (fun σ10 => ?_) _ _ _ _
          refine ok_iload3 (dq_of td_X6_year 64 rfl) ?_
          refine ok_if_ne (tgt := 163) (dq_of td_X6_year 65 rfl) (by decide) ?_ ?_
          · refine ok_iload3 (dq_of td_X6_year 85 rfl) ?_
            refine ok_iconst (v := 1) (dq_of td_X6_year 86 rfl) (by decide) ?_
            refine ok_ic_ne (tgt := 178) (dq_of td_X6_year 87 rfl) (by decide) ?_ ?_
            · refine ok_aload0 (dq_of td_X6_year 92 rfl) ?_
              refine ok_get (v := k_rr G 15) fl_X6_16 (by decide) ko_0 rfl (dq_of td_X6_year 93 rfl) ?_
              refine call_X4_allStitches ml_X6_276 tw_15 ⟨Nat.le_of_ble_eq_true rfl, Nat.le_of_ble_eq_true rfl⟩ ⟨Nat.zero_le _, Nat.zero_le _⟩ (Nat.le_of_ble_eq_true rfl) (dq_of td_X6_year 94 rfl) (fun r12 σ11 => ?_)
              exact ok_iret (dq_of td_X6_year 95 rfl)
            · refine ok_aload0 (dq_of td_X6_year 88 rfl) ?_
              refine ok_get (v := k_rr G 15) fl_X6_16 (by decide) ko_0 rfl (dq_of td_X6_year 89 rfl) ?_
              refine call_X4_allOwed ml_X6_273 tw_15 ⟨Nat.le_of_ble_eq_true rfl, Nat.le_of_ble_eq_true rfl⟩ ⟨Nat.zero_le _, Nat.zero_le _⟩ (Nat.le_of_ble_eq_true rfl) (dq_of td_X6_year 90 rfl) (fun r14 σ13 => ?_)
              refine ok_goto (tgt := 185) (dq_of td_X6_year 91 rfl) (by decide) ?_
              exact ok_iret (dq_of td_X6_year 95 rfl)
          · refine ok_aload0 (dq_of td_X6_year 66 rfl) ?_
            refine ok_get (v := k_rr G 1) fl_X6_10 (by decide) ko_0 rfl (dq_of td_X6_year 67 rfl) ?_
            refine ok_iconst (v := 0) (dq_of td_X6_year 68 rfl) (by decide) ?_
            refine call_X4_hasPerson ml_X6_70 tw_1 ⟨Nat.le_of_ble_eq_true rfl, Nat.le_of_ble_eq_true rfl⟩ ⟨Nat.zero_le _, Nat.zero_le _⟩ (Nat.le_of_ble_eq_true rfl) (dq_of td_X6_year 69 rfl) (fun r16 σ15 => ?_)
            refine ok_if_eq (tgt := 161) (dq_of td_X6_year 70 rfl) (by decide) ?_ ?_
            · refine ok_iconst (v := 0) (dq_of td_X6_year 83 rfl) (by decide) ?_
              exact ok_iret (dq_of td_X6_year 84 rfl)
            · refine ok_aload0 (dq_of td_X6_year 71 rfl) ?_
              refine ok_get (v := k_rr G 15) fl_X6_16 (by decide) ko_0 rfl (dq_of td_X6_year 72 rfl) ?_
              refine ok_get (v := k_rr G 17) fl_X6_270 (by decide) (isT_kd tw_15) rfl (dq_of td_X6_year 73 rfl) ?_
              refine ok_iconst (v := 0) (dq_of td_X6_year 74 rfl) (by decide) ?_
              refine ok_iald ka_17 (dq_of td_X6_year 75 rfl) ?_
              refine ok_aload0 (dq_of td_X6_year 76 rfl) ?_
              refine ok_get (v := k_rr G 1) fl_X6_10 (by decide) ko_0 rfl (dq_of td_X6_year 77 rfl) ?_
              refine ok_get (v := k_rr G 3) fl_X6_270 (by decide) (isT_kd tw_1) rfl (dq_of td_X6_year 78 rfl) ?_
              refine ok_iconst (v := 0) (dq_of td_X6_year 79 rfl) (by decide) ?_
              refine ok_iald ka_3 (dq_of td_X6_year 80 rfl) ?_
              refine ok_isub (dq_of td_X6_year 81 rfl) ?_
              refine ok_goto (tgt := 162) (dq_of td_X6_year 82 rfl) (by decide) ?_
              exact ok_iret (dq_of td_X6_year 84 rfl)
        · refine ok_bipush (v := (-2)) (dq_of td_X6_year 14 rfl) (by decide) ?_
          exact ok_iret (dq_of td_X6_year 15 rfl)
theorem ct_X6_year {G : KW} {l : Launch} (x1 : Int32) (x2 : Int32) (x3 : Int32)  (σ : Sg) : ∀ b, m_X6_year x1 x2 x3 σ = some b → MetF G l yX6_year cX6_year 6 (some .int) 4 90 [k_rr G 0, .int x1, .int x2, .int x3] (k_wl G σ) (ccI b).1 (k_wl G (ccI b).2) :=
  met_of (by decide) (Nat.le_of_ble_eq_true rfl) rfl (om_X6_year _ _ _  σ)
theorem call_X6_year {G : KW} {l : Launch} {cc : ByteArray} {nL : Nat} {own : String} {rt : Option FieldType} {R : Room} {α : Type} {X : State → Array Value → Method → Prop} {Z : α → List Frame → Array Value → State → State → Prop} {k0 n0 pc index : Nat} {L : List (Option Value)} {S : List Value} {σ : Sg} {F : Int32 → Sg → Option α} {x1 : Int32} {x2 : Int32} {x3 : Int32} (lk : MLk own index yX6_year)  (hR : R.frames ≥ 4 + 1 ∧ R.locals ≥ 8 + (6 + 11) + 90) (hcs : k0 ≤ R.cells ∧ n0 ≤ R.slots) (hro : (S.map fun v => v.category).sum ≤ 8) (d : decode cc pc = .ok (.invokevirtual index, 3)) (kk : ∀ (r : Int32) (σ' : Sg), Okg G l cc nL own rt R X Z k0 n0 (pc + 3) L (.int r :: S) σ' (F r σ')) : Okg G l cc nL own rt R X Z k0 n0 pc L (.int x3 :: .int x2 :: .int x1 :: k_rr G 0 :: S) σ (e_cI (m_X6_year x1 x2 x3 σ) F) :=
  ok_cV (cb := ccI) (As := [.int x1, .int x2, .int x3]) (ct_X6_year _ _ _  σ) mo_X6_year hi_X6_year lk rfl (ci := 6) rfl rfl (by decide) ko_0 hR rfl hcs hro d (fun b => kk b.1 b.2)
/-! CoatDinner.imageOf(I)LCoatDinner$Town; -/
def m_X6_imageOf (x1 : Int32) (σ : Sg) : Option (Nat × Sg) := (if x1 = 0 then some (29, σ) else some (43, σ))
theorem om_X6_imageOf {G : KW} {l : Launch} (x1 : Int32)  (σ : Sg) : Okk G l cX6_imageOf 2 RX6 (some (.object "CoatDinner$Town")) (rmo 0 0) (ccR G) 0 [some (k_rr G 0), some (.int x1)] [] σ (m_X6_imageOf x1 σ) := by
  unfold m_X6_imageOf
  refine ok_iload1 (dq_of td_X6_imageOf 0 rfl) ?_
  refine ok_if_ne (tgt := 11) (dq_of td_X6_imageOf 1 rfl) (by decide) ?_ ?_
  · refine ok_aload0 (dq_of td_X6_imageOf 5 rfl) ?_
    refine ok_get (v := k_rr G 43) fl_X6_22 (by decide) ko_0 rfl (dq_of td_X6_imageOf 6 rfl) ?_
    exact ok_aret (Or.inl ⟨_, rfl⟩) (dq_of td_X6_imageOf 7 rfl)
  · refine ok_aload0 (dq_of td_X6_imageOf 2 rfl) ?_
    refine ok_get (v := k_rr G 29) fl_X6_19 (by decide) ko_0 rfl (dq_of td_X6_imageOf 3 rfl) ?_
    refine ok_goto (tgt := 15) (dq_of td_X6_imageOf 4 rfl) (by decide) ?_
    exact ok_aret (Or.inl ⟨_, rfl⟩) (dq_of td_X6_imageOf 7 rfl)
theorem ct_X6_imageOf {G : KW} {l : Launch} (x1 : Int32)  (σ : Sg) : ∀ b, m_X6_imageOf x1 σ = some b → MetF G l yX6_imageOf cX6_imageOf 2 (some (.object "CoatDinner$Town")) 0 0 [k_rr G 0, .int x1] (k_wl G σ) ((ccR G) b).1 (k_wl G ((ccR G) b).2) :=
  met_of (by decide) (Nat.le_of_ble_eq_true rfl) rfl (om_X6_imageOf _  σ)
theorem call_X6_imageOf {G : KW} {l : Launch} {cc : ByteArray} {nL : Nat} {own : String} {rt : Option FieldType} {R : Room} {α : Type} {X : State → Array Value → Method → Prop} {Z : α → List Frame → Array Value → State → State → Prop} {k0 n0 pc index : Nat} {L : List (Option Value)} {S : List Value} {σ : Sg} {F : Nat → Sg → Option α} {x1 : Int32} (lk : MLk own index yX6_imageOf)  (hR : R.frames ≥ 0 + 1 ∧ R.locals ≥ 8 + (2 + 11) + 0) (hcs : k0 ≤ R.cells ∧ n0 ≤ R.slots) (hro : (S.map fun v => v.category).sum ≤ 8) (d : decode cc pc = .ok (.invokevirtual index, 3)) (kk : ∀ (r : Nat) (σ' : Sg), Okg G l cc nL own rt R X Z k0 n0 (pc + 3) L (k_rr G r :: S) σ' (F r σ')) : Okg G l cc nL own rt R X Z k0 n0 pc L (.int x1 :: k_rr G 0 :: S) σ (e_cR (m_X6_imageOf x1 σ) F) :=
  ok_cV (cb := (ccR G)) (As := [.int x1]) (ct_X6_imageOf _  σ) mo_X6_imageOf hi_X6_imageOf lk rfl (ci := 6) rfl rfl (by decide) ko_0 hR rfl hcs hro d (fun b => kk b.1 b.2)
/-! CoatDinner.image(I)I -/
def m_X6_image (x1 : Int32) (σ : Sg) : Option (Int32 × Sg) := e_cI (m_X6_within x1 1 σ) (fun r2 σ1 => (if r2 = 0 then some ((-2), σ1) else e_cR (m_X6_imageOf x1 σ1) (fun r4 σ3 => e_gd (k_twb r4) (e_cV (m_X4_become r4 1 σ3) (fun σ5 => e_wr σ5 57 x1 2 1 (fun σ6 => some (1, σ6)))))))
theorem om_X6_image {G : KW} {l : Launch} (x1 : Int32)  (σ : Sg) : Okk G l cX6_image 2 RX6 (some .int) (rmo 1 22) ccI 0 [some (k_rr G 0), some (.int x1)] [] σ (m_X6_image x1 σ) := by
  unfold m_X6_image
  refine ok_iload1 (dq_of td_X6_image 0 rfl) ?_
  refine ok_iconst (v := 1) (dq_of td_X6_image 1 rfl) (by decide) ?_
  refine call_X6_within ml_X6_66  ⟨Nat.le_of_ble_eq_true rfl, Nat.le_of_ble_eq_true rfl⟩ ⟨Nat.zero_le _, Nat.zero_le _⟩ (Nat.le_of_ble_eq_true rfl) (dq_of td_X6_image 2 rfl) (fun r2 σ1 => ?_)
  refine ok_if_ne (tgt := 11) (dq_of td_X6_image 3 rfl) (by decide) ?_ ?_
  · refine ok_aload0 (dq_of td_X6_image 6 rfl) ?_
    refine ok_iload1 (dq_of td_X6_image 7 rfl) ?_
    refine call_X6_imageOf ml_X6_279  ⟨Nat.le_of_ble_eq_true rfl, Nat.le_of_ble_eq_true rfl⟩ ⟨Nat.zero_le _, Nat.zero_le _⟩ (Nat.le_of_ble_eq_true rfl) (dq_of td_X6_image 8 rfl) (fun r4 σ3 => ?_)
    refine ok_gd (fun hbr4 => ?_)
    have hr4 := k_tw_of hbr4
    refine ok_aload0 (dq_of td_X6_image 9 rfl) ?_
    refine ok_get (v := k_rr G 1) fl_X6_10 (by decide) ko_0 rfl (dq_of td_X6_image 10 rfl) ?_
    refine call_X4_become ml_X6_147 hr4 tw_1 ⟨Nat.le_of_ble_eq_true rfl, Nat.le_of_ble_eq_true rfl⟩ ⟨Nat.zero_le _, Nat.zero_le _⟩ (Nat.le_of_ble_eq_true rfl) (dq_of td_X6_image 11 rfl) (fun σ5 => ?_)
    refine ok_aload0 (dq_of td_X6_image 12 rfl) ?_
    refine ok_get (v := k_rr G 57) fl_X6_25 (by decide) ko_0 rfl (dq_of td_X6_image 13 rfl) ?_
    refine ok_iload1 (dq_of td_X6_image 14 rfl) ?_
    refine ok_iconst (v := 1) (dq_of td_X6_image 15 rfl) (by decide) ?_
    refine ok_zast ka_57 (by decide) (dq_of td_X6_image 16 rfl) (fun σ6 => ?_)
    refine ok_iconst (v := 1) (dq_of td_X6_image 17 rfl) (by decide) ?_
    exact ok_iret (dq_of td_X6_image 18 rfl)
  · refine ok_bipush (v := (-2)) (dq_of td_X6_image 4 rfl) (by decide) ?_
    exact ok_iret (dq_of td_X6_image 5 rfl)
theorem ct_X6_image {G : KW} {l : Launch} (x1 : Int32)  (σ : Sg) : ∀ b, m_X6_image x1 σ = some b → MetF G l yX6_image cX6_image 2 (some .int) 1 22 [k_rr G 0, .int x1] (k_wl G σ) (ccI b).1 (k_wl G (ccI b).2) :=
  met_of (by decide) (Nat.le_of_ble_eq_true rfl) rfl (om_X6_image _  σ)
theorem call_X6_image {G : KW} {l : Launch} {cc : ByteArray} {nL : Nat} {own : String} {rt : Option FieldType} {R : Room} {α : Type} {X : State → Array Value → Method → Prop} {Z : α → List Frame → Array Value → State → State → Prop} {k0 n0 pc index : Nat} {L : List (Option Value)} {S : List Value} {σ : Sg} {F : Int32 → Sg → Option α} {x1 : Int32} (lk : MLk own index yX6_image)  (hR : R.frames ≥ 1 + 1 ∧ R.locals ≥ 8 + (2 + 11) + 22) (hcs : k0 ≤ R.cells ∧ n0 ≤ R.slots) (hro : (S.map fun v => v.category).sum ≤ 8) (d : decode cc pc = .ok (.invokevirtual index, 3)) (kk : ∀ (r : Int32) (σ' : Sg), Okg G l cc nL own rt R X Z k0 n0 (pc + 3) L (.int r :: S) σ' (F r σ')) : Okg G l cc nL own rt R X Z k0 n0 pc L (.int x1 :: k_rr G 0 :: S) σ (e_cI (m_X6_image x1 σ) F) :=
  ok_cV (cb := ccI) (As := [.int x1]) (ct_X6_image _  σ) mo_X6_image hi_X6_image lk rfl (ci := 6) rfl rfl (by decide) ko_0 hR rfl hcs hro d (fun b => kk b.1 b.2)
/-! CoatDinner.restore(I)I -/
def m_X6_restore (x1 : Int32) (σ : Sg) : Option (Int32 × Sg) := e_cI (m_X6_within x1 1 σ) (fun r2 σ1 => (if r2 = 0 then some ((-2), σ1) else e_gd (k_in x1 2) ((if (σ1 57 (Int32.toNatClampNeg x1)) = 0 then some ((-3), σ1) else e_cR (m_X6_imageOf x1 σ1) (fun r4 σ3 => e_gd (k_twb r4) (e_cV (m_X4_become 1 r4 σ3) (fun σ5 => some (1, σ5))))))))
theorem om_X6_restore {G : KW} {l : Launch} (x1 : Int32)  (σ : Sg) : Okk G l cX6_restore 2 RX6 (some .int) (rmo 1 22) ccI 0 [some (k_rr G 0), some (.int x1)] [] σ (m_X6_restore x1 σ) := by
  unfold m_X6_restore
  refine ok_iload1 (dq_of td_X6_restore 0 rfl) ?_
  refine ok_iconst (v := 1) (dq_of td_X6_restore 1 rfl) (by decide) ?_
  refine call_X6_within ml_X6_66  ⟨Nat.le_of_ble_eq_true rfl, Nat.le_of_ble_eq_true rfl⟩ ⟨Nat.zero_le _, Nat.zero_le _⟩ (Nat.le_of_ble_eq_true rfl) (dq_of td_X6_restore 2 rfl) (fun r2 σ1 => ?_)
  refine ok_if_ne (tgt := 11) (dq_of td_X6_restore 3 rfl) (by decide) ?_ ?_
  · refine ok_aload0 (dq_of td_X6_restore 6 rfl) ?_
    refine ok_get (v := k_rr G 57) fl_X6_25 (by decide) ko_0 rfl (dq_of td_X6_restore 7 rfl) ?_
    refine ok_iload1 (dq_of td_X6_restore 8 rfl) ?_
    refine ok_zald ka_57 (dq_of td_X6_restore 9 rfl) ?_
    refine ok_if_ne (tgt := 23) (dq_of td_X6_restore 10 rfl) (by decide) ?_ ?_
    · refine ok_aload0 (dq_of td_X6_restore 13 rfl) ?_
      refine ok_get (v := k_rr G 1) fl_X6_10 (by decide) ko_0 rfl (dq_of td_X6_restore 14 rfl) ?_
      refine ok_aload0 (dq_of td_X6_restore 15 rfl) ?_
      refine ok_iload1 (dq_of td_X6_restore 16 rfl) ?_
      refine call_X6_imageOf ml_X6_279  ⟨Nat.le_of_ble_eq_true rfl, Nat.le_of_ble_eq_true rfl⟩ ⟨Nat.zero_le _, Nat.zero_le _⟩ (Nat.le_of_ble_eq_true rfl) (dq_of td_X6_restore 17 rfl) (fun r4 σ3 => ?_)
      refine ok_gd (fun hbr4 => ?_)
      have hr4 := k_tw_of hbr4
      refine call_X4_become ml_X6_147 tw_1 hr4 ⟨Nat.le_of_ble_eq_true rfl, Nat.le_of_ble_eq_true rfl⟩ ⟨Nat.zero_le _, Nat.zero_le _⟩ (Nat.le_of_ble_eq_true rfl) (dq_of td_X6_restore 18 rfl) (fun σ5 => ?_)
      refine ok_iconst (v := 1) (dq_of td_X6_restore 19 rfl) (by decide) ?_
      exact ok_iret (dq_of td_X6_restore 20 rfl)
    · refine ok_bipush (v := (-3)) (dq_of td_X6_restore 11 rfl) (by decide) ?_
      exact ok_iret (dq_of td_X6_restore 12 rfl)
  · refine ok_bipush (v := (-2)) (dq_of td_X6_restore 4 rfl) (by decide) ?_
    exact ok_iret (dq_of td_X6_restore 5 rfl)
theorem ct_X6_restore {G : KW} {l : Launch} (x1 : Int32)  (σ : Sg) : ∀ b, m_X6_restore x1 σ = some b → MetF G l yX6_restore cX6_restore 2 (some .int) 1 22 [k_rr G 0, .int x1] (k_wl G σ) (ccI b).1 (k_wl G (ccI b).2) :=
  met_of (by decide) (Nat.le_of_ble_eq_true rfl) rfl (om_X6_restore _  σ)
theorem call_X6_restore {G : KW} {l : Launch} {cc : ByteArray} {nL : Nat} {own : String} {rt : Option FieldType} {R : Room} {α : Type} {X : State → Array Value → Method → Prop} {Z : α → List Frame → Array Value → State → State → Prop} {k0 n0 pc index : Nat} {L : List (Option Value)} {S : List Value} {σ : Sg} {F : Int32 → Sg → Option α} {x1 : Int32} (lk : MLk own index yX6_restore)  (hR : R.frames ≥ 1 + 1 ∧ R.locals ≥ 8 + (2 + 11) + 22) (hcs : k0 ≤ R.cells ∧ n0 ≤ R.slots) (hro : (S.map fun v => v.category).sum ≤ 8) (d : decode cc pc = .ok (.invokevirtual index, 3)) (kk : ∀ (r : Int32) (σ' : Sg), Okg G l cc nL own rt R X Z k0 n0 (pc + 3) L (.int r :: S) σ' (F r σ')) : Okg G l cc nL own rt R X Z k0 n0 pc L (.int x1 :: k_rr G 0 :: S) σ (e_cI (m_X6_restore x1 σ) F) :=
  ok_cV (cb := ccI) (As := [.int x1]) (ct_X6_restore _  σ) mo_X6_restore hi_X6_restore lk rfl (ci := 6) rfl rfl (by decide) ko_0 hR rfl hcs hro d (fun b => kk b.1 b.2)
/-! CoatDinner.toldOfAll(I)I -/
def m_X6_toldOfAll (x1 : Int32) (σ : Sg) : Option (Int32 × Sg) := e_sw x1 4 (fun j => match j with | 0 => some (σ 58 1, σ) | 1 => some (σ 1 0, σ) | 2 => some (σ 1 1, σ) | _ => some (σ 1 2, σ)) (some (σ 1 3, σ))
theorem om_X6_toldOfAll {G : KW} {l : Launch} (x1 : Int32)  (σ : Sg) : Okk G l cX6_toldOfAll 2 RX6 (some .int) (rmo 0 0) ccI 0 [some (k_rr G 0), some (.int x1)] [] σ (m_X6_toldOfAll x1 σ) := by
  unfold m_X6_toldOfAll
  refine ok_iload1 (dq_of td_X6_toldOfAll 0 rfl) ?_
  refine ok_tsw (tgt := 64) (dq_of td_X6_toldOfAll 1 rfl) (by decide) (by decide) ?_ ?_
  · refine ok_aload0 (dq_of td_X6_toldOfAll 18 rfl) ?_
    refine ok_get (v := k_rr G 1) fl_X6_10 (by decide) ko_0 rfl (dq_of td_X6_toldOfAll 19 rfl) ?_
    refine ok_get (v := .int (σ 1 3)) fl_X6_250 (by decide) (isT_kd tw_1) rfl (dq_of td_X6_toldOfAll 20 rfl) ?_
    exact ok_iret (dq_of td_X6_toldOfAll 21 rfl)
  · intro j hj
    match j, hj with
    | 0, _ =>
      refine ⟨_, 32, rfl, by decide, ?_⟩
      refine ok_aload0 (dq_of td_X6_toldOfAll 2 rfl) ?_
      refine ok_get (v := k_rr G 58) fl_X6_32 (by decide) ko_0 rfl (dq_of td_X6_toldOfAll 3 rfl) ?_
      refine ok_get (v := .int (σ 58 1)) fl_X6_127 (by decide) ko_58 rfl (dq_of td_X6_toldOfAll 4 rfl) ?_
      exact ok_iret (dq_of td_X6_toldOfAll 5 rfl)
    | 1, _ =>
      refine ⟨_, 40, rfl, by decide, ?_⟩
      refine ok_aload0 (dq_of td_X6_toldOfAll 6 rfl) ?_
      refine ok_get (v := k_rr G 1) fl_X6_10 (by decide) ko_0 rfl (dq_of td_X6_toldOfAll 7 rfl) ?_
      refine ok_get (v := .int (σ 1 0)) fl_X6_78 (by decide) (isT_kd tw_1) rfl (dq_of td_X6_toldOfAll 8 rfl) ?_
      exact ok_iret (dq_of td_X6_toldOfAll 9 rfl)
    | 2, _ =>
      refine ⟨_, 48, rfl, by decide, ?_⟩
      refine ok_aload0 (dq_of td_X6_toldOfAll 10 rfl) ?_
      refine ok_get (v := k_rr G 1) fl_X6_10 (by decide) ko_0 rfl (dq_of td_X6_toldOfAll 11 rfl) ?_
      refine ok_get (v := .int (σ 1 1)) fl_X6_95 (by decide) (isT_kd tw_1) rfl (dq_of td_X6_toldOfAll 12 rfl) ?_
      exact ok_iret (dq_of td_X6_toldOfAll 13 rfl)
    | 3, _ =>
      refine ⟨_, 56, rfl, by decide, ?_⟩
      refine ok_aload0 (dq_of td_X6_toldOfAll 14 rfl) ?_
      refine ok_get (v := k_rr G 1) fl_X6_10 (by decide) ko_0 rfl (dq_of td_X6_toldOfAll 15 rfl) ?_
      refine ok_get (v := .int (σ 1 2)) fl_X6_114 (by decide) (isT_kd tw_1) rfl (dq_of td_X6_toldOfAll 16 rfl) ?_
      exact ok_iret (dq_of td_X6_toldOfAll 17 rfl)
    | j + 4, hj => exact absurd hj (by omega)
theorem ct_X6_toldOfAll {G : KW} {l : Launch} (x1 : Int32)  (σ : Sg) : ∀ b, m_X6_toldOfAll x1 σ = some b → MetF G l yX6_toldOfAll cX6_toldOfAll 2 (some .int) 0 0 [k_rr G 0, .int x1] (k_wl G σ) (ccI b).1 (k_wl G (ccI b).2) :=
  met_of (by decide) (Nat.le_of_ble_eq_true rfl) rfl (om_X6_toldOfAll _  σ)
theorem call_X6_toldOfAll {G : KW} {l : Launch} {cc : ByteArray} {nL : Nat} {own : String} {rt : Option FieldType} {R : Room} {α : Type} {X : State → Array Value → Method → Prop} {Z : α → List Frame → Array Value → State → State → Prop} {k0 n0 pc index : Nat} {L : List (Option Value)} {S : List Value} {σ : Sg} {F : Int32 → Sg → Option α} {x1 : Int32} (lk : MLk own index yX6_toldOfAll)  (hR : R.frames ≥ 0 + 1 ∧ R.locals ≥ 8 + (2 + 11) + 0) (hcs : k0 ≤ R.cells ∧ n0 ≤ R.slots) (hro : (S.map fun v => v.category).sum ≤ 8) (d : decode cc pc = .ok (.invokevirtual index, 3)) (kk : ∀ (r : Int32) (σ' : Sg), Okg G l cc nL own rt R X Z k0 n0 (pc + 3) L (.int r :: S) σ' (F r σ')) : Okg G l cc nL own rt R X Z k0 n0 pc L (.int x1 :: k_rr G 0 :: S) σ (e_cI (m_X6_toldOfAll x1 σ) F) :=
  ok_cV (cb := ccI) (As := [.int x1]) (ct_X6_toldOfAll _  σ) mo_X6_toldOfAll hi_X6_toldOfAll lk rfl (ci := 6) rfl rfl (by decide) ko_0 hR rfl hcs hro d (fun b => kk b.1 b.2)
/-! CoatDinner.toldOfCoat(II)I -/
def m_X6_toldOfCoat (x1 : Int32) (x2 : Int32) (σ : Sg) : Option (Int32 × Sg) := e_cI (m_X4_hasCoat 1 x1 σ) (fun r2 σ1 => (if r2 = 0 then some ((-2), σ1) else e_sw x2 6 (fun j => match j with | 0 => e_gd (k_in x1 5) (some (σ1 8 (Int32.toNatClampNeg x1), σ1)) | 1 => e_gd (k_in x1 5) (some (σ1 9 (Int32.toNatClampNeg x1), σ1)) | 2 => e_gd (k_in x1 5) (some (σ1 10 (Int32.toNatClampNeg x1), σ1)) | 3 => e_gd (k_in x1 5) (some (σ1 11 (Int32.toNatClampNeg x1), σ1)) | 4 => e_gd (k_in x1 5) (some (σ1 12 (Int32.toNatClampNeg x1), σ1)) | _ => e_cI (m_X4_wearers 1 x1 σ1) (fun r4 σ3 => some (r4, σ3))) (some ((-2), σ1))))
theorem om_X6_toldOfCoat {G : KW} {l : Launch} (x1 : Int32) (x2 : Int32)  (σ : Sg) : Okk G l cX6_toldOfCoat 3 RX6 (some .int) (rmo 1 23) ccI 0 [some (k_rr G 0), some (.int x1), some (.int x2)] [] σ (m_X6_toldOfCoat x1 x2 σ) := by
  unfold m_X6_toldOfCoat
  refine ok_aload0 (dq_of td_X6_toldOfCoat 0 rfl) ?_
  refine ok_get (v := k_rr G 1) fl_X6_10 (by decide) ko_0 rfl (dq_of td_X6_toldOfCoat 1 rfl) ?_
  refine ok_iload1 (dq_of td_X6_toldOfCoat 2 rfl) ?_
  refine call_X4_hasCoat ml_X6_98 tw_1 ⟨Nat.le_of_ble_eq_true rfl, Nat.le_of_ble_eq_true rfl⟩ ⟨Nat.zero_le _, Nat.zero_le _⟩ (Nat.le_of_ble_eq_true rfl) (dq_of td_X6_toldOfCoat 3 rfl) (fun r2 σ1 => ?_)
  refine ok_if_ne (tgt := 14) (dq_of td_X6_toldOfCoat 4 rfl) (by decide) ?_ ?_
  · refine ok_iload2 (dq_of td_X6_toldOfCoat 7 rfl) ?_
    refine ok_tsw (tgt := 111) (dq_of td_X6_toldOfCoat 8 rfl) (by decide) (by decide) ?_ ?_
    · refine ok_bipush (v := (-2)) (dq_of td_X6_toldOfCoat 44 rfl) (by decide) ?_
      exact ok_iret (dq_of td_X6_toldOfCoat 45 rfl)
    · intro j hj
      match j, hj with
      | 0, _ =>
        refine ⟨_, 52, rfl, by decide, ?_⟩
        refine ok_aload0 (dq_of td_X6_toldOfCoat 9 rfl) ?_
        refine ok_get (v := k_rr G 1) fl_X6_10 (by decide) ko_0 rfl (dq_of td_X6_toldOfCoat 10 rfl) ?_
        refine ok_get (v := k_rr G 8) fl_X6_193 (by decide) (isT_kd tw_1) rfl (dq_of td_X6_toldOfCoat 11 rfl) ?_
        refine ok_iload1 (dq_of td_X6_toldOfCoat 12 rfl) ?_
        refine ok_iald ka_8 (dq_of td_X6_toldOfCoat 13 rfl) ?_
        exact ok_iret (dq_of td_X6_toldOfCoat 14 rfl)
      | 1, _ =>
        refine ⟨_, 62, rfl, by decide, ?_⟩
        refine ok_aload0 (dq_of td_X6_toldOfCoat 15 rfl) ?_
        refine ok_get (v := k_rr G 1) fl_X6_10 (by decide) ko_0 rfl (dq_of td_X6_toldOfCoat 16 rfl) ?_
        refine ok_get (v := k_rr G 9) fl_X6_199 (by decide) (isT_kd tw_1) rfl (dq_of td_X6_toldOfCoat 17 rfl) ?_
        refine ok_iload1 (dq_of td_X6_toldOfCoat 18 rfl) ?_
        refine ok_iald ka_9 (dq_of td_X6_toldOfCoat 19 rfl) ?_
        exact ok_iret (dq_of td_X6_toldOfCoat 20 rfl)
      | 2, _ =>
        refine ⟨_, 72, rfl, by decide, ?_⟩
        refine ok_aload0 (dq_of td_X6_toldOfCoat 21 rfl) ?_
        refine ok_get (v := k_rr G 1) fl_X6_10 (by decide) ko_0 rfl (dq_of td_X6_toldOfCoat 22 rfl) ?_
        refine ok_get (v := k_rr G 10) fl_X6_202 (by decide) (isT_kd tw_1) rfl (dq_of td_X6_toldOfCoat 23 rfl) ?_
        refine ok_iload1 (dq_of td_X6_toldOfCoat 24 rfl) ?_
        refine ok_iald ka_10 (dq_of td_X6_toldOfCoat 25 rfl) ?_
        exact ok_iret (dq_of td_X6_toldOfCoat 26 rfl)
      | 3, _ =>
        refine ⟨_, 82, rfl, by decide, ?_⟩
        refine ok_aload0 (dq_of td_X6_toldOfCoat 27 rfl) ?_
        refine ok_get (v := k_rr G 1) fl_X6_10 (by decide) ko_0 rfl (dq_of td_X6_toldOfCoat 28 rfl) ?_
        refine ok_get (v := k_rr G 11) fl_X6_312 (by decide) (isT_kd tw_1) rfl (dq_of td_X6_toldOfCoat 29 rfl) ?_
        refine ok_iload1 (dq_of td_X6_toldOfCoat 30 rfl) ?_
        refine ok_iald ka_11 (dq_of td_X6_toldOfCoat 31 rfl) ?_
        exact ok_iret (dq_of td_X6_toldOfCoat 32 rfl)
      | 4, _ =>
        refine ⟨_, 92, rfl, by decide, ?_⟩
        refine ok_aload0 (dq_of td_X6_toldOfCoat 33 rfl) ?_
        refine ok_get (v := k_rr G 1) fl_X6_10 (by decide) ko_0 rfl (dq_of td_X6_toldOfCoat 34 rfl) ?_
        refine ok_get (v := k_rr G 12) fl_X6_315 (by decide) (isT_kd tw_1) rfl (dq_of td_X6_toldOfCoat 35 rfl) ?_
        refine ok_iload1 (dq_of td_X6_toldOfCoat 36 rfl) ?_
        refine ok_iald ka_12 (dq_of td_X6_toldOfCoat 37 rfl) ?_
        exact ok_iret (dq_of td_X6_toldOfCoat 38 rfl)
      | 5, _ =>
        refine ⟨_, 102, rfl, by decide, ?_⟩
        refine ok_aload0 (dq_of td_X6_toldOfCoat 39 rfl) ?_
        refine ok_get (v := k_rr G 1) fl_X6_10 (by decide) ko_0 rfl (dq_of td_X6_toldOfCoat 40 rfl) ?_
        refine ok_iload1 (dq_of td_X6_toldOfCoat 41 rfl) ?_
        refine call_X4_wearers ml_X6_104 tw_1 ⟨Nat.le_of_ble_eq_true rfl, Nat.le_of_ble_eq_true rfl⟩ ⟨Nat.zero_le _, Nat.zero_le _⟩ (Nat.le_of_ble_eq_true rfl) (dq_of td_X6_toldOfCoat 42 rfl) (fun r4 σ3 => ?_)
        exact ok_iret (dq_of td_X6_toldOfCoat 43 rfl)
      | j + 6, hj => exact absurd hj (by omega)
  · refine ok_bipush (v := (-2)) (dq_of td_X6_toldOfCoat 5 rfl) (by decide) ?_
    exact ok_iret (dq_of td_X6_toldOfCoat 6 rfl)
theorem ct_X6_toldOfCoat {G : KW} {l : Launch} (x1 : Int32) (x2 : Int32)  (σ : Sg) : ∀ b, m_X6_toldOfCoat x1 x2 σ = some b → MetF G l yX6_toldOfCoat cX6_toldOfCoat 3 (some .int) 1 23 [k_rr G 0, .int x1, .int x2] (k_wl G σ) (ccI b).1 (k_wl G (ccI b).2) :=
  met_of (by decide) (Nat.le_of_ble_eq_true rfl) rfl (om_X6_toldOfCoat _ _  σ)
theorem call_X6_toldOfCoat {G : KW} {l : Launch} {cc : ByteArray} {nL : Nat} {own : String} {rt : Option FieldType} {R : Room} {α : Type} {X : State → Array Value → Method → Prop} {Z : α → List Frame → Array Value → State → State → Prop} {k0 n0 pc index : Nat} {L : List (Option Value)} {S : List Value} {σ : Sg} {F : Int32 → Sg → Option α} {x1 : Int32} {x2 : Int32} (lk : MLk own index yX6_toldOfCoat)  (hR : R.frames ≥ 1 + 1 ∧ R.locals ≥ 8 + (3 + 11) + 23) (hcs : k0 ≤ R.cells ∧ n0 ≤ R.slots) (hro : (S.map fun v => v.category).sum ≤ 8) (d : decode cc pc = .ok (.invokevirtual index, 3)) (kk : ∀ (r : Int32) (σ' : Sg), Okg G l cc nL own rt R X Z k0 n0 (pc + 3) L (.int r :: S) σ' (F r σ')) : Okg G l cc nL own rt R X Z k0 n0 pc L (.int x2 :: .int x1 :: k_rr G 0 :: S) σ (e_cI (m_X6_toldOfCoat x1 x2 σ) F) :=
  ok_cV (cb := ccI) (As := [.int x1, .int x2]) (ct_X6_toldOfCoat _ _  σ) mo_X6_toldOfCoat hi_X6_toldOfCoat lk rfl (ci := 6) rfl rfl (by decide) ko_0 hR rfl hcs hro d (fun b => kk b.1 b.2)
/-! CoatDinner.toldOfPerson(II)I -/
def m_X6_toldOfPerson (x1 : Int32) (x2 : Int32) (σ : Sg) : Option (Int32 × Sg) := e_cI (m_X4_hasPerson 1 x1 σ) (fun r2 σ1 => (if r2 = 0 then some ((-2), σ1) else e_cI (m_X6_within x2 1 σ1) (fun r4 σ3 => (if r4 = 0 then some ((-2), σ3) else (if x2 = 0 then e_gd (k_in x1 5) (some (σ3 6 (Int32.toNatClampNeg x1), σ3)) else e_gd (k_in x1 5) (some (σ3 7 (Int32.toNatClampNeg x1), σ3)))))))
theorem om_X6_toldOfPerson {G : KW} {l : Launch} (x1 : Int32) (x2 : Int32)  (σ : Sg) : Okk G l cX6_toldOfPerson 3 RX6 (some .int) (rmo 1 21) ccI 0 [some (k_rr G 0), some (.int x1), some (.int x2)] [] σ (m_X6_toldOfPerson x1 x2 σ) := by
  unfold m_X6_toldOfPerson
  refine ok_aload0 (dq_of td_X6_toldOfPerson 0 rfl) ?_
  refine ok_get (v := k_rr G 1) fl_X6_10 (by decide) ko_0 rfl (dq_of td_X6_toldOfPerson 1 rfl) ?_
  refine ok_iload1 (dq_of td_X6_toldOfPerson 2 rfl) ?_
  refine call_X4_hasPerson ml_X6_70 tw_1 ⟨Nat.le_of_ble_eq_true rfl, Nat.le_of_ble_eq_true rfl⟩ ⟨Nat.zero_le _, Nat.zero_le _⟩ (Nat.le_of_ble_eq_true rfl) (dq_of td_X6_toldOfPerson 3 rfl) (fun r2 σ1 => ?_)
  refine ok_if_eq (tgt := 19) (dq_of td_X6_toldOfPerson 4 rfl) (by decide) ?_ ?_
  · refine ok_bipush (v := (-2)) (dq_of td_X6_toldOfPerson 9 rfl) (by decide) ?_
    exact ok_iret (dq_of td_X6_toldOfPerson 10 rfl)
  · refine ok_iload2 (dq_of td_X6_toldOfPerson 5 rfl) ?_
    refine ok_iconst (v := 1) (dq_of td_X6_toldOfPerson 6 rfl) (by decide) ?_
    refine call_X6_within ml_X6_66  ⟨Nat.le_of_ble_eq_true rfl, Nat.le_of_ble_eq_true rfl⟩ ⟨Nat.zero_le _, Nat.zero_le _⟩ (Nat.le_of_ble_eq_true rfl) (dq_of td_X6_toldOfPerson 7 rfl) (fun r4 σ3 => ?_)
    refine ok_if_ne (tgt := 22) (dq_of td_X6_toldOfPerson 8 rfl) (by decide) ?_ ?_
    · refine ok_iload2 (dq_of td_X6_toldOfPerson 11 rfl) ?_
      refine ok_if_ne (tgt := 38) (dq_of td_X6_toldOfPerson 12 rfl) (by decide) ?_ ?_
      · refine ok_aload0 (dq_of td_X6_toldOfPerson 19 rfl) ?_
        refine ok_get (v := k_rr G 1) fl_X6_10 (by decide) ko_0 rfl (dq_of td_X6_toldOfPerson 20 rfl) ?_
        refine ok_get (v := k_rr G 7) fl_X6_121 (by decide) (isT_kd tw_1) rfl (dq_of td_X6_toldOfPerson 21 rfl) ?_
        refine ok_iload1 (dq_of td_X6_toldOfPerson 22 rfl) ?_
        refine ok_iald ka_7 (dq_of td_X6_toldOfPerson 23 rfl) ?_
        exact ok_iret (dq_of td_X6_toldOfPerson 24 rfl)
      · refine ok_aload0 (dq_of td_X6_toldOfPerson 13 rfl) ?_
        refine ok_get (v := k_rr G 1) fl_X6_10 (by decide) ko_0 rfl (dq_of td_X6_toldOfPerson 14 rfl) ?_
        refine ok_get (v := k_rr G 6) fl_X6_117 (by decide) (isT_kd tw_1) rfl (dq_of td_X6_toldOfPerson 15 rfl) ?_
        refine ok_iload1 (dq_of td_X6_toldOfPerson 16 rfl) ?_
        refine ok_iald ka_6 (dq_of td_X6_toldOfPerson 17 rfl) ?_
        refine ok_goto (tgt := 47) (dq_of td_X6_toldOfPerson 18 rfl) (by decide) ?_
        exact ok_iret (dq_of td_X6_toldOfPerson 24 rfl)
    · refine ok_bipush (v := (-2)) (dq_of td_X6_toldOfPerson 9 rfl) (by decide) ?_
      exact ok_iret (dq_of td_X6_toldOfPerson 10 rfl)
theorem ct_X6_toldOfPerson {G : KW} {l : Launch} (x1 : Int32) (x2 : Int32)  (σ : Sg) : ∀ b, m_X6_toldOfPerson x1 x2 σ = some b → MetF G l yX6_toldOfPerson cX6_toldOfPerson 3 (some .int) 1 21 [k_rr G 0, .int x1, .int x2] (k_wl G σ) (ccI b).1 (k_wl G (ccI b).2) :=
  met_of (by decide) (Nat.le_of_ble_eq_true rfl) rfl (om_X6_toldOfPerson _ _  σ)
theorem call_X6_toldOfPerson {G : KW} {l : Launch} {cc : ByteArray} {nL : Nat} {own : String} {rt : Option FieldType} {R : Room} {α : Type} {X : State → Array Value → Method → Prop} {Z : α → List Frame → Array Value → State → State → Prop} {k0 n0 pc index : Nat} {L : List (Option Value)} {S : List Value} {σ : Sg} {F : Int32 → Sg → Option α} {x1 : Int32} {x2 : Int32} (lk : MLk own index yX6_toldOfPerson)  (hR : R.frames ≥ 1 + 1 ∧ R.locals ≥ 8 + (3 + 11) + 21) (hcs : k0 ≤ R.cells ∧ n0 ≤ R.slots) (hro : (S.map fun v => v.category).sum ≤ 8) (d : decode cc pc = .ok (.invokevirtual index, 3)) (kk : ∀ (r : Int32) (σ' : Sg), Okg G l cc nL own rt R X Z k0 n0 (pc + 3) L (.int r :: S) σ' (F r σ')) : Okg G l cc nL own rt R X Z k0 n0 pc L (.int x2 :: .int x1 :: k_rr G 0 :: S) σ (e_cI (m_X6_toldOfPerson x1 x2 σ) F) :=
  ok_cV (cb := ccI) (As := [.int x1, .int x2]) (ct_X6_toldOfPerson _ _  σ) mo_X6_toldOfPerson hi_X6_toldOfPerson lk rfl (ci := 6) rfl rfl (by decide) ko_0 hR rfl hcs hro d (fun b => kk b.1 b.2)
/-! CoatDinner.told(I)I -/
def b_X6_told_41 (x1 : Int32)  (σ : Sg) : Option (Int32 × Sg) := (if x1 < 100 then some ((-2), σ) else (if 600 ≤ x1 then some ((-2), σ) else e_cI (m_X6_toldOfPerson ((x1 / 100) - 1) (jrm x1 100) σ) (fun r4 σ3 => some (r4, σ3))))
theorem ob_X6_told_41 {G : KW} {l : Launch} (x1 : Int32)    (σ : Sg) : Okk G l cX6_told 2 RX6 (some .int) (rmo 2 45) ccI 41 [some (k_rr G 0), some (.int x1)] [] σ (b_X6_told_41 x1  σ) := by
  unfold b_X6_told_41
  refine ok_iload1 (dq_of td_X6_told 25 rfl) ?_
  refine ok_bipush (v := 100) (dq_of td_X6_told 26 rfl) (by decide) ?_
  refine ok_ic_lt (tgt := 69) (dq_of td_X6_told 27 rfl) (by decide) ?_ ?_
  · refine ok_bipush (v := (-2)) (dq_of td_X6_told 42 rfl) (by decide) ?_
    exact ok_iret (dq_of td_X6_told 43 rfl)
  · refine ok_iload1 (dq_of td_X6_told 28 rfl) ?_
    refine ok_sipush (v := 600) (dq_of td_X6_told 29 rfl) (by decide) ?_
    refine ok_ic_ge (tgt := 69) (dq_of td_X6_told 30 rfl) (by decide) ?_ ?_
    · refine ok_bipush (v := (-2)) (dq_of td_X6_told 42 rfl) (by decide) ?_
      exact ok_iret (dq_of td_X6_told 43 rfl)
    · refine ok_aload0 (dq_of td_X6_told 31 rfl) ?_
      refine ok_iload1 (dq_of td_X6_told 32 rfl) ?_
      refine ok_bipush (v := 100) (dq_of td_X6_told 33 rfl) (by decide) ?_
      refine ok_idiv (dq_of td_X6_told 34 rfl) (by decide) ?_
      refine ok_iconst (v := 1) (dq_of td_X6_told 35 rfl) (by decide) ?_
      refine ok_isub (dq_of td_X6_told 36 rfl) ?_
      refine ok_iload1 (dq_of td_X6_told 37 rfl) ?_
      refine ok_bipush (v := 100) (dq_of td_X6_told 38 rfl) (by decide) ?_
      refine ok_irem (dq_of td_X6_told 39 rfl) (by decide) ?_
      refine call_X6_toldOfPerson ml_X6_290  ⟨Nat.le_of_ble_eq_true rfl, Nat.le_of_ble_eq_true rfl⟩ ⟨Nat.zero_le _, Nat.zero_le _⟩ (Nat.le_of_ble_eq_true rfl) (dq_of td_X6_told 40 rfl) (fun r4 σ3 => ?_)
      exact ok_iret (dq_of td_X6_told 41 rfl)
def m_X6_told (x1 : Int32) (σ : Sg) : Option (Int32 × Sg) := e_cI (m_X6_within x1 4 σ) (fun r2 σ1 => (if r2 = 0 then (if x1 < 10 then b_X6_told_41 x1 σ1 else (if 60 ≤ x1 then b_X6_told_41 x1 σ1 else e_cI (m_X6_toldOfCoat ((x1 / 10) - 1) (jrm x1 10) σ1) (fun r6 σ5 => some (r6, σ5)))) else e_cI (m_X6_toldOfAll x1 σ1) (fun r8 σ7 => some (r8, σ7))))
theorem om_X6_told {G : KW} {l : Launch} (x1 : Int32)  (σ : Sg) : Okk G l cX6_told 2 RX6 (some .int) (rmo 2 45) ccI 0 [some (k_rr G 0), some (.int x1)] [] σ (m_X6_told x1 σ) := by
  unfold m_X6_told
  refine ok_iload1 (dq_of td_X6_told 0 rfl) ?_
  refine ok_iconst (v := 4) (dq_of td_X6_told 1 rfl) (by decide) ?_
  refine call_X6_within ml_X6_66  ⟨Nat.le_of_ble_eq_true rfl, Nat.le_of_ble_eq_true rfl⟩ ⟨Nat.zero_le _, Nat.zero_le _⟩ (Nat.le_of_ble_eq_true rfl) (dq_of td_X6_told 2 rfl) (fun r2 σ1 => ?_)
  refine ok_if_eq (tgt := 14) (dq_of td_X6_told 3 rfl) (by decide) ?_ ?_
  · refine ok_iload1 (dq_of td_X6_told 8 rfl) ?_
    refine ok_bipush (v := 10) (dq_of td_X6_told 9 rfl) (by decide) ?_
    refine ok_ic_lt (tgt := 41) (dq_of td_X6_told 10 rfl) (by decide) ?_ ?_
    · refine ok_wk (wk_s (wk_s wk_0)) ?_
      exact ob_X6_told_41 _   _
    · refine ok_iload1 (dq_of td_X6_told 11 rfl) ?_
      refine ok_bipush (v := 60) (dq_of td_X6_told 12 rfl) (by decide) ?_
      refine ok_ic_ge (tgt := 41) (dq_of td_X6_told 13 rfl) (by decide) ?_ ?_
      · refine ok_wk (wk_s (wk_s wk_0)) ?_
        exact ob_X6_told_41 _   _
      · refine ok_aload0 (dq_of td_X6_told 14 rfl) ?_
        refine ok_iload1 (dq_of td_X6_told 15 rfl) ?_
        refine ok_bipush (v := 10) (dq_of td_X6_told 16 rfl) (by decide) ?_
        refine ok_idiv (dq_of td_X6_told 17 rfl) (by decide) ?_
        refine ok_iconst (v := 1) (dq_of td_X6_told 18 rfl) (by decide) ?_
        refine ok_isub (dq_of td_X6_told 19 rfl) ?_
        refine ok_iload1 (dq_of td_X6_told 20 rfl) ?_
        refine ok_bipush (v := 10) (dq_of td_X6_told 21 rfl) (by decide) ?_
        refine ok_irem (dq_of td_X6_told 22 rfl) (by decide) ?_
        refine call_X6_toldOfCoat ml_X6_286  ⟨Nat.le_of_ble_eq_true rfl, Nat.le_of_ble_eq_true rfl⟩ ⟨Nat.zero_le _, Nat.zero_le _⟩ (Nat.le_of_ble_eq_true rfl) (dq_of td_X6_told 23 rfl) (fun r6 σ5 => ?_)
        exact ok_iret (dq_of td_X6_told 24 rfl)
  · refine ok_aload0 (dq_of td_X6_told 4 rfl) ?_
    refine ok_iload1 (dq_of td_X6_told 5 rfl) ?_
    refine call_X6_toldOfAll ml_X6_283  ⟨Nat.le_of_ble_eq_true rfl, Nat.le_of_ble_eq_true rfl⟩ ⟨Nat.zero_le _, Nat.zero_le _⟩ (Nat.le_of_ble_eq_true rfl) (dq_of td_X6_told 6 rfl) (fun r8 σ7 => ?_)
    exact ok_iret (dq_of td_X6_told 7 rfl)
theorem ct_X6_told {G : KW} {l : Launch} (x1 : Int32)  (σ : Sg) : ∀ b, m_X6_told x1 σ = some b → MetF G l yX6_told cX6_told 2 (some .int) 2 45 [k_rr G 0, .int x1] (k_wl G σ) (ccI b).1 (k_wl G (ccI b).2) :=
  met_of (by decide) (Nat.le_of_ble_eq_true rfl) rfl (om_X6_told _  σ)
theorem call_X6_told {G : KW} {l : Launch} {cc : ByteArray} {nL : Nat} {own : String} {rt : Option FieldType} {R : Room} {α : Type} {X : State → Array Value → Method → Prop} {Z : α → List Frame → Array Value → State → State → Prop} {k0 n0 pc index : Nat} {L : List (Option Value)} {S : List Value} {σ : Sg} {F : Int32 → Sg → Option α} {x1 : Int32} (lk : MLk own index yX6_told)  (hR : R.frames ≥ 2 + 1 ∧ R.locals ≥ 8 + (2 + 11) + 45) (hcs : k0 ≤ R.cells ∧ n0 ≤ R.slots) (hro : (S.map fun v => v.category).sum ≤ 8) (d : decode cc pc = .ok (.invokevirtual index, 3)) (kk : ∀ (r : Int32) (σ' : Sg), Okg G l cc nL own rt R X Z k0 n0 (pc + 3) L (.int r :: S) σ' (F r σ')) : Okg G l cc nL own rt R X Z k0 n0 pc L (.int x1 :: k_rr G 0 :: S) σ (e_cI (m_X6_told x1 σ) F) :=
  ok_cV (cb := ccI) (As := [.int x1]) (ct_X6_told _  σ) mo_X6_told hi_X6_told lk rfl (ci := 6) rfl rfl (by decide) ko_0 hR rfl hcs hro d (fun b => kk b.1 b.2)
/-! CoatDinnerModel.in(III)Z -/
def m_X7_in (x0 : Int32) (x1 : Int32) (x2 : Int32) (σ : Sg) : Option (Int32 × Sg) := (if x0 < x1 then e_rz 0 σ else (if x2 < x0 then e_rz 0 σ else e_rz 1 σ))
theorem om_X7_in {G : KW} {l : Launch} (x0 : Int32) (x1 : Int32) (x2 : Int32)  (σ : Sg) : Okk G l cX7_in 3 RX7 (some .boolean) (rmo 0 0) ccI 0 [some (.int x0), some (.int x1), some (.int x2)] [] σ (m_X7_in x0 x1 x2 σ) := by
  unfold m_X7_in
  refine ok_iload0 (dq_of td_X7_in 0 rfl) ?_
  refine ok_iload1 (dq_of td_X7_in 1 rfl) ?_
  refine ok_ic_lt (tgt := 14) (dq_of td_X7_in 2 rfl) (by decide) ?_ ?_
  · refine ok_iconst (v := 0) (dq_of td_X7_in 8 rfl) (by decide) ?_
    exact ok_zret (dq_of td_X7_in 9 rfl)
  · refine ok_iload0 (dq_of td_X7_in 3 rfl) ?_
    refine ok_iload2 (dq_of td_X7_in 4 rfl) ?_
    refine ok_ic_gt (tgt := 14) (dq_of td_X7_in 5 rfl) (by decide) ?_ ?_
    · refine ok_iconst (v := 0) (dq_of td_X7_in 8 rfl) (by decide) ?_
      exact ok_zret (dq_of td_X7_in 9 rfl)
    · refine ok_iconst (v := 1) (dq_of td_X7_in 6 rfl) (by decide) ?_
      refine ok_goto (tgt := 15) (dq_of td_X7_in 7 rfl) (by decide) ?_
      exact ok_zret (dq_of td_X7_in 9 rfl)
theorem ct_X7_in {G : KW} {l : Launch} (x0 : Int32) (x1 : Int32) (x2 : Int32)  (σ : Sg) : ∀ b, m_X7_in x0 x1 x2 σ = some b → MetF G l yX7_in cX7_in 3 (some .boolean) 0 0 [.int x0, .int x1, .int x2] (k_wl G σ) (ccI b).1 (k_wl G (ccI b).2) :=
  met_of (by decide) (Nat.le_of_ble_eq_true rfl) rfl (om_X7_in _ _ _  σ)
theorem call_X7_in {G : KW} {l : Launch} {cc : ByteArray} {nL : Nat} {own : String} {rt : Option FieldType} {R : Room} {α : Type} {X : State → Array Value → Method → Prop} {Z : α → List Frame → Array Value → State → State → Prop} {k0 n0 pc index : Nat} {L : List (Option Value)} {S : List Value} {σ : Sg} {F : Int32 → Sg → Option α} {x0 : Int32} {x1 : Int32} {x2 : Int32} (lk : MLk own index yX7_in)  (hR : R.frames ≥ 0 + 1 ∧ R.locals ≥ 8 + (3 + 11) + 0) (hcs : k0 ≤ R.cells ∧ n0 ≤ R.slots) (hro : (S.map fun v => v.category).sum ≤ 8) (d : decode cc pc = .ok (.invokestatic index, 3)) (kk : ∀ (r : Int32) (σ' : Sg), Okg G l cc nL own rt R X Z k0 n0 (pc + 3) L (.int r :: S) σ' (F r σ')) : Okg G l cc nL own rt R X Z k0 n0 pc L (.int x2 :: .int x1 :: .int x0 :: S) σ (e_cI (m_X7_in x0 x1 x2 σ) F) :=
  ok_cS (cb := ccI) (ct_X7_in _ _ _  σ) mo_X7_in hi_X7_in lk rfl hR rfl hcs hro d (fun b => kk b.1 b.2)
/-! CoatDinnerModel.has(II)Z -/
def m_X7_has (x0 : Int32) (x1 : Int32) (σ : Sg) : Option (Int32 × Sg) := (if ((jsr x0 x1) &&& 1) = 1 then e_rz 1 σ else e_rz 0 σ)
theorem om_X7_has {G : KW} {l : Launch} (x0 : Int32) (x1 : Int32)  (σ : Sg) : Okk G l cX7_has 2 RX7 (some .boolean) (rmo 0 0) ccI 0 [some (.int x0), some (.int x1)] [] σ (m_X7_has x0 x1 σ) := by
  unfold m_X7_has
  refine ok_iload0 (dq_of td_X7_has 0 rfl) ?_
  refine ok_iload1 (dq_of td_X7_has 1 rfl) ?_
  refine ok_ishr (dq_of td_X7_has 2 rfl) ?_
  refine ok_iconst (v := 1) (dq_of td_X7_has 3 rfl) (by decide) ?_
  refine ok_iand (dq_of td_X7_has 4 rfl) ?_
  refine ok_iconst (v := 1) (dq_of td_X7_has 5 rfl) (by decide) ?_
  refine ok_ic_ne (tgt := 13) (dq_of td_X7_has 6 rfl) (by decide) ?_ ?_
  · refine ok_iconst (v := 0) (dq_of td_X7_has 9 rfl) (by decide) ?_
    exact ok_zret (dq_of td_X7_has 10 rfl)
  · refine ok_iconst (v := 1) (dq_of td_X7_has 7 rfl) (by decide) ?_
    refine ok_goto (tgt := 14) (dq_of td_X7_has 8 rfl) (by decide) ?_
    exact ok_zret (dq_of td_X7_has 10 rfl)
theorem ct_X7_has {G : KW} {l : Launch} (x0 : Int32) (x1 : Int32)  (σ : Sg) : ∀ b, m_X7_has x0 x1 σ = some b → MetF G l yX7_has cX7_has 2 (some .boolean) 0 0 [.int x0, .int x1] (k_wl G σ) (ccI b).1 (k_wl G (ccI b).2) :=
  met_of (by decide) (Nat.le_of_ble_eq_true rfl) rfl (om_X7_has _ _  σ)
theorem call_X7_has {G : KW} {l : Launch} {cc : ByteArray} {nL : Nat} {own : String} {rt : Option FieldType} {R : Room} {α : Type} {X : State → Array Value → Method → Prop} {Z : α → List Frame → Array Value → State → State → Prop} {k0 n0 pc index : Nat} {L : List (Option Value)} {S : List Value} {σ : Sg} {F : Int32 → Sg → Option α} {x0 : Int32} {x1 : Int32} (lk : MLk own index yX7_has)  (hR : R.frames ≥ 0 + 1 ∧ R.locals ≥ 8 + (2 + 11) + 0) (hcs : k0 ≤ R.cells ∧ n0 ≤ R.slots) (hro : (S.map fun v => v.category).sum ≤ 8) (d : decode cc pc = .ok (.invokestatic index, 3)) (kk : ∀ (r : Int32) (σ' : Sg), Okg G l cc nL own rt R X Z k0 n0 (pc + 3) L (.int r :: S) σ' (F r σ')) : Okg G l cc nL own rt R X Z k0 n0 pc L (.int x1 :: .int x0 :: S) σ (e_cI (m_X7_has x0 x1 σ) F) :=
  ok_cS (cb := ccI) (ct_X7_has _ _  σ) mo_X7_has hi_X7_has lk rfl hR rfl hcs hro d (fun b => kk b.1 b.2)
/-! CoatDinnerModel.bits(I)I -/
def d_X7_bits_4 (x0 : Int32) (K : Int32 → Sg → Option (Int32 × Sg)) (H : Int32 → Int32 → Sg → Option (Int32 × Sg)) (x1 : Int32) (x2 : Int32) (σ : Sg) : Option (Int32 × Sg) := (if 6 ≤ x2 then K x1 σ else e_lt (x1 + ((jsr x0 x2) &&& 1)) (fun v1 => H v1 (x2 + 1) σ))
theorem od_X7_bits_4 {G : KW} {l : Launch} (x0 : Int32)  {K : Int32 → Sg → Option (Int32 × Sg)} {H : Int32 → Int32 → Sg → Option (Int32 × Sg)} (hK : ∀ (x1 : Int32) (σ : Sg), Okk G l cX7_bits 3 RX7 (some .int) (rmo 0 0) ccI 24 [none, some (.int x1), none] [] σ (K x1 σ)) (hH : ∀ (x1 : Int32) (x2 : Int32) (σ : Sg), Okk G l cX7_bits 3 RX7 (some .int) (rmo 0 0) ccI 4 [some (.int x0), some (.int x1), some (.int x2)] [] σ (H x1 x2 σ)) (x1 : Int32) (x2 : Int32)  (σ : Sg) : Okk G l cX7_bits 3 RX7 (some .int) (rmo 0 0) ccI 4 [some (.int x0), some (.int x1), some (.int x2)] [] σ (d_X7_bits_4 x0 K H x1 x2 σ) := by
  unfold d_X7_bits_4
  refine ok_iload2 (dq_of td_X7_bits 4 rfl) ?_
  refine ok_bipush (v := 6) (dq_of td_X7_bits 5 rfl) (by decide) ?_
  refine ok_ic_ge (tgt := 24) (dq_of td_X7_bits 6 rfl) (by decide) ?_ ?_
  · refine ok_wk (wk_n (wk_s (wk_n wk_0))) ?_
    exact hK _ _
  · refine ok_iload1 (dq_of td_X7_bits 7 rfl) ?_
    refine ok_iload0 (dq_of td_X7_bits 8 rfl) ?_
    refine ok_iload2 (dq_of td_X7_bits 9 rfl) ?_
    refine ok_ishr (dq_of td_X7_bits 10 rfl) ?_
    refine ok_iconst (v := 1) (dq_of td_X7_bits 11 rfl) (by decide) ?_
    refine ok_iand (dq_of td_X7_bits 12 rfl) ?_
    refine ok_iadd (dq_of td_X7_bits 13 rfl) ?_
    refine ok_gI (fun v1 => ?_)
    refine ok_istore1 (dq_of td_X7_bits 14 rfl) rfl (by decide) ?_
    refine ok_jinc2 (w := 1) (dq_of td_X7_bits 15 rfl) (by decide) rfl (by decide) ?_
    refine ok_goto (tgt := 4) (dq_of td_X7_bits 16 rfl) (by decide) ?_
    refine ok_wk (wk_s (wk_s (wk_s wk_0))) ?_
    exact hH _ _ _
theorem ld_X7_bits_4 {G : KW} {l : Launch} (x0 : Int32)  {K : Int32 → Sg → Option (Int32 × Sg)} (hK : ∀ (x1 : Int32) (σ : Sg), Okk G l cX7_bits 3 RX7 (some .int) (rmo 0 0) ccI 24 [none, some (.int x1), none] [] σ (K x1 σ)) (n : Nat) (x1 : Int32) (x2 : Int32) (σ : Sg) : Okk G l cX7_bits 3 RX7 (some .int) (rmo 0 0) ccI 4 [some (.int x0), some (.int x1), some (.int x2)] [] σ (e_lp2 (d_X7_bits_4 x0 K) n x1 x2 σ) :=
  ok_lp2 (Lf := fun (x1 : Int32) (x2 : Int32) => [some (.int x0), some (.int x1), some (.int x2)]) (fun _ hH x1 x2 σ => od_X7_bits_4 _  hK hH x1 x2 σ) n x1 x2 σ
def m_X7_bits (x0 : Int32) (σ : Sg) : Option (Int32 × Sg) := e_lp2 (d_X7_bits_4 x0 (fun x1q2 σ2 => some (x1q2, σ2))) e_F 0 0 σ
theorem om_X7_bits {G : KW} {l : Launch} (x0 : Int32)  (σ : Sg) : Okk G l cX7_bits 3 RX7 (some .int) (rmo 0 0) ccI 0 [some (.int x0), none, none] [] σ (m_X7_bits x0 σ) := by
  unfold m_X7_bits
  refine ok_iconst (v := 0) (dq_of td_X7_bits 0 rfl) (by decide) ?_
  refine ok_istore1 (dq_of td_X7_bits 1 rfl) rfl (by decide) ?_
  refine ok_iconst (v := 0) (dq_of td_X7_bits 2 rfl) (by decide) ?_
  refine ok_istore2 (dq_of td_X7_bits 3 rfl) rfl (by decide) ?_
  refine ok_wk (wk_s (wk_s (wk_s wk_0))) ?_
  refine ld_X7_bits_4 _  (fun x1q2 σ2 => ?_) _ _ _ _
  refine ok_iload1 (dq_of td_X7_bits 17 rfl) ?_
  exact ok_iret (dq_of td_X7_bits 18 rfl)
theorem ct_X7_bits {G : KW} {l : Launch} (x0 : Int32)  (σ : Sg) : ∀ b, m_X7_bits x0 σ = some b → MetF G l yX7_bits cX7_bits 3 (some .int) 0 0 [.int x0] (k_wl G σ) (ccI b).1 (k_wl G (ccI b).2) :=
  met_of (by decide) (Nat.le_of_ble_eq_true rfl) rfl (om_X7_bits _  σ)
theorem call_X7_bits {G : KW} {l : Launch} {cc : ByteArray} {nL : Nat} {own : String} {rt : Option FieldType} {R : Room} {α : Type} {X : State → Array Value → Method → Prop} {Z : α → List Frame → Array Value → State → State → Prop} {k0 n0 pc index : Nat} {L : List (Option Value)} {S : List Value} {σ : Sg} {F : Int32 → Sg → Option α} {x0 : Int32} (lk : MLk own index yX7_bits)  (hR : R.frames ≥ 0 + 1 ∧ R.locals ≥ 8 + (3 + 11) + 0) (hcs : k0 ≤ R.cells ∧ n0 ≤ R.slots) (hro : (S.map fun v => v.category).sum ≤ 8) (d : decode cc pc = .ok (.invokestatic index, 3)) (kk : ∀ (r : Int32) (σ' : Sg), Okg G l cc nL own rt R X Z k0 n0 (pc + 3) L (.int r :: S) σ' (F r σ')) : Okg G l cc nL own rt R X Z k0 n0 pc L (.int x0 :: S) σ (e_cI (m_X7_bits x0 σ) F) :=
  ok_cS (cb := ccI) (ct_X7_bits _  σ) mo_X7_bits hi_X7_bits lk rfl hR rfl hcs hro d (fun b => kk b.1 b.2)
/-! CoatDinnerModel.isThere(I)Z -/
def m_X7_isThere (x1 : Int32) (σ : Sg) : Option (Int32 × Sg) := e_cI (m_X7_in x1 0 4 σ) (fun r2 σ1 => (if r2 = 0 then e_rz 0 σ1 else e_cI (m_X7_has (σ1 100 0) x1 σ1) (fun r4 σ3 => (if r4 = 0 then e_rz 0 σ3 else e_rz 1 σ3))))
theorem om_X7_isThere {G : KW} {l : Launch} (x1 : Int32)  (σ : Sg) : Okk G l cX7_isThere 2 RX7 (some .boolean) (rmo 1 22) ccI 0 [some (k_rr G 100), some (.int x1)] [] σ (m_X7_isThere x1 σ) := by
  unfold m_X7_isThere
  refine ok_iload1 (dq_of td_X7_isThere 0 rfl) ?_
  refine ok_iconst (v := 0) (dq_of td_X7_isThere 1 rfl) (by decide) ?_
  refine ok_iconst (v := 4) (dq_of td_X7_isThere 2 rfl) (by decide) ?_
  refine call_X7_in ml_X7_81  ⟨Nat.le_of_ble_eq_true rfl, Nat.le_of_ble_eq_true rfl⟩ ⟨Nat.zero_le _, Nat.zero_le _⟩ (Nat.le_of_ble_eq_true rfl) (dq_of td_X7_isThere 3 rfl) (fun r2 σ1 => ?_)
  refine ok_if_eq (tgt := 24) (dq_of td_X7_isThere 4 rfl) (by decide) ?_ ?_
  · refine ok_iconst (v := 0) (dq_of td_X7_isThere 12 rfl) (by decide) ?_
    exact ok_zret (dq_of td_X7_isThere 13 rfl)
  · refine ok_aload0 (dq_of td_X7_isThere 5 rfl) ?_
    refine ok_get (v := .int (σ1 100 0)) fl_X7_85 (by decide) ko_100 rfl (dq_of td_X7_isThere 6 rfl) ?_
    refine ok_iload1 (dq_of td_X7_isThere 7 rfl) ?_
    refine call_X7_has ml_X7_88  ⟨Nat.le_of_ble_eq_true rfl, Nat.le_of_ble_eq_true rfl⟩ ⟨Nat.zero_le _, Nat.zero_le _⟩ (Nat.le_of_ble_eq_true rfl) (dq_of td_X7_isThere 8 rfl) (fun r4 σ3 => ?_)
    refine ok_if_eq (tgt := 24) (dq_of td_X7_isThere 9 rfl) (by decide) ?_ ?_
    · refine ok_iconst (v := 0) (dq_of td_X7_isThere 12 rfl) (by decide) ?_
      exact ok_zret (dq_of td_X7_isThere 13 rfl)
    · refine ok_iconst (v := 1) (dq_of td_X7_isThere 10 rfl) (by decide) ?_
      refine ok_goto (tgt := 25) (dq_of td_X7_isThere 11 rfl) (by decide) ?_
      exact ok_zret (dq_of td_X7_isThere 13 rfl)
theorem ct_X7_isThere {G : KW} {l : Launch} (x1 : Int32)  (σ : Sg) : ∀ b, m_X7_isThere x1 σ = some b → MetF G l yX7_isThere cX7_isThere 2 (some .boolean) 1 22 [k_rr G 100, .int x1] (k_wl G σ) (ccI b).1 (k_wl G (ccI b).2) :=
  met_of (by decide) (Nat.le_of_ble_eq_true rfl) rfl (om_X7_isThere _  σ)
theorem call_X7_isThere {G : KW} {l : Launch} {cc : ByteArray} {nL : Nat} {own : String} {rt : Option FieldType} {R : Room} {α : Type} {X : State → Array Value → Method → Prop} {Z : α → List Frame → Array Value → State → State → Prop} {k0 n0 pc index : Nat} {L : List (Option Value)} {S : List Value} {σ : Sg} {F : Int32 → Sg → Option α} {x1 : Int32} (lk : MLk own index yX7_isThere)  (hR : R.frames ≥ 1 + 1 ∧ R.locals ≥ 8 + (2 + 11) + 22) (hcs : k0 ≤ R.cells ∧ n0 ≤ R.slots) (hro : (S.map fun v => v.category).sum ≤ 8) (d : decode cc pc = .ok (.invokevirtual index, 3)) (kk : ∀ (r : Int32) (σ' : Sg), Okg G l cc nL own rt R X Z k0 n0 (pc + 3) L (.int r :: S) σ' (F r σ')) : Okg G l cc nL own rt R X Z k0 n0 pc L (.int x1 :: k_rr G 100 :: S) σ (e_cI (m_X7_isThere x1 σ) F) :=
  ok_cV (cb := ccI) (As := [.int x1]) (ct_X7_isThere _  σ) mo_X7_isThere hi_X7_isThere lk rfl (ci := 7) rfl rfl (by decide) ko_100 hR rfl hcs hro d (fun b => kk b.1 b.2)
/-! CoatDinnerModel.isCoat(I)Z -/
def m_X7_isCoat (x1 : Int32) (σ : Sg) : Option (Int32 × Sg) := e_cI (m_X7_in x1 0 4 σ) (fun r2 σ1 => (if r2 = 0 then e_rz 0 σ1 else e_cI (m_X7_has (σ1 100 1) x1 σ1) (fun r4 σ3 => (if r4 = 0 then e_rz 0 σ3 else e_rz 1 σ3))))
theorem om_X7_isCoat {G : KW} {l : Launch} (x1 : Int32)  (σ : Sg) : Okk G l cX7_isCoat 2 RX7 (some .boolean) (rmo 1 22) ccI 0 [some (k_rr G 100), some (.int x1)] [] σ (m_X7_isCoat x1 σ) := by
  unfold m_X7_isCoat
  refine ok_iload1 (dq_of td_X7_isCoat 0 rfl) ?_
  refine ok_iconst (v := 0) (dq_of td_X7_isCoat 1 rfl) (by decide) ?_
  refine ok_iconst (v := 4) (dq_of td_X7_isCoat 2 rfl) (by decide) ?_
  refine call_X7_in ml_X7_81  ⟨Nat.le_of_ble_eq_true rfl, Nat.le_of_ble_eq_true rfl⟩ ⟨Nat.zero_le _, Nat.zero_le _⟩ (Nat.le_of_ble_eq_true rfl) (dq_of td_X7_isCoat 3 rfl) (fun r2 σ1 => ?_)
  refine ok_if_eq (tgt := 24) (dq_of td_X7_isCoat 4 rfl) (by decide) ?_ ?_
  · refine ok_iconst (v := 0) (dq_of td_X7_isCoat 12 rfl) (by decide) ?_
    exact ok_zret (dq_of td_X7_isCoat 13 rfl)
  · refine ok_aload0 (dq_of td_X7_isCoat 5 rfl) ?_
    refine ok_get (v := .int (σ1 100 1)) fl_X7_92 (by decide) ko_100 rfl (dq_of td_X7_isCoat 6 rfl) ?_
    refine ok_iload1 (dq_of td_X7_isCoat 7 rfl) ?_
    refine call_X7_has ml_X7_88  ⟨Nat.le_of_ble_eq_true rfl, Nat.le_of_ble_eq_true rfl⟩ ⟨Nat.zero_le _, Nat.zero_le _⟩ (Nat.le_of_ble_eq_true rfl) (dq_of td_X7_isCoat 8 rfl) (fun r4 σ3 => ?_)
    refine ok_if_eq (tgt := 24) (dq_of td_X7_isCoat 9 rfl) (by decide) ?_ ?_
    · refine ok_iconst (v := 0) (dq_of td_X7_isCoat 12 rfl) (by decide) ?_
      exact ok_zret (dq_of td_X7_isCoat 13 rfl)
    · refine ok_iconst (v := 1) (dq_of td_X7_isCoat 10 rfl) (by decide) ?_
      refine ok_goto (tgt := 25) (dq_of td_X7_isCoat 11 rfl) (by decide) ?_
      exact ok_zret (dq_of td_X7_isCoat 13 rfl)
theorem ct_X7_isCoat {G : KW} {l : Launch} (x1 : Int32)  (σ : Sg) : ∀ b, m_X7_isCoat x1 σ = some b → MetF G l yX7_isCoat cX7_isCoat 2 (some .boolean) 1 22 [k_rr G 100, .int x1] (k_wl G σ) (ccI b).1 (k_wl G (ccI b).2) :=
  met_of (by decide) (Nat.le_of_ble_eq_true rfl) rfl (om_X7_isCoat _  σ)
theorem call_X7_isCoat {G : KW} {l : Launch} {cc : ByteArray} {nL : Nat} {own : String} {rt : Option FieldType} {R : Room} {α : Type} {X : State → Array Value → Method → Prop} {Z : α → List Frame → Array Value → State → State → Prop} {k0 n0 pc index : Nat} {L : List (Option Value)} {S : List Value} {σ : Sg} {F : Int32 → Sg → Option α} {x1 : Int32} (lk : MLk own index yX7_isCoat)  (hR : R.frames ≥ 1 + 1 ∧ R.locals ≥ 8 + (2 + 11) + 22) (hcs : k0 ≤ R.cells ∧ n0 ≤ R.slots) (hro : (S.map fun v => v.category).sum ≤ 8) (d : decode cc pc = .ok (.invokevirtual index, 3)) (kk : ∀ (r : Int32) (σ' : Sg), Okg G l cc nL own rt R X Z k0 n0 (pc + 3) L (.int r :: S) σ' (F r σ')) : Okg G l cc nL own rt R X Z k0 n0 pc L (.int x1 :: k_rr G 100 :: S) σ (e_cI (m_X7_isCoat x1 σ) F) :=
  ok_cV (cb := ccI) (As := [.int x1]) (ct_X7_isCoat _  σ) mo_X7_isCoat hi_X7_isCoat lk rfl (ci := 7) rfl rfl (by decide) ko_100 hR rfl hcs hro d (fun b => kk b.1 b.2)
/-! CoatDinnerModel.person(I)I -/
def m_X7_person (x1 : Int32) (σ : Sg) : Option (Int32 × Sg) := e_cI (m_X7_in x1 0 4 σ) (fun r2 σ1 => (if r2 = 0 then some ((-1), σ1) else e_cI (m_X7_isThere x1 σ1) (fun r4 σ3 => (if r4 = 0 then e_lt (k_up σ3 100 0 ((σ3 100 0) ||| (jsl 1 x1))) (fun σ5 => e_wr σ5 106 x1 5 5 (fun σ6 => e_wr σ6 107 x1 5 0 (fun σ7 => e_wr σ7 108 x1 5 0 (fun σ8 => e_wr σ8 109 x1 5 0 (fun σ9 => e_wr σ9 110 x1 5 0 (fun σ10 => e_wr σ10 111 x1 5 0 (fun σ11 => e_cI (m_X7_bits (σ11 100 0) σ11) (fun r13 σ12 => some (r13, σ12))))))))) else some ((-3), σ3)))))
theorem om_X7_person {G : KW} {l : Launch} (x1 : Int32)  (σ : Sg) : Okk G l cX7_person 2 RX7 (some .int) (rmo 2 43) ccI 0 [some (k_rr G 100), some (.int x1)] [] σ (m_X7_person x1 σ) := by
  unfold m_X7_person
  refine ok_iload1 (dq_of td_X7_person 0 rfl) ?_
  refine ok_iconst (v := 0) (dq_of td_X7_person 1 rfl) (by decide) ?_
  refine ok_iconst (v := 4) (dq_of td_X7_person 2 rfl) (by decide) ?_
  refine call_X7_in ml_X7_81  ⟨Nat.le_of_ble_eq_true rfl, Nat.le_of_ble_eq_true rfl⟩ ⟨Nat.zero_le _, Nat.zero_le _⟩ (Nat.le_of_ble_eq_true rfl) (dq_of td_X7_person 3 rfl) (fun r2 σ1 => ?_)
  refine ok_if_ne (tgt := 11) (dq_of td_X7_person 4 rfl) (by decide) ?_ ?_
  · refine ok_aload0 (dq_of td_X7_person 7 rfl) ?_
    refine ok_iload1 (dq_of td_X7_person 8 rfl) ?_
    refine call_X7_isThere ml_X7_95  ⟨Nat.le_of_ble_eq_true rfl, Nat.le_of_ble_eq_true rfl⟩ ⟨Nat.zero_le _, Nat.zero_le _⟩ (Nat.le_of_ble_eq_true rfl) (dq_of td_X7_person 9 rfl) (fun r4 σ3 => ?_)
    refine ok_if_eq (tgt := 22) (dq_of td_X7_person 10 rfl) (by decide) ?_ ?_
    · refine ok_aload0 (dq_of td_X7_person 13 rfl) ?_
      refine ok_dup (dq_of td_X7_person 14 rfl) rfl ?_
      refine ok_get (v := .int (σ3 100 0)) fl_X7_85 (by decide) ko_100 rfl (dq_of td_X7_person 15 rfl) ?_
      refine ok_iconst (v := 1) (dq_of td_X7_person 16 rfl) (by decide) ?_
      refine ok_iload1 (dq_of td_X7_person 17 rfl) ?_
      refine ok_ishl (dq_of td_X7_person 18 rfl) ?_
      refine ok_ior (dq_of td_X7_person 19 rfl) ?_
      refine put_7_0 fl_X7_85 ko_100 (dq_of td_X7_person 20 rfl) (fun σ5 => ?_)
      refine ok_aload0 (dq_of td_X7_person 21 rfl) ?_
      refine ok_get (v := k_rr G 106) fl_X7_29 (by decide) ko_100 rfl (dq_of td_X7_person 22 rfl) ?_
      refine ok_iload1 (dq_of td_X7_person 23 rfl) ?_
      refine ok_iconst (v := 5) (dq_of td_X7_person 24 rfl) (by decide) ?_
      refine ok_iast ka_106 (dq_of td_X7_person 25 rfl) (fun σ6 => ?_)
      refine ok_aload0 (dq_of td_X7_person 26 rfl) ?_
      refine ok_get (v := k_rr G 107) fl_X7_32 (by decide) ko_100 rfl (dq_of td_X7_person 27 rfl) ?_
      refine ok_iload1 (dq_of td_X7_person 28 rfl) ?_
      refine ok_iconst (v := 0) (dq_of td_X7_person 29 rfl) (by decide) ?_
      refine ok_iast ka_107 (dq_of td_X7_person 30 rfl) (fun σ7 => ?_)
      refine ok_aload0 (dq_of td_X7_person 31 rfl) ?_
      refine ok_get (v := k_rr G 108) fl_X7_35 (by decide) ko_100 rfl (dq_of td_X7_person 32 rfl) ?_
      refine ok_iload1 (dq_of td_X7_person 33 rfl) ?_
      refine ok_iconst (v := 0) (dq_of td_X7_person 34 rfl) (by decide) ?_
      refine ok_iast ka_108 (dq_of td_X7_person 35 rfl) (fun σ8 => ?_)
      refine ok_aload0 (dq_of td_X7_person 36 rfl) ?_
      refine ok_get (v := k_rr G 109) fl_X7_38 (by decide) ko_100 rfl (dq_of td_X7_person 37 rfl) ?_
      refine ok_iload1 (dq_of td_X7_person 38 rfl) ?_
      refine ok_iconst (v := 0) (dq_of td_X7_person 39 rfl) (by decide) ?_
      refine ok_iast ka_109 (dq_of td_X7_person 40 rfl) (fun σ9 => ?_)
      refine ok_aload0 (dq_of td_X7_person 41 rfl) ?_
      refine ok_get (v := k_rr G 110) fl_X7_41 (by decide) ko_100 rfl (dq_of td_X7_person 42 rfl) ?_
      refine ok_iload1 (dq_of td_X7_person 43 rfl) ?_
      refine ok_iconst (v := 0) (dq_of td_X7_person 44 rfl) (by decide) ?_
      refine ok_iast ka_110 (dq_of td_X7_person 45 rfl) (fun σ10 => ?_)
      refine ok_aload0 (dq_of td_X7_person 46 rfl) ?_
      refine ok_get (v := k_rr G 111) fl_X7_44 (by decide) ko_100 rfl (dq_of td_X7_person 47 rfl) ?_
      refine ok_iload1 (dq_of td_X7_person 48 rfl) ?_
      refine ok_iconst (v := 0) (dq_of td_X7_person 49 rfl) (by decide) ?_
      refine ok_iast ka_111 (dq_of td_X7_person 50 rfl) (fun σ11 => ?_)
      refine ok_aload0 (dq_of td_X7_person 51 rfl) ?_
      refine ok_get (v := .int (σ11 100 0)) fl_X7_85 (by decide) ko_100 rfl (dq_of td_X7_person 52 rfl) ?_
      refine call_X7_bits ml_X7_99  ⟨Nat.le_of_ble_eq_true rfl, Nat.le_of_ble_eq_true rfl⟩ ⟨Nat.zero_le _, Nat.zero_le _⟩ (Nat.le_of_ble_eq_true rfl) (dq_of td_X7_person 53 rfl) (fun r13 σ12 => ?_)
      exact ok_iret (dq_of td_X7_person 54 rfl)
    · refine ok_bipush (v := (-3)) (dq_of td_X7_person 11 rfl) (by decide) ?_
      exact ok_iret (dq_of td_X7_person 12 rfl)
  · refine ok_iconst (v := (-1)) (dq_of td_X7_person 5 rfl) (by decide) ?_
    exact ok_iret (dq_of td_X7_person 6 rfl)
theorem ct_X7_person {G : KW} {l : Launch} (x1 : Int32)  (σ : Sg) : ∀ b, m_X7_person x1 σ = some b → MetF G l yX7_person cX7_person 2 (some .int) 2 43 [k_rr G 100, .int x1] (k_wl G σ) (ccI b).1 (k_wl G (ccI b).2) :=
  met_of (by decide) (Nat.le_of_ble_eq_true rfl) rfl (om_X7_person _  σ)
theorem call_X7_person {G : KW} {l : Launch} {cc : ByteArray} {nL : Nat} {own : String} {rt : Option FieldType} {R : Room} {α : Type} {X : State → Array Value → Method → Prop} {Z : α → List Frame → Array Value → State → State → Prop} {k0 n0 pc index : Nat} {L : List (Option Value)} {S : List Value} {σ : Sg} {F : Int32 → Sg → Option α} {x1 : Int32} (lk : MLk own index yX7_person)  (hR : R.frames ≥ 2 + 1 ∧ R.locals ≥ 8 + (2 + 11) + 43) (hcs : k0 ≤ R.cells ∧ n0 ≤ R.slots) (hro : (S.map fun v => v.category).sum ≤ 8) (d : decode cc pc = .ok (.invokevirtual index, 3)) (kk : ∀ (r : Int32) (σ' : Sg), Okg G l cc nL own rt R X Z k0 n0 (pc + 3) L (.int r :: S) σ' (F r σ')) : Okg G l cc nL own rt R X Z k0 n0 pc L (.int x1 :: k_rr G 100 :: S) σ (e_cI (m_X7_person x1 σ) F) :=
  ok_cV (cb := ccI) (As := [.int x1]) (ct_X7_person _  σ) mo_X7_person hi_X7_person lk rfl (ci := 7) rfl rfl (by decide) ko_100 hR rfl hcs hro d (fun b => kk b.1 b.2)
/-! CoatDinnerModel.undress(I)V -/
def b_X7_undress_32 (x1 : Int32) (K : Sg → Option (Sg)) (H : Int32 → Sg → Option (Sg)) (x2 : Int32) (s0 : Int32) (s1 : Int32) (s2 : Nat) (σ : Sg) : Option (Sg) := e_gd (k_ar s2) (e_wr σ s2 s1 (k_ln s2) s0 (fun σ1 => H (x2 + 1) σ1))
def d_X7_undress_2 (x1 : Int32) (K : Sg → Option (Sg)) (H : Int32 → Sg → Option (Sg)) (x2 : Int32) (σ : Sg) : Option (Sg) := (if 5 ≤ x2 then K σ else e_gd (k_in x2 5) ((if (σ 106 (Int32.toNatClampNeg x2)) = x1 then b_X7_undress_32 x1 K H x2 5 x2 106 σ else e_gd (k_in x2 5) (b_X7_undress_32 x1 K H x2 (σ 106 (Int32.toNatClampNeg x2)) x2 106 σ))))
theorem ob_X7_undress_32 {G : KW} {l : Launch} (x1 : Int32)  {K : Sg → Option (Sg)} {H : Int32 → Sg → Option (Sg)} (hK : ∀  (σ : Sg), Okk G l cX7_undress 3 RX7 none (rmo 0 0) ccV 39 [none, none, none] [] σ (K  σ)) (hH : ∀ (x2 : Int32) (σ : Sg), Okk G l cX7_undress 3 RX7 none (rmo 0 0) ccV 2 [some (k_rr G 100), some (.int x1), some (.int x2)] [] σ (H x2 σ)) (x2 : Int32) (s0 : Int32) (s1 : Int32) (s2 : Nat)  (σ : Sg) : Okk G l cX7_undress 3 RX7 none (rmo 0 0) ccV 32 [some (k_rr G 100), some (.int x1), some (.int x2)] [.int s0, .int s1, k_rr G s2] σ (b_X7_undress_32 x1 K H x2 s0 s1 s2 σ) := by
  unfold b_X7_undress_32
  refine ok_gd (fun hg2 => ?_)
  refine ok_iast (k_ar_of hg2) (dq_of td_X7_undress 20 rfl) (fun σ1 => ?_)
  refine ok_jinc2 (w := 1) (dq_of td_X7_undress 21 rfl) (by decide) rfl (by decide) ?_
  refine ok_goto (tgt := 2) (dq_of td_X7_undress 22 rfl) (by decide) ?_
  refine ok_wk (wk_s (wk_s (wk_s wk_0))) ?_
  exact hH _ _
theorem od_X7_undress_2 {G : KW} {l : Launch} (x1 : Int32)  {K : Sg → Option (Sg)} {H : Int32 → Sg → Option (Sg)} (hK : ∀  (σ : Sg), Okk G l cX7_undress 3 RX7 none (rmo 0 0) ccV 39 [none, none, none] [] σ (K  σ)) (hH : ∀ (x2 : Int32) (σ : Sg), Okk G l cX7_undress 3 RX7 none (rmo 0 0) ccV 2 [some (k_rr G 100), some (.int x1), some (.int x2)] [] σ (H x2 σ)) (x2 : Int32)  (σ : Sg) : Okk G l cX7_undress 3 RX7 none (rmo 0 0) ccV 2 [some (k_rr G 100), some (.int x1), some (.int x2)] [] σ (d_X7_undress_2 x1 K H x2 σ) := by
  unfold d_X7_undress_2
  refine ok_iload2 (dq_of td_X7_undress 2 rfl) ?_
  refine ok_iconst (v := 5) (dq_of td_X7_undress 3 rfl) (by decide) ?_
  refine ok_ic_ge (tgt := 39) (dq_of td_X7_undress 4 rfl) (by decide) ?_ ?_
  · refine ok_wk (wk_n (wk_n (wk_n wk_0))) ?_
    exact hK _
  · refine ok_aload0 (dq_of td_X7_undress 5 rfl) ?_
    refine ok_get (v := k_rr G 106) fl_X7_29 (by decide) ko_100 rfl (dq_of td_X7_undress 6 rfl) ?_
    refine ok_iload2 (dq_of td_X7_undress 7 rfl) ?_
    refine ok_aload0 (dq_of td_X7_undress 8 rfl) ?_
    refine ok_get (v := k_rr G 106) fl_X7_29 (by decide) ko_100 rfl (dq_of td_X7_undress 9 rfl) ?_
    refine ok_iload2 (dq_of td_X7_undress 10 rfl) ?_
    refine ok_iald ka_106 (dq_of td_X7_undress 11 rfl) ?_
    refine ok_iload1 (dq_of td_X7_undress 12 rfl) ?_
    refine ok_ic_ne (tgt := 26) (dq_of td_X7_undress 13 rfl) (by decide) ?_ ?_
    · refine ok_aload0 (dq_of td_X7_undress 16 rfl) ?_
      refine ok_get (v := k_rr G 106) fl_X7_29 (by decide) ko_100 rfl (dq_of td_X7_undress 17 rfl) ?_
      refine ok_iload2 (dq_of td_X7_undress 18 rfl) ?_
      refine ok_iald ka_106 (dq_of td_X7_undress 19 rfl) ?_
      refine ok_wk (wk_s (wk_s (wk_s wk_0))) ?_
      exact ob_X7_undress_32 _  hK hH _ _ _ _  _
    · refine ok_iconst (v := 5) (dq_of td_X7_undress 14 rfl) (by decide) ?_
      refine ok_goto (tgt := 32) (dq_of td_X7_undress 15 rfl) (by decide) ?_
      refine ok_wk (wk_s (wk_s (wk_s wk_0))) ?_
      exact ob_X7_undress_32 _  hK hH _ _ _ _  _
theorem ld_X7_undress_2 {G : KW} {l : Launch} (x1 : Int32)  {K : Sg → Option (Sg)} (hK : ∀  (σ : Sg), Okk G l cX7_undress 3 RX7 none (rmo 0 0) ccV 39 [none, none, none] [] σ (K  σ)) (n : Nat) (x2 : Int32) (σ : Sg) : Okk G l cX7_undress 3 RX7 none (rmo 0 0) ccV 2 [some (k_rr G 100), some (.int x1), some (.int x2)] [] σ (e_lp1 (d_X7_undress_2 x1 K) n x2 σ) :=
  ok_lp1 (Lf := fun (x2 : Int32) => [some (k_rr G 100), some (.int x1), some (.int x2)]) (fun _ hH x2 σ => od_X7_undress_2 _  hK hH x2 σ) n x2 σ
def m_X7_undress (x1 : Int32) (σ : Sg) : Option (Sg) := e_lp1 (d_X7_undress_2 x1 (fun σ3 => some σ3)) e_F 0 σ
theorem om_X7_undress {G : KW} {l : Launch} (x1 : Int32)  (σ : Sg) : Okk G l cX7_undress 3 RX7 none (rmo 0 0) ccV 0 [some (k_rr G 100), some (.int x1), none] [] σ (m_X7_undress x1 σ) := by
  unfold m_X7_undress
  refine ok_iconst (v := 0) (dq_of td_X7_undress 0 rfl) (by decide) ?_
  refine ok_istore2 (dq_of td_X7_undress 1 rfl) rfl (by decide) ?_
  refine ok_wk (wk_s (wk_s (wk_s wk_0))) ?_
  refine ld_X7_undress_2 _  (fun σ3 => ?_) _ _ _
  exact ok_vret (dq_of td_X7_undress 23 rfl)
theorem ct_X7_undress {G : KW} {l : Launch} (x1 : Int32)  (σ : Sg) : ∀ b, m_X7_undress x1 σ = some b → MetF G l yX7_undress cX7_undress 3 none 0 0 [k_rr G 100, .int x1] (k_wl G σ) (ccV b).1 (k_wl G (ccV b).2) :=
  met_of (by decide) (Nat.le_of_ble_eq_true rfl) rfl (om_X7_undress _  σ)
theorem call_X7_undress {G : KW} {l : Launch} {cc : ByteArray} {nL : Nat} {own : String} {rt : Option FieldType} {R : Room} {α : Type} {X : State → Array Value → Method → Prop} {Z : α → List Frame → Array Value → State → State → Prop} {k0 n0 pc index : Nat} {L : List (Option Value)} {S : List Value} {σ : Sg} {F : Sg → Option α} {x1 : Int32} (lk : MLk own index yX7_undress)  (hR : R.frames ≥ 0 + 1 ∧ R.locals ≥ 8 + (3 + 11) + 0) (hcs : k0 ≤ R.cells ∧ n0 ≤ R.slots) (hro : (S.map fun v => v.category).sum ≤ 8) (d : decode cc pc = .ok (.invokevirtual index, 3)) (kk : ∀ σ' : Sg, Okg G l cc nL own rt R X Z k0 n0 (pc + 3) L S σ' (F σ')) : Okg G l cc nL own rt R X Z k0 n0 pc L (.int x1 :: k_rr G 100 :: S) σ (e_cV (m_X7_undress x1 σ) F) :=
  ok_cV (cb := ccV) (As := [.int x1]) (ct_X7_undress _  σ) mo_X7_undress hi_X7_undress lk rfl (ci := 7) rfl rfl (by decide) ko_100 hR rfl hcs hro d (fun b => kk b)
/-! CoatDinnerModel.leave(I)I -/
def d_X7_leave_12 (x1 : Int32) (K : Sg → Option (Int32 × Sg)) (H : Int32 → Sg → Option (Int32 × Sg)) (x2 : Int32) (σ : Sg) : Option (Int32 × Sg) := (if 5 ≤ x2 then K σ else e_cI (m_X7_has (σ 100 1) x2 σ) (fun r4 σ3 => (if r4 = 0 then H (x2 + 1) σ3 else e_gd (k_in x2 5) ((if (σ3 102 (Int32.toNatClampNeg x2)) = x1 then e_cV (m_X7_undress x2 σ3) (fun σ5 => e_lt (k_up σ5 100 1 ((σ5 100 1) &&& ((jsl 1 x2) ^^^ ((-1))))) (fun σ6 => H (x2 + 1) σ6)) else H (x2 + 1) σ3)))))
theorem od_X7_leave_12 {G : KW} {l : Launch} (x1 : Int32)  {K : Sg → Option (Int32 × Sg)} {H : Int32 → Sg → Option (Int32 × Sg)} (hK : ∀  (σ : Sg), Okk G l cX7_leave 3 RX7 (some .int) (rmo 2 43) ccI 63 [some (k_rr G 100), some (.int x1), none] [] σ (K  σ)) (hH : ∀ (x2 : Int32) (σ : Sg), Okk G l cX7_leave 3 RX7 (some .int) (rmo 2 43) ccI 12 [some (k_rr G 100), some (.int x1), some (.int x2)] [] σ (H x2 σ)) (x2 : Int32)  (σ : Sg) : Okk G l cX7_leave 3 RX7 (some .int) (rmo 2 43) ccI 12 [some (k_rr G 100), some (.int x1), some (.int x2)] [] σ (d_X7_leave_12 x1 K H x2 σ) := by
  unfold d_X7_leave_12
  refine ok_iload2 (dq_of td_X7_leave 8 rfl) ?_
  refine ok_iconst (v := 5) (dq_of td_X7_leave 9 rfl) (by decide) ?_
  refine ok_ic_ge (tgt := 63) (dq_of td_X7_leave 10 rfl) (by decide) ?_ ?_
  · refine ok_wk (wk_s (wk_s (wk_n wk_0))) ?_
    exact hK _
  · refine ok_aload0 (dq_of td_X7_leave 11 rfl) ?_
    refine ok_get (v := .int (σ 100 1)) fl_X7_92 (by decide) ko_100 rfl (dq_of td_X7_leave 12 rfl) ?_
    refine ok_iload2 (dq_of td_X7_leave 13 rfl) ?_
    refine call_X7_has ml_X7_88  ⟨Nat.le_of_ble_eq_true rfl, Nat.le_of_ble_eq_true rfl⟩ ⟨Nat.zero_le _, Nat.zero_le _⟩ (Nat.le_of_ble_eq_true rfl) (dq_of td_X7_leave 14 rfl) (fun r4 σ3 => ?_)
    refine ok_if_eq (tgt := 57) (dq_of td_X7_leave 15 rfl) (by decide) ?_ ?_
    · refine ok_jinc2 (w := 1) (dq_of td_X7_leave 35 rfl) (by decide) rfl (by decide) ?_
      refine ok_goto (tgt := 12) (dq_of td_X7_leave 36 rfl) (by decide) ?_
      refine ok_wk (wk_s (wk_s (wk_s wk_0))) ?_
      exact hH _ _
    · refine ok_aload0 (dq_of td_X7_leave 16 rfl) ?_
      refine ok_get (v := k_rr G 102) fl_X7_13 (by decide) ko_100 rfl (dq_of td_X7_leave 17 rfl) ?_
      refine ok_iload2 (dq_of td_X7_leave 18 rfl) ?_
      refine ok_iald ka_102 (dq_of td_X7_leave 19 rfl) ?_
      refine ok_iload1 (dq_of td_X7_leave 20 rfl) ?_
      refine ok_ic_ne (tgt := 57) (dq_of td_X7_leave 21 rfl) (by decide) ?_ ?_
      · refine ok_jinc2 (w := 1) (dq_of td_X7_leave 35 rfl) (by decide) rfl (by decide) ?_
        refine ok_goto (tgt := 12) (dq_of td_X7_leave 36 rfl) (by decide) ?_
        refine ok_wk (wk_s (wk_s (wk_s wk_0))) ?_
        exact hH _ _
      · refine ok_aload0 (dq_of td_X7_leave 22 rfl) ?_
        refine ok_iload2 (dq_of td_X7_leave 23 rfl) ?_
        refine call_X7_undress ml_X7_103  ⟨Nat.le_of_ble_eq_true rfl, Nat.le_of_ble_eq_true rfl⟩ ⟨Nat.zero_le _, Nat.zero_le _⟩ (Nat.le_of_ble_eq_true rfl) (dq_of td_X7_leave 24 rfl) (fun σ5 => ?_)
        refine ok_aload0 (dq_of td_X7_leave 25 rfl) ?_
        refine ok_dup (dq_of td_X7_leave 26 rfl) rfl ?_
        refine ok_get (v := .int (σ5 100 1)) fl_X7_92 (by decide) ko_100 rfl (dq_of td_X7_leave 27 rfl) ?_
        refine ok_iconst (v := 1) (dq_of td_X7_leave 28 rfl) (by decide) ?_
        refine ok_iload2 (dq_of td_X7_leave 29 rfl) ?_
        refine ok_ishl (dq_of td_X7_leave 30 rfl) ?_
        refine ok_iconst (v := (-1)) (dq_of td_X7_leave 31 rfl) (by decide) ?_
        refine ok_ixor (dq_of td_X7_leave 32 rfl) ?_
        refine ok_iand (dq_of td_X7_leave 33 rfl) ?_
        refine put_7_1 fl_X7_92 ko_100 (dq_of td_X7_leave 34 rfl) (fun σ6 => ?_)
        refine ok_jinc2 (w := 1) (dq_of td_X7_leave 35 rfl) (by decide) rfl (by decide) ?_
        refine ok_goto (tgt := 12) (dq_of td_X7_leave 36 rfl) (by decide) ?_
        refine ok_wk (wk_s (wk_s (wk_s wk_0))) ?_
        exact hH _ _
theorem ld_X7_leave_12 {G : KW} {l : Launch} (x1 : Int32)  {K : Sg → Option (Int32 × Sg)} (hK : ∀  (σ : Sg), Okk G l cX7_leave 3 RX7 (some .int) (rmo 2 43) ccI 63 [some (k_rr G 100), some (.int x1), none] [] σ (K  σ)) (n : Nat) (x2 : Int32) (σ : Sg) : Okk G l cX7_leave 3 RX7 (some .int) (rmo 2 43) ccI 12 [some (k_rr G 100), some (.int x1), some (.int x2)] [] σ (e_lp1 (d_X7_leave_12 x1 K) n x2 σ) :=
  ok_lp1 (Lf := fun (x2 : Int32) => [some (k_rr G 100), some (.int x1), some (.int x2)]) (fun _ hH x2 σ => od_X7_leave_12 _  hK hH x2 σ) n x2 σ
def m_X7_leave (x1 : Int32) (σ : Sg) : Option (Int32 × Sg) := e_cI (m_X7_isThere x1 σ) (fun r2 σ1 => (if r2 = 0 then some ((-1), σ1) else e_lp1 (d_X7_leave_12 x1 (fun σ7 => e_wr σ7 106 x1 5 5 (fun σ8 => e_lt (k_up σ8 100 0 ((σ8 100 0) &&& ((jsl 1 x1) ^^^ ((-1))))) (fun σ9 => e_cI (m_X7_bits (σ9 100 0) σ9) (fun r11 σ10 => some (r11, σ10)))))) e_F 0 σ1))
theorem om_X7_leave {G : KW} {l : Launch} (x1 : Int32)  (σ : Sg) : Okk G l cX7_leave 3 RX7 (some .int) (rmo 2 43) ccI 0 [some (k_rr G 100), some (.int x1), none] [] σ (m_X7_leave x1 σ) := by
  unfold m_X7_leave
  refine ok_aload0 (dq_of td_X7_leave 0 rfl) ?_
  refine ok_iload1 (dq_of td_X7_leave 1 rfl) ?_
  refine call_X7_isThere ml_X7_95  ⟨Nat.le_of_ble_eq_true rfl, Nat.le_of_ble_eq_true rfl⟩ ⟨Nat.zero_le _, Nat.zero_le _⟩ (Nat.le_of_ble_eq_true rfl) (dq_of td_X7_leave 2 rfl) (fun r2 σ1 => ?_)
  refine ok_if_ne (tgt := 10) (dq_of td_X7_leave 3 rfl) (by decide) ?_ ?_
  · refine ok_iconst (v := 0) (dq_of td_X7_leave 6 rfl) (by decide) ?_
    refine ok_istore2 (dq_of td_X7_leave 7 rfl) rfl (by decide) ?_
    refine ok_wk (wk_s (wk_s (wk_s wk_0))) ?_
    refine ld_X7_leave_12 _  (fun σ7 => ?_) _ _ _
    refine ok_aload0 (dq_of td_X7_leave 37 rfl) ?_
    refine ok_get (v := k_rr G 106) fl_X7_29 (by decide) ko_100 rfl (dq_of td_X7_leave 38 rfl) ?_
    refine ok_iload1 (dq_of td_X7_leave 39 rfl) ?_
    refine ok_iconst (v := 5) (dq_of td_X7_leave 40 rfl) (by decide) ?_
    refine ok_iast ka_106 (dq_of td_X7_leave 41 rfl) (fun σ8 => ?_)
    refine ok_aload0 (dq_of td_X7_leave 42 rfl) ?_
    refine ok_dup (dq_of td_X7_leave 43 rfl) rfl ?_
    refine ok_get (v := .int (σ8 100 0)) fl_X7_85 (by decide) ko_100 rfl (dq_of td_X7_leave 44 rfl) ?_
    refine ok_iconst (v := 1) (dq_of td_X7_leave 45 rfl) (by decide) ?_
    refine ok_iload1 (dq_of td_X7_leave 46 rfl) ?_
    refine ok_ishl (dq_of td_X7_leave 47 rfl) ?_
    refine ok_iconst (v := (-1)) (dq_of td_X7_leave 48 rfl) (by decide) ?_
    refine ok_ixor (dq_of td_X7_leave 49 rfl) ?_
    refine ok_iand (dq_of td_X7_leave 50 rfl) ?_
    refine put_7_0 fl_X7_85 ko_100 (dq_of td_X7_leave 51 rfl) (fun σ9 => ?_)
    refine ok_aload0 (dq_of td_X7_leave 52 rfl) ?_
    refine ok_get (v := .int (σ9 100 0)) fl_X7_85 (by decide) ko_100 rfl (dq_of td_X7_leave 53 rfl) ?_
    refine call_X7_bits ml_X7_99  ⟨Nat.le_of_ble_eq_true rfl, Nat.le_of_ble_eq_true rfl⟩ ⟨Nat.zero_le _, Nat.zero_le _⟩ (Nat.le_of_ble_eq_true rfl) (dq_of td_X7_leave 54 rfl) (fun r11 σ10 => ?_)
    exact ok_iret (dq_of td_X7_leave 55 rfl)
  · refine ok_iconst (v := (-1)) (dq_of td_X7_leave 4 rfl) (by decide) ?_
    exact ok_iret (dq_of td_X7_leave 5 rfl)
theorem ct_X7_leave {G : KW} {l : Launch} (x1 : Int32)  (σ : Sg) : ∀ b, m_X7_leave x1 σ = some b → MetF G l yX7_leave cX7_leave 3 (some .int) 2 43 [k_rr G 100, .int x1] (k_wl G σ) (ccI b).1 (k_wl G (ccI b).2) :=
  met_of (by decide) (Nat.le_of_ble_eq_true rfl) rfl (om_X7_leave _  σ)
theorem call_X7_leave {G : KW} {l : Launch} {cc : ByteArray} {nL : Nat} {own : String} {rt : Option FieldType} {R : Room} {α : Type} {X : State → Array Value → Method → Prop} {Z : α → List Frame → Array Value → State → State → Prop} {k0 n0 pc index : Nat} {L : List (Option Value)} {S : List Value} {σ : Sg} {F : Int32 → Sg → Option α} {x1 : Int32} (lk : MLk own index yX7_leave)  (hR : R.frames ≥ 2 + 1 ∧ R.locals ≥ 8 + (3 + 11) + 43) (hcs : k0 ≤ R.cells ∧ n0 ≤ R.slots) (hro : (S.map fun v => v.category).sum ≤ 8) (d : decode cc pc = .ok (.invokevirtual index, 3)) (kk : ∀ (r : Int32) (σ' : Sg), Okg G l cc nL own rt R X Z k0 n0 (pc + 3) L (.int r :: S) σ' (F r σ')) : Okg G l cc nL own rt R X Z k0 n0 pc L (.int x1 :: k_rr G 100 :: S) σ (e_cI (m_X7_leave x1 σ) F) :=
  ok_cV (cb := ccI) (As := [.int x1]) (ct_X7_leave _  σ) mo_X7_leave hi_X7_leave lk rfl (ci := 7) rfl rfl (by decide) ko_100 hR rfl hcs hro d (fun b => kk b.1 b.2)
/-! CoatDinnerModel.coat(III)I -/
def m_X7_coat (x1 : Int32) (x2 : Int32) (x3 : Int32) (σ : Sg) : Option (Int32 × Sg) := e_cI (m_X7_in x1 0 4 σ) (fun r2 σ1 => (if r2 = 0 then some ((-1), σ1) else e_cI (m_X7_isThere x3 σ1) (fun r4 σ3 => (if r4 = 0 then some ((-1), σ3) else e_cI (m_X7_in x2 0 99 σ3) (fun r6 σ5 => (if r6 = 0 then some ((-2), σ5) else e_cV (m_X7_undress x1 σ5) (fun σ7 => e_lt (k_up σ7 100 1 ((σ7 100 1) ||| (jsl 1 x1))) (fun σ8 => e_wr σ8 101 x1 5 x2 (fun σ9 => e_wr σ9 102 x1 5 x3 (fun σ10 => e_wr σ10 103 x1 5 0 (fun σ11 => e_wr σ11 104 x1 5 0 (fun σ12 => e_wr σ12 105 x1 5 0 (fun σ13 => e_cI (m_X7_bits (σ13 100 1) σ13) (fun r15 σ14 => some (r15, σ14)))))))))))))))
theorem om_X7_coat {G : KW} {l : Launch} (x1 : Int32) (x2 : Int32) (x3 : Int32)  (σ : Sg) : Okk G l cX7_coat 4 RX7 (some .int) (rmo 2 43) ccI 0 [some (k_rr G 100), some (.int x1), some (.int x2), some (.int x3)] [] σ (m_X7_coat x1 x2 x3 σ) := by
  unfold m_X7_coat
  refine ok_iload1 (dq_of td_X7_coat 0 rfl) ?_
  refine ok_iconst (v := 0) (dq_of td_X7_coat 1 rfl) (by decide) ?_
  refine ok_iconst (v := 4) (dq_of td_X7_coat 2 rfl) (by decide) ?_
  refine call_X7_in ml_X7_81  ⟨Nat.le_of_ble_eq_true rfl, Nat.le_of_ble_eq_true rfl⟩ ⟨Nat.zero_le _, Nat.zero_le _⟩ (Nat.le_of_ble_eq_true rfl) (dq_of td_X7_coat 3 rfl) (fun r2 σ1 => ?_)
  refine ok_if_eq (tgt := 17) (dq_of td_X7_coat 4 rfl) (by decide) ?_ ?_
  · refine ok_iconst (v := (-1)) (dq_of td_X7_coat 9 rfl) (by decide) ?_
    exact ok_iret (dq_of td_X7_coat 10 rfl)
  · refine ok_aload0 (dq_of td_X7_coat 5 rfl) ?_
    refine ok_iload3 (dq_of td_X7_coat 6 rfl) ?_
    refine call_X7_isThere ml_X7_95  ⟨Nat.le_of_ble_eq_true rfl, Nat.le_of_ble_eq_true rfl⟩ ⟨Nat.zero_le _, Nat.zero_le _⟩ (Nat.le_of_ble_eq_true rfl) (dq_of td_X7_coat 7 rfl) (fun r4 σ3 => ?_)
    refine ok_if_ne (tgt := 19) (dq_of td_X7_coat 8 rfl) (by decide) ?_ ?_
    · refine ok_iload2 (dq_of td_X7_coat 11 rfl) ?_
      refine ok_iconst (v := 0) (dq_of td_X7_coat 12 rfl) (by decide) ?_
      refine ok_bipush (v := 99) (dq_of td_X7_coat 13 rfl) (by decide) ?_
      refine call_X7_in ml_X7_81  ⟨Nat.le_of_ble_eq_true rfl, Nat.le_of_ble_eq_true rfl⟩ ⟨Nat.zero_le _, Nat.zero_le _⟩ (Nat.le_of_ble_eq_true rfl) (dq_of td_X7_coat 14 rfl) (fun r6 σ5 => ?_)
      refine ok_if_ne (tgt := 32) (dq_of td_X7_coat 15 rfl) (by decide) ?_ ?_
      · refine ok_aload0 (dq_of td_X7_coat 18 rfl) ?_
        refine ok_iload1 (dq_of td_X7_coat 19 rfl) ?_
        refine call_X7_undress ml_X7_103  ⟨Nat.le_of_ble_eq_true rfl, Nat.le_of_ble_eq_true rfl⟩ ⟨Nat.zero_le _, Nat.zero_le _⟩ (Nat.le_of_ble_eq_true rfl) (dq_of td_X7_coat 20 rfl) (fun σ7 => ?_)
        refine ok_aload0 (dq_of td_X7_coat 21 rfl) ?_
        refine ok_dup (dq_of td_X7_coat 22 rfl) rfl ?_
        refine ok_get (v := .int (σ7 100 1)) fl_X7_92 (by decide) ko_100 rfl (dq_of td_X7_coat 23 rfl) ?_
        refine ok_iconst (v := 1) (dq_of td_X7_coat 24 rfl) (by decide) ?_
        refine ok_iload1 (dq_of td_X7_coat 25 rfl) ?_
        refine ok_ishl (dq_of td_X7_coat 26 rfl) ?_
        refine ok_ior (dq_of td_X7_coat 27 rfl) ?_
        refine put_7_1 fl_X7_92 ko_100 (dq_of td_X7_coat 28 rfl) (fun σ8 => ?_)
        refine ok_aload0 (dq_of td_X7_coat 29 rfl) ?_
        refine ok_get (v := k_rr G 101) fl_X7_7 (by decide) ko_100 rfl (dq_of td_X7_coat 30 rfl) ?_
        refine ok_iload1 (dq_of td_X7_coat 31 rfl) ?_
        refine ok_iload2 (dq_of td_X7_coat 32 rfl) ?_
        refine ok_iast ka_101 (dq_of td_X7_coat 33 rfl) (fun σ9 => ?_)
        refine ok_aload0 (dq_of td_X7_coat 34 rfl) ?_
        refine ok_get (v := k_rr G 102) fl_X7_13 (by decide) ko_100 rfl (dq_of td_X7_coat 35 rfl) ?_
        refine ok_iload1 (dq_of td_X7_coat 36 rfl) ?_
        refine ok_iload3 (dq_of td_X7_coat 37 rfl) ?_
        refine ok_iast ka_102 (dq_of td_X7_coat 38 rfl) (fun σ10 => ?_)
        refine ok_aload0 (dq_of td_X7_coat 39 rfl) ?_
        refine ok_get (v := k_rr G 103) fl_X7_16 (by decide) ko_100 rfl (dq_of td_X7_coat 40 rfl) ?_
        refine ok_iload1 (dq_of td_X7_coat 41 rfl) ?_
        refine ok_iconst (v := 0) (dq_of td_X7_coat 42 rfl) (by decide) ?_
        refine ok_iast ka_103 (dq_of td_X7_coat 43 rfl) (fun σ11 => ?_)
        refine ok_aload0 (dq_of td_X7_coat 44 rfl) ?_
        refine ok_get (v := k_rr G 104) fl_X7_19 (by decide) ko_100 rfl (dq_of td_X7_coat 45 rfl) ?_
        refine ok_iload1 (dq_of td_X7_coat 46 rfl) ?_
        refine ok_iconst (v := 0) (dq_of td_X7_coat 47 rfl) (by decide) ?_
        refine ok_iast ka_104 (dq_of td_X7_coat 48 rfl) (fun σ12 => ?_)
        refine ok_aload0 (dq_of td_X7_coat 49 rfl) ?_
        refine ok_get (v := k_rr G 105) fl_X7_22 (by decide) ko_100 rfl (dq_of td_X7_coat 50 rfl) ?_
        refine ok_iload1 (dq_of td_X7_coat 51 rfl) ?_
        refine ok_iconst (v := 0) (dq_of td_X7_coat 52 rfl) (by decide) ?_
        refine ok_iast ka_105 (dq_of td_X7_coat 53 rfl) (fun σ13 => ?_)
        refine ok_aload0 (dq_of td_X7_coat 54 rfl) ?_
        refine ok_get (v := .int (σ13 100 1)) fl_X7_92 (by decide) ko_100 rfl (dq_of td_X7_coat 55 rfl) ?_
        refine call_X7_bits ml_X7_99  ⟨Nat.le_of_ble_eq_true rfl, Nat.le_of_ble_eq_true rfl⟩ ⟨Nat.zero_le _, Nat.zero_le _⟩ (Nat.le_of_ble_eq_true rfl) (dq_of td_X7_coat 56 rfl) (fun r15 σ14 => ?_)
        exact ok_iret (dq_of td_X7_coat 57 rfl)
      · refine ok_bipush (v := (-2)) (dq_of td_X7_coat 16 rfl) (by decide) ?_
        exact ok_iret (dq_of td_X7_coat 17 rfl)
    · refine ok_iconst (v := (-1)) (dq_of td_X7_coat 9 rfl) (by decide) ?_
      exact ok_iret (dq_of td_X7_coat 10 rfl)
theorem ct_X7_coat {G : KW} {l : Launch} (x1 : Int32) (x2 : Int32) (x3 : Int32)  (σ : Sg) : ∀ b, m_X7_coat x1 x2 x3 σ = some b → MetF G l yX7_coat cX7_coat 4 (some .int) 2 43 [k_rr G 100, .int x1, .int x2, .int x3] (k_wl G σ) (ccI b).1 (k_wl G (ccI b).2) :=
  met_of (by decide) (Nat.le_of_ble_eq_true rfl) rfl (om_X7_coat _ _ _  σ)
theorem call_X7_coat {G : KW} {l : Launch} {cc : ByteArray} {nL : Nat} {own : String} {rt : Option FieldType} {R : Room} {α : Type} {X : State → Array Value → Method → Prop} {Z : α → List Frame → Array Value → State → State → Prop} {k0 n0 pc index : Nat} {L : List (Option Value)} {S : List Value} {σ : Sg} {F : Int32 → Sg → Option α} {x1 : Int32} {x2 : Int32} {x3 : Int32} (lk : MLk own index yX7_coat)  (hR : R.frames ≥ 2 + 1 ∧ R.locals ≥ 8 + (4 + 11) + 43) (hcs : k0 ≤ R.cells ∧ n0 ≤ R.slots) (hro : (S.map fun v => v.category).sum ≤ 8) (d : decode cc pc = .ok (.invokevirtual index, 3)) (kk : ∀ (r : Int32) (σ' : Sg), Okg G l cc nL own rt R X Z k0 n0 (pc + 3) L (.int r :: S) σ' (F r σ')) : Okg G l cc nL own rt R X Z k0 n0 pc L (.int x3 :: .int x2 :: .int x1 :: k_rr G 100 :: S) σ (e_cI (m_X7_coat x1 x2 x3 σ) F) :=
  ok_cV (cb := ccI) (As := [.int x1, .int x2, .int x3]) (ct_X7_coat _ _ _  σ) mo_X7_coat hi_X7_coat lk rfl (ci := 7) rfl rfl (by decide) ko_100 hR rfl hcs hro d (fun b => kk b.1 b.2)
/-! CoatDinnerModel.wearers(I)I -/
def b_X7_wearers_38 (x1 : Int32) (K : Int32 → Sg → Option (Int32 × Sg)) (H : Int32 → Int32 → Sg → Option (Int32 × Sg)) (x3 : Int32) (s0 : Int32) (s1 : Int32) (σ : Sg) : Option (Int32 × Sg) := e_lt (s1 ||| s0) (fun v3 => H v3 (x3 + 1) σ)
def b_X7_wearers_37 (x1 : Int32) (K : Int32 → Sg → Option (Int32 × Sg)) (H : Int32 → Int32 → Sg → Option (Int32 × Sg)) (x3 : Int32) (s0 : Int32) (σ : Sg) : Option (Int32 × Sg) := b_X7_wearers_38 x1 K H x3 0 s0 σ
def d_X7_wearers_4 (x1 : Int32) (K : Int32 → Sg → Option (Int32 × Sg)) (H : Int32 → Int32 → Sg → Option (Int32 × Sg)) (x2 : Int32) (x3 : Int32) (σ : Sg) : Option (Int32 × Sg) := (if 5 ≤ x3 then K x2 σ else e_cI (m_X7_has (σ 100 0) x3 σ) (fun r2 σ1 => (if r2 = 0 then b_X7_wearers_37 x1 K H x3 x2 σ1 else e_gd (k_in x3 5) ((if (σ1 106 (Int32.toNatClampNeg x3)) = x1 then b_X7_wearers_38 x1 K H x3 (jsl 1 x3) x2 σ1 else b_X7_wearers_37 x1 K H x3 x2 σ1)))))
theorem ob_X7_wearers_38 {G : KW} {l : Launch} (x1 : Int32)  {K : Int32 → Sg → Option (Int32 × Sg)} {H : Int32 → Int32 → Sg → Option (Int32 × Sg)} (hK : ∀ (x2 : Int32) (σ : Sg), Okk G l cX7_wearers 4 RX7 (some .int) (rmo 1 21) ccI 46 [none, none, some (.int x2), none] [] σ (K x2 σ)) (hH : ∀ (x2 : Int32) (x3 : Int32) (σ : Sg), Okk G l cX7_wearers 4 RX7 (some .int) (rmo 1 21) ccI 4 [some (k_rr G 100), some (.int x1), some (.int x2), some (.int x3)] [] σ (H x2 x3 σ)) (x3 : Int32) (s0 : Int32) (s1 : Int32)  (σ : Sg) : Okk G l cX7_wearers 4 RX7 (some .int) (rmo 1 21) ccI 38 [some (k_rr G 100), some (.int x1), none, some (.int x3)] [.int s0, .int s1] σ (b_X7_wearers_38 x1 K H x3 s0 s1 σ) := by
  unfold b_X7_wearers_38
  refine ok_ior (dq_of td_X7_wearers 24 rfl) ?_
  refine ok_gI (fun v3 => ?_)
  refine ok_istore2 (dq_of td_X7_wearers 25 rfl) rfl (by decide) ?_
  refine ok_jinc3 (w := 1) (dq_of td_X7_wearers 26 rfl) (by decide) rfl (by decide) ?_
  refine ok_goto (tgt := 4) (dq_of td_X7_wearers 27 rfl) (by decide) ?_
  refine ok_wk (wk_s (wk_s (wk_s (wk_s wk_0)))) ?_
  exact hH _ _ _
theorem ob_X7_wearers_37 {G : KW} {l : Launch} (x1 : Int32)  {K : Int32 → Sg → Option (Int32 × Sg)} {H : Int32 → Int32 → Sg → Option (Int32 × Sg)} (hK : ∀ (x2 : Int32) (σ : Sg), Okk G l cX7_wearers 4 RX7 (some .int) (rmo 1 21) ccI 46 [none, none, some (.int x2), none] [] σ (K x2 σ)) (hH : ∀ (x2 : Int32) (x3 : Int32) (σ : Sg), Okk G l cX7_wearers 4 RX7 (some .int) (rmo 1 21) ccI 4 [some (k_rr G 100), some (.int x1), some (.int x2), some (.int x3)] [] σ (H x2 x3 σ)) (x3 : Int32) (s0 : Int32)  (σ : Sg) : Okk G l cX7_wearers 4 RX7 (some .int) (rmo 1 21) ccI 37 [some (k_rr G 100), some (.int x1), none, some (.int x3)] [.int s0] σ (b_X7_wearers_37 x1 K H x3 s0 σ) := by
  unfold b_X7_wearers_37
  refine ok_iconst (v := 0) (dq_of td_X7_wearers 23 rfl) (by decide) ?_
  refine ok_wk (wk_s (wk_s (wk_n (wk_s wk_0)))) ?_
  exact ob_X7_wearers_38 _  hK hH _ _ _  _
theorem od_X7_wearers_4 {G : KW} {l : Launch} (x1 : Int32)  {K : Int32 → Sg → Option (Int32 × Sg)} {H : Int32 → Int32 → Sg → Option (Int32 × Sg)} (hK : ∀ (x2 : Int32) (σ : Sg), Okk G l cX7_wearers 4 RX7 (some .int) (rmo 1 21) ccI 46 [none, none, some (.int x2), none] [] σ (K x2 σ)) (hH : ∀ (x2 : Int32) (x3 : Int32) (σ : Sg), Okk G l cX7_wearers 4 RX7 (some .int) (rmo 1 21) ccI 4 [some (k_rr G 100), some (.int x1), some (.int x2), some (.int x3)] [] σ (H x2 x3 σ)) (x2 : Int32) (x3 : Int32)  (σ : Sg) : Okk G l cX7_wearers 4 RX7 (some .int) (rmo 1 21) ccI 4 [some (k_rr G 100), some (.int x1), some (.int x2), some (.int x3)] [] σ (d_X7_wearers_4 x1 K H x2 x3 σ) := by
  unfold d_X7_wearers_4
  refine ok_iload3 (dq_of td_X7_wearers 4 rfl) ?_
  refine ok_iconst (v := 5) (dq_of td_X7_wearers 5 rfl) (by decide) ?_
  refine ok_ic_ge (tgt := 46) (dq_of td_X7_wearers 6 rfl) (by decide) ?_ ?_
  · refine ok_wk (wk_n (wk_n (wk_s (wk_n wk_0)))) ?_
    exact hK _ _
  · refine ok_iload2 (dq_of td_X7_wearers 7 rfl) ?_
    refine ok_aload0 (dq_of td_X7_wearers 8 rfl) ?_
    refine ok_get (v := .int (σ 100 0)) fl_X7_85 (by decide) ko_100 rfl (dq_of td_X7_wearers 9 rfl) ?_
    refine ok_iload3 (dq_of td_X7_wearers 10 rfl) ?_
    refine call_X7_has ml_X7_88  ⟨Nat.le_of_ble_eq_true rfl, Nat.le_of_ble_eq_true rfl⟩ ⟨Nat.zero_le _, Nat.zero_le _⟩ (Nat.le_of_ble_eq_true rfl) (dq_of td_X7_wearers 11 rfl) (fun r2 σ1 => ?_)
    refine ok_if_eq (tgt := 37) (dq_of td_X7_wearers 12 rfl) (by decide) ?_ ?_
    · refine ok_wk (wk_s (wk_s (wk_n (wk_s wk_0)))) ?_
      exact ob_X7_wearers_37 _  hK hH _ _  _
    · refine ok_aload0 (dq_of td_X7_wearers 13 rfl) ?_
      refine ok_get (v := k_rr G 106) fl_X7_29 (by decide) ko_100 rfl (dq_of td_X7_wearers 14 rfl) ?_
      refine ok_iload3 (dq_of td_X7_wearers 15 rfl) ?_
      refine ok_iald ka_106 (dq_of td_X7_wearers 16 rfl) ?_
      refine ok_iload1 (dq_of td_X7_wearers 17 rfl) ?_
      refine ok_ic_ne (tgt := 37) (dq_of td_X7_wearers 18 rfl) (by decide) ?_ ?_
      · refine ok_wk (wk_s (wk_s (wk_n (wk_s wk_0)))) ?_
        exact ob_X7_wearers_37 _  hK hH _ _  _
      · refine ok_iconst (v := 1) (dq_of td_X7_wearers 19 rfl) (by decide) ?_
        refine ok_iload3 (dq_of td_X7_wearers 20 rfl) ?_
        refine ok_ishl (dq_of td_X7_wearers 21 rfl) ?_
        refine ok_goto (tgt := 38) (dq_of td_X7_wearers 22 rfl) (by decide) ?_
        refine ok_wk (wk_s (wk_s (wk_n (wk_s wk_0)))) ?_
        exact ob_X7_wearers_38 _  hK hH _ _ _  _
theorem ld_X7_wearers_4 {G : KW} {l : Launch} (x1 : Int32)  {K : Int32 → Sg → Option (Int32 × Sg)} (hK : ∀ (x2 : Int32) (σ : Sg), Okk G l cX7_wearers 4 RX7 (some .int) (rmo 1 21) ccI 46 [none, none, some (.int x2), none] [] σ (K x2 σ)) (n : Nat) (x2 : Int32) (x3 : Int32) (σ : Sg) : Okk G l cX7_wearers 4 RX7 (some .int) (rmo 1 21) ccI 4 [some (k_rr G 100), some (.int x1), some (.int x2), some (.int x3)] [] σ (e_lp2 (d_X7_wearers_4 x1 K) n x2 x3 σ) :=
  ok_lp2 (Lf := fun (x2 : Int32) (x3 : Int32) => [some (k_rr G 100), some (.int x1), some (.int x2), some (.int x3)]) (fun _ hH x2 x3 σ => od_X7_wearers_4 _  hK hH x2 x3 σ) n x2 x3 σ
def m_X7_wearers (x1 : Int32) (σ : Sg) : Option (Int32 × Sg) := e_lp2 (d_X7_wearers_4 x1 (fun x2q4 σ4 => some (x2q4, σ4))) e_F 0 0 σ
theorem om_X7_wearers {G : KW} {l : Launch} (x1 : Int32)  (σ : Sg) : Okk G l cX7_wearers 4 RX7 (some .int) (rmo 1 21) ccI 0 [some (k_rr G 100), some (.int x1), none, none] [] σ (m_X7_wearers x1 σ) := by
  unfold m_X7_wearers
  refine ok_iconst (v := 0) (dq_of td_X7_wearers 0 rfl) (by decide) ?_
  refine ok_istore2 (dq_of td_X7_wearers 1 rfl) rfl (by decide) ?_
  refine ok_iconst (v := 0) (dq_of td_X7_wearers 2 rfl) (by decide) ?_
  refine ok_istore3 (dq_of td_X7_wearers 3 rfl) rfl (by decide) ?_
  refine ok_wk (wk_s (wk_s (wk_s (wk_s wk_0)))) ?_
  refine ld_X7_wearers_4 _  (fun x2q4 σ4 => ?_) _ _ _ _
  refine ok_iload2 (dq_of td_X7_wearers 28 rfl) ?_
  exact ok_iret (dq_of td_X7_wearers 29 rfl)
theorem ct_X7_wearers {G : KW} {l : Launch} (x1 : Int32)  (σ : Sg) : ∀ b, m_X7_wearers x1 σ = some b → MetF G l yX7_wearers cX7_wearers 4 (some .int) 1 21 [k_rr G 100, .int x1] (k_wl G σ) (ccI b).1 (k_wl G (ccI b).2) :=
  met_of (by decide) (Nat.le_of_ble_eq_true rfl) rfl (om_X7_wearers _  σ)
theorem call_X7_wearers {G : KW} {l : Launch} {cc : ByteArray} {nL : Nat} {own : String} {rt : Option FieldType} {R : Room} {α : Type} {X : State → Array Value → Method → Prop} {Z : α → List Frame → Array Value → State → State → Prop} {k0 n0 pc index : Nat} {L : List (Option Value)} {S : List Value} {σ : Sg} {F : Int32 → Sg → Option α} {x1 : Int32} (lk : MLk own index yX7_wearers)  (hR : R.frames ≥ 1 + 1 ∧ R.locals ≥ 8 + (4 + 11) + 21) (hcs : k0 ≤ R.cells ∧ n0 ≤ R.slots) (hro : (S.map fun v => v.category).sum ≤ 8) (d : decode cc pc = .ok (.invokevirtual index, 3)) (kk : ∀ (r : Int32) (σ' : Sg), Okg G l cc nL own rt R X Z k0 n0 (pc + 3) L (.int r :: S) σ' (F r σ')) : Okg G l cc nL own rt R X Z k0 n0 pc L (.int x1 :: k_rr G 100 :: S) σ (e_cI (m_X7_wearers x1 σ) F) :=
  ok_cV (cb := ccI) (As := [.int x1]) (ct_X7_wearers _  σ) mo_X7_wearers hi_X7_wearers lk rfl (ci := 7) rfl rfl (by decide) ko_100 hR rfl hcs hro d (fun b => kk b.1 b.2)
/-! CoatDinnerModel.set(III)I -/
def b_X7_set_125 (x1 : Int32) (x2 : Int32) (x3 : Int32) (s0 : Int32) (σ : Sg) : Option (Int32 × Sg) := (if x2 = 0 then e_wr σ 103 x1 5 x3 (fun σ5 => some (s0, σ5)) else (if x2 = 1 then e_wr σ 104 x1 5 x3 (fun σ4 => some (s0, σ4)) else e_wr σ 105 x1 5 x3 (fun σ3 => some (s0, σ3))))
def b_X7_set_92 (x1 : Int32) (x2 : Int32) (x3 : Int32)  (σ : Sg) : Option (Int32 × Sg) := (if x2 = 0 then e_gd (k_in x1 5) (b_X7_set_125 x1 x2 x3 (σ 103 (Int32.toNatClampNeg x1)) σ) else (if x2 = 1 then e_gd (k_in x1 5) (b_X7_set_125 x1 x2 x3 (σ 104 (Int32.toNatClampNeg x1)) σ) else e_gd (k_in x1 5) (b_X7_set_125 x1 x2 x3 (σ 105 (Int32.toNatClampNeg x1)) σ)))
def b_X7_set_58 (x1 : Int32) (x2 : Int32) (x3 : Int32) (s0 : Int32) (σ : Sg) : Option (Int32 × Sg) := (if s0 = 0 then some ((-2), σ) else (if x2 = 2 then (if x3 = 0 then e_cI (m_X7_wearers x1 σ) (fun r7 σ6 => e_cI (m_X7_bits r7 σ6) (fun r9 σ8 => (if r9 = 2 then some ((-3), σ8) else b_X7_set_92 x1 x2 x3 σ8))) else b_X7_set_92 x1 x2 x3 σ) else b_X7_set_92 x1 x2 x3 σ))
def b_X7_set_57 (x1 : Int32) (x2 : Int32) (x3 : Int32)  (σ : Sg) : Option (Int32 × Sg) := b_X7_set_58 x1 x2 x3 0 σ
theorem ob_X7_set_125 {G : KW} {l : Launch} (x1 : Int32) (x2 : Int32) (x3 : Int32)  (s0 : Int32)  (σ : Sg) : Okk G l cX7_set 6 RX7 (some .int) (rmo 2 44) ccI 125 [some (k_rr G 100), some (.int x1), some (.int x2), some (.int x3), none, none] [.int s0] σ (b_X7_set_125 x1 x2 x3 s0 σ) := by
  unfold b_X7_set_125
  refine ok_istore5 (dq_of td_X7_set 69 rfl) rfl (by decide) ?_
  refine ok_iload2 (dq_of td_X7_set 70 rfl) ?_
  refine ok_if_ne (tgt := 141) (dq_of td_X7_set 71 rfl) (by decide) ?_ ?_
  · refine ok_iload2 (dq_of td_X7_set 78 rfl) ?_
    refine ok_iconst (v := 1) (dq_of td_X7_set 79 rfl) (by decide) ?_
    refine ok_ic_ne (tgt := 156) (dq_of td_X7_set 80 rfl) (by decide) ?_ ?_
    · refine ok_aload0 (dq_of td_X7_set 87 rfl) ?_
      refine ok_get (v := k_rr G 105) fl_X7_22 (by decide) ko_100 rfl (dq_of td_X7_set 88 rfl) ?_
      refine ok_iload1 (dq_of td_X7_set 89 rfl) ?_
      refine ok_iload3 (dq_of td_X7_set 90 rfl) ?_
      refine ok_iast ka_105 (dq_of td_X7_set 91 rfl) (fun σ3 => ?_)
      refine ok_iload5 (dq_of td_X7_set 92 rfl) ?_
      exact ok_iret (dq_of td_X7_set 93 rfl)
    · refine ok_aload0 (dq_of td_X7_set 81 rfl) ?_
      refine ok_get (v := k_rr G 104) fl_X7_19 (by decide) ko_100 rfl (dq_of td_X7_set 82 rfl) ?_
      refine ok_iload1 (dq_of td_X7_set 83 rfl) ?_
      refine ok_iload3 (dq_of td_X7_set 84 rfl) ?_
      refine ok_iast ka_104 (dq_of td_X7_set 85 rfl) (fun σ4 => ?_)
      refine ok_goto (tgt := 163) (dq_of td_X7_set 86 rfl) (by decide) ?_
      refine ok_iload5 (dq_of td_X7_set 92 rfl) ?_
      exact ok_iret (dq_of td_X7_set 93 rfl)
  · refine ok_aload0 (dq_of td_X7_set 72 rfl) ?_
    refine ok_get (v := k_rr G 103) fl_X7_16 (by decide) ko_100 rfl (dq_of td_X7_set 73 rfl) ?_
    refine ok_iload1 (dq_of td_X7_set 74 rfl) ?_
    refine ok_iload3 (dq_of td_X7_set 75 rfl) ?_
    refine ok_iast ka_103 (dq_of td_X7_set 76 rfl) (fun σ5 => ?_)
    refine ok_goto (tgt := 163) (dq_of td_X7_set 77 rfl) (by decide) ?_
    refine ok_iload5 (dq_of td_X7_set 92 rfl) ?_
    exact ok_iret (dq_of td_X7_set 93 rfl)
theorem ob_X7_set_92 {G : KW} {l : Launch} (x1 : Int32) (x2 : Int32) (x3 : Int32)    (σ : Sg) : Okk G l cX7_set 6 RX7 (some .int) (rmo 2 44) ccI 92 [some (k_rr G 100), some (.int x1), some (.int x2), some (.int x3), none, none] [] σ (b_X7_set_92 x1 x2 x3  σ) := by
  unfold b_X7_set_92
  refine ok_iload2 (dq_of td_X7_set 50 rfl) ?_
  refine ok_if_ne (tgt := 105) (dq_of td_X7_set 51 rfl) (by decide) ?_ ?_
  · refine ok_iload2 (dq_of td_X7_set 57 rfl) ?_
    refine ok_iconst (v := 1) (dq_of td_X7_set 58 rfl) (by decide) ?_
    refine ok_ic_ne (tgt := 119) (dq_of td_X7_set 59 rfl) (by decide) ?_ ?_
    · refine ok_aload0 (dq_of td_X7_set 65 rfl) ?_
      refine ok_get (v := k_rr G 105) fl_X7_22 (by decide) ko_100 rfl (dq_of td_X7_set 66 rfl) ?_
      refine ok_iload1 (dq_of td_X7_set 67 rfl) ?_
      refine ok_iald ka_105 (dq_of td_X7_set 68 rfl) ?_
      refine ok_wk (wk_s (wk_s (wk_s (wk_s (wk_n (wk_n wk_0)))))) ?_
      exact ob_X7_set_125 _ _ _  _  _
    · refine ok_aload0 (dq_of td_X7_set 60 rfl) ?_
      refine ok_get (v := k_rr G 104) fl_X7_19 (by decide) ko_100 rfl (dq_of td_X7_set 61 rfl) ?_
      refine ok_iload1 (dq_of td_X7_set 62 rfl) ?_
      refine ok_iald ka_104 (dq_of td_X7_set 63 rfl) ?_
      refine ok_goto (tgt := 125) (dq_of td_X7_set 64 rfl) (by decide) ?_
      refine ok_wk (wk_s (wk_s (wk_s (wk_s (wk_n (wk_n wk_0)))))) ?_
      exact ob_X7_set_125 _ _ _  _  _
  · refine ok_aload0 (dq_of td_X7_set 52 rfl) ?_
    refine ok_get (v := k_rr G 103) fl_X7_16 (by decide) ko_100 rfl (dq_of td_X7_set 53 rfl) ?_
    refine ok_iload1 (dq_of td_X7_set 54 rfl) ?_
    refine ok_iald ka_103 (dq_of td_X7_set 55 rfl) ?_
    refine ok_goto (tgt := 125) (dq_of td_X7_set 56 rfl) (by decide) ?_
    refine ok_wk (wk_s (wk_s (wk_s (wk_s (wk_n (wk_n wk_0)))))) ?_
    exact ob_X7_set_125 _ _ _  _  _
theorem ob_X7_set_58 {G : KW} {l : Launch} (x1 : Int32) (x2 : Int32) (x3 : Int32)  (s0 : Int32)  (σ : Sg) : Okk G l cX7_set 6 RX7 (some .int) (rmo 2 44) ccI 58 [some (k_rr G 100), some (.int x1), some (.int x2), some (.int x3), none, none] [.int s0] σ (b_X7_set_58 x1 x2 x3 s0 σ) := by
  unfold b_X7_set_58
  refine ok_istore4 (dq_of td_X7_set 32 rfl) rfl (by decide) ?_
  refine ok_iload4 (dq_of td_X7_set 33 rfl) ?_
  refine ok_if_ne (tgt := 68) (dq_of td_X7_set 34 rfl) (by decide) ?_ ?_
  · refine ok_iload2 (dq_of td_X7_set 37 rfl) ?_
    refine ok_iconst (v := 2) (dq_of td_X7_set 38 rfl) (by decide) ?_
    refine ok_ic_ne (tgt := 92) (dq_of td_X7_set 39 rfl) (by decide) ?_ ?_
    · refine ok_wk (wk_s (wk_s (wk_s (wk_s (wk_n (wk_n wk_0)))))) ?_
      exact ob_X7_set_92 _ _ _   _
    · refine ok_iload3 (dq_of td_X7_set 40 rfl) ?_
      refine ok_if_ne (tgt := 92) (dq_of td_X7_set 41 rfl) (by decide) ?_ ?_
      · refine ok_wk (wk_s (wk_s (wk_s (wk_s (wk_n (wk_n wk_0)))))) ?_
        exact ob_X7_set_92 _ _ _   _
      · refine ok_aload0 (dq_of td_X7_set 42 rfl) ?_
        refine ok_iload1 (dq_of td_X7_set 43 rfl) ?_
        refine call_X7_wearers ml_X7_110  ⟨Nat.le_of_ble_eq_true rfl, Nat.le_of_ble_eq_true rfl⟩ ⟨Nat.zero_le _, Nat.zero_le _⟩ (Nat.le_of_ble_eq_true rfl) (dq_of td_X7_set 44 rfl) (fun r7 σ6 => ?_)
        refine call_X7_bits ml_X7_99  ⟨Nat.le_of_ble_eq_true rfl, Nat.le_of_ble_eq_true rfl⟩ ⟨Nat.zero_le _, Nat.zero_le _⟩ (Nat.le_of_ble_eq_true rfl) (dq_of td_X7_set 45 rfl) (fun r9 σ8 => ?_)
        refine ok_iconst (v := 2) (dq_of td_X7_set 46 rfl) (by decide) ?_
        refine ok_ic_ne (tgt := 92) (dq_of td_X7_set 47 rfl) (by decide) ?_ ?_
        · refine ok_wk (wk_s (wk_s (wk_s (wk_s (wk_n (wk_n wk_0)))))) ?_
          exact ob_X7_set_92 _ _ _   _
        · refine ok_bipush (v := (-3)) (dq_of td_X7_set 48 rfl) (by decide) ?_
          exact ok_iret (dq_of td_X7_set 49 rfl)
  · refine ok_bipush (v := (-2)) (dq_of td_X7_set 35 rfl) (by decide) ?_
    exact ok_iret (dq_of td_X7_set 36 rfl)
theorem ob_X7_set_57 {G : KW} {l : Launch} (x1 : Int32) (x2 : Int32) (x3 : Int32)    (σ : Sg) : Okk G l cX7_set 6 RX7 (some .int) (rmo 2 44) ccI 57 [some (k_rr G 100), some (.int x1), some (.int x2), some (.int x3), none, none] [] σ (b_X7_set_57 x1 x2 x3  σ) := by
  unfold b_X7_set_57
  refine ok_iconst (v := 0) (dq_of td_X7_set 31 rfl) (by decide) ?_
  refine ok_wk (wk_s (wk_s (wk_s (wk_s (wk_n (wk_n wk_0)))))) ?_
  exact ob_X7_set_58 _ _ _  _  _
def m_X7_set (x1 : Int32) (x2 : Int32) (x3 : Int32) (σ : Sg) : Option (Int32 × Sg) := e_cI (m_X7_isCoat x1 σ) (fun r2 σ1 => (if r2 = 0 then some ((-1), σ1) else (if x2 = 0 then e_cI (m_X7_in x3 0 99 σ1) (fun r15 σ14 => b_X7_set_58 x1 x2 x3 r15 σ14) else (if x2 = 1 then e_cI (m_X7_in x3 0 10 σ1) (fun r13 σ12 => b_X7_set_58 x1 x2 x3 r13 σ12) else (if x2 = 2 then e_cI (m_X7_in x3 0 1 σ1) (fun r11 σ10 => (if r11 = 0 then b_X7_set_57 x1 x2 x3 σ10 else b_X7_set_58 x1 x2 x3 1 σ10)) else b_X7_set_57 x1 x2 x3 σ1)))))
theorem om_X7_set {G : KW} {l : Launch} (x1 : Int32) (x2 : Int32) (x3 : Int32)  (σ : Sg) : Okk G l cX7_set 6 RX7 (some .int) (rmo 2 44) ccI 0 [some (k_rr G 100), some (.int x1), some (.int x2), some (.int x3), none, none] [] σ (m_X7_set x1 x2 x3 σ) := by
  unfold m_X7_set
  refine ok_aload0 (dq_of td_X7_set 0 rfl) ?_
  refine ok_iload1 (dq_of td_X7_set 1 rfl) ?_
  refine call_X7_isCoat ml_X7_107  ⟨Nat.le_of_ble_eq_true rfl, Nat.le_of_ble_eq_true rfl⟩ ⟨Nat.zero_le _, Nat.zero_le _⟩ (Nat.le_of_ble_eq_true rfl) (dq_of td_X7_set 2 rfl) (fun r2 σ1 => ?_)
  refine ok_if_ne (tgt := 10) (dq_of td_X7_set 3 rfl) (by decide) ?_ ?_
  · refine ok_iload2 (dq_of td_X7_set 6 rfl) ?_
    refine ok_if_ne (tgt := 24) (dq_of td_X7_set 7 rfl) (by decide) ?_ ?_
    · refine ok_iload2 (dq_of td_X7_set 13 rfl) ?_
      refine ok_iconst (v := 1) (dq_of td_X7_set 14 rfl) (by decide) ?_
      refine ok_ic_ne (tgt := 39) (dq_of td_X7_set 15 rfl) (by decide) ?_ ?_
      · refine ok_iload2 (dq_of td_X7_set 21 rfl) ?_
        refine ok_iconst (v := 2) (dq_of td_X7_set 22 rfl) (by decide) ?_
        refine ok_ic_ne (tgt := 57) (dq_of td_X7_set 23 rfl) (by decide) ?_ ?_
        · refine ok_wk (wk_s (wk_s (wk_s (wk_s (wk_n (wk_n wk_0)))))) ?_
          exact ob_X7_set_57 _ _ _   _
        · refine ok_iload3 (dq_of td_X7_set 24 rfl) ?_
          refine ok_iconst (v := 0) (dq_of td_X7_set 25 rfl) (by decide) ?_
          refine ok_iconst (v := 1) (dq_of td_X7_set 26 rfl) (by decide) ?_
          refine call_X7_in ml_X7_81  ⟨Nat.le_of_ble_eq_true rfl, Nat.le_of_ble_eq_true rfl⟩ ⟨Nat.zero_le _, Nat.zero_le _⟩ (Nat.le_of_ble_eq_true rfl) (dq_of td_X7_set 27 rfl) (fun r11 σ10 => ?_)
          refine ok_if_eq (tgt := 57) (dq_of td_X7_set 28 rfl) (by decide) ?_ ?_
          · refine ok_wk (wk_s (wk_s (wk_s (wk_s (wk_n (wk_n wk_0)))))) ?_
            exact ob_X7_set_57 _ _ _   _
          · refine ok_iconst (v := 1) (dq_of td_X7_set 29 rfl) (by decide) ?_
            refine ok_goto (tgt := 58) (dq_of td_X7_set 30 rfl) (by decide) ?_
            refine ok_wk (wk_s (wk_s (wk_s (wk_s (wk_n (wk_n wk_0)))))) ?_
            exact ob_X7_set_58 _ _ _  _  _
      · refine ok_iload3 (dq_of td_X7_set 16 rfl) ?_
        refine ok_iconst (v := 0) (dq_of td_X7_set 17 rfl) (by decide) ?_
        refine ok_bipush (v := 10) (dq_of td_X7_set 18 rfl) (by decide) ?_
        refine call_X7_in ml_X7_81  ⟨Nat.le_of_ble_eq_true rfl, Nat.le_of_ble_eq_true rfl⟩ ⟨Nat.zero_le _, Nat.zero_le _⟩ (Nat.le_of_ble_eq_true rfl) (dq_of td_X7_set 19 rfl) (fun r13 σ12 => ?_)
        refine ok_goto (tgt := 58) (dq_of td_X7_set 20 rfl) (by decide) ?_
        refine ok_wk (wk_s (wk_s (wk_s (wk_s (wk_n (wk_n wk_0)))))) ?_
        exact ob_X7_set_58 _ _ _  _  _
    · refine ok_iload3 (dq_of td_X7_set 8 rfl) ?_
      refine ok_iconst (v := 0) (dq_of td_X7_set 9 rfl) (by decide) ?_
      refine ok_bipush (v := 99) (dq_of td_X7_set 10 rfl) (by decide) ?_
      refine call_X7_in ml_X7_81  ⟨Nat.le_of_ble_eq_true rfl, Nat.le_of_ble_eq_true rfl⟩ ⟨Nat.zero_le _, Nat.zero_le _⟩ (Nat.le_of_ble_eq_true rfl) (dq_of td_X7_set 11 rfl) (fun r15 σ14 => ?_)
      refine ok_goto (tgt := 58) (dq_of td_X7_set 12 rfl) (by decide) ?_
      refine ok_wk (wk_s (wk_s (wk_s (wk_s (wk_n (wk_n wk_0)))))) ?_
      exact ob_X7_set_58 _ _ _  _  _
  · refine ok_iconst (v := (-1)) (dq_of td_X7_set 4 rfl) (by decide) ?_
    exact ok_iret (dq_of td_X7_set 5 rfl)
theorem ct_X7_set {G : KW} {l : Launch} (x1 : Int32) (x2 : Int32) (x3 : Int32)  (σ : Sg) : ∀ b, m_X7_set x1 x2 x3 σ = some b → MetF G l yX7_set cX7_set 6 (some .int) 2 44 [k_rr G 100, .int x1, .int x2, .int x3] (k_wl G σ) (ccI b).1 (k_wl G (ccI b).2) :=
  met_of (by decide) (Nat.le_of_ble_eq_true rfl) rfl (om_X7_set _ _ _  σ)
theorem call_X7_set {G : KW} {l : Launch} {cc : ByteArray} {nL : Nat} {own : String} {rt : Option FieldType} {R : Room} {α : Type} {X : State → Array Value → Method → Prop} {Z : α → List Frame → Array Value → State → State → Prop} {k0 n0 pc index : Nat} {L : List (Option Value)} {S : List Value} {σ : Sg} {F : Int32 → Sg → Option α} {x1 : Int32} {x2 : Int32} {x3 : Int32} (lk : MLk own index yX7_set)  (hR : R.frames ≥ 2 + 1 ∧ R.locals ≥ 8 + (6 + 11) + 44) (hcs : k0 ≤ R.cells ∧ n0 ≤ R.slots) (hro : (S.map fun v => v.category).sum ≤ 8) (d : decode cc pc = .ok (.invokevirtual index, 3)) (kk : ∀ (r : Int32) (σ' : Sg), Okg G l cc nL own rt R X Z k0 n0 (pc + 3) L (.int r :: S) σ' (F r σ')) : Okg G l cc nL own rt R X Z k0 n0 pc L (.int x3 :: .int x2 :: .int x1 :: k_rr G 100 :: S) σ (e_cI (m_X7_set x1 x2 x3 σ) F) :=
  ok_cV (cb := ccI) (As := [.int x1, .int x2, .int x3]) (ct_X7_set _ _ _  σ) mo_X7_set hi_X7_set lk rfl (ci := 7) rfl rfl (by decide) ko_100 hR rfl hcs hro d (fun b => kk b.1 b.2)
/-! CoatDinnerModel.cap(I)I -/
def m_X7_cap (x1 : Int32) (σ : Sg) : Option (Int32 × Sg) := e_cI (m_X7_in x1 1 99 σ) (fun r2 σ1 => (if r2 = 0 then some ((-2), σ1) else e_lt (σ1 100 7) (fun v3 => e_lt (k_up σ1 100 7 x1) (fun σ4 => some (v3, σ4)))))
theorem om_X7_cap {G : KW} {l : Launch} (x1 : Int32)  (σ : Sg) : Okk G l cX7_cap 3 RX7 (some .int) (rmo 1 22) ccI 0 [some (k_rr G 100), some (.int x1), none] [] σ (m_X7_cap x1 σ) := by
  unfold m_X7_cap
  refine ok_iload1 (dq_of td_X7_cap 0 rfl) ?_
  refine ok_iconst (v := 1) (dq_of td_X7_cap 1 rfl) (by decide) ?_
  refine ok_bipush (v := 99) (dq_of td_X7_cap 2 rfl) (by decide) ?_
  refine call_X7_in ml_X7_81  ⟨Nat.le_of_ble_eq_true rfl, Nat.le_of_ble_eq_true rfl⟩ ⟨Nat.zero_le _, Nat.zero_le _⟩ (Nat.le_of_ble_eq_true rfl) (dq_of td_X7_cap 3 rfl) (fun r2 σ1 => ?_)
  refine ok_if_ne (tgt := 13) (dq_of td_X7_cap 4 rfl) (by decide) ?_ ?_
  · refine ok_aload0 (dq_of td_X7_cap 7 rfl) ?_
    refine ok_get (v := .int (σ1 100 7)) fl_X7_25 (by decide) ko_100 rfl (dq_of td_X7_cap 8 rfl) ?_
    refine ok_gI (fun v3 => ?_)
    refine ok_istore2 (dq_of td_X7_cap 9 rfl) rfl (by decide) ?_
    refine ok_aload0 (dq_of td_X7_cap 10 rfl) ?_
    refine ok_iload1 (dq_of td_X7_cap 11 rfl) ?_
    refine put_7_7 fl_X7_25 ko_100 (dq_of td_X7_cap 12 rfl) (fun σ4 => ?_)
    refine ok_iload2 (dq_of td_X7_cap 13 rfl) ?_
    exact ok_iret (dq_of td_X7_cap 14 rfl)
  · refine ok_bipush (v := (-2)) (dq_of td_X7_cap 5 rfl) (by decide) ?_
    exact ok_iret (dq_of td_X7_cap 6 rfl)
theorem ct_X7_cap {G : KW} {l : Launch} (x1 : Int32)  (σ : Sg) : ∀ b, m_X7_cap x1 σ = some b → MetF G l yX7_cap cX7_cap 3 (some .int) 1 22 [k_rr G 100, .int x1] (k_wl G σ) (ccI b).1 (k_wl G (ccI b).2) :=
  met_of (by decide) (Nat.le_of_ble_eq_true rfl) rfl (om_X7_cap _  σ)
theorem call_X7_cap {G : KW} {l : Launch} {cc : ByteArray} {nL : Nat} {own : String} {rt : Option FieldType} {R : Room} {α : Type} {X : State → Array Value → Method → Prop} {Z : α → List Frame → Array Value → State → State → Prop} {k0 n0 pc index : Nat} {L : List (Option Value)} {S : List Value} {σ : Sg} {F : Int32 → Sg → Option α} {x1 : Int32} (lk : MLk own index yX7_cap)  (hR : R.frames ≥ 1 + 1 ∧ R.locals ≥ 8 + (3 + 11) + 22) (hcs : k0 ≤ R.cells ∧ n0 ≤ R.slots) (hro : (S.map fun v => v.category).sum ≤ 8) (d : decode cc pc = .ok (.invokevirtual index, 3)) (kk : ∀ (r : Int32) (σ' : Sg), Okg G l cc nL own rt R X Z k0 n0 (pc + 3) L (.int r :: S) σ' (F r σ')) : Okg G l cc nL own rt R X Z k0 n0 pc L (.int x1 :: k_rr G 100 :: S) σ (e_cI (m_X7_cap x1 σ) F) :=
  ok_cV (cb := ccI) (As := [.int x1]) (ct_X7_cap _  σ) mo_X7_cap hi_X7_cap lk rfl (ci := 7) rfl rfl (by decide) ko_100 hR rfl hcs hro d (fun b => kk b.1 b.2)
/-! CoatDinnerModel.give(III)I -/
def b_X7_give_115 (x1 : Int32) (x2 : Int32) (x3 : Int32) (x5 : Int32) (s0 : Int32) (s1 : Int32) (s2 : Nat) (σ : Sg) : Option (Int32 × Sg) := e_gd (k_ar s2) (e_wr σ s2 s1 (k_ln s2) s0 (fun σ5 => some (x5, σ5)))
def b_X7_give_94 (x1 : Int32) (x2 : Int32) (x3 : Int32) (x5 : Int32) (s0 : Int32) (s1 : Int32) (s2 : Nat) (σ : Sg) : Option (Int32 × Sg) := e_gd (k_ar s2) (e_wr σ s2 s1 (k_ln s2) s0 (fun σ3 => (if x2 = 1 then b_X7_give_115 x1 x2 x3 x5 x3 x1 111 σ3 else e_gd (k_in x1 5) (b_X7_give_115 x1 x2 x3 x5 (σ3 111 (Int32.toNatClampNeg x1)) x1 111 σ3))))
def b_X7_give_73 (x1 : Int32) (x2 : Int32) (x3 : Int32) (s0 : Int32) (σ : Sg) : Option (Int32 × Sg) := (if x2 = 0 then b_X7_give_94 x1 x2 x3 s0 x3 x1 110 σ else e_gd (k_in x1 5) (b_X7_give_94 x1 x2 x3 s0 (σ 110 (Int32.toNatClampNeg x1)) x1 110 σ))
def b_X7_give_44 (x1 : Int32) (x2 : Int32) (x3 : Int32) (s0 : Int32) (σ : Sg) : Option (Int32 × Sg) := (if s0 = 0 then some ((-2), σ) else (if x2 = 0 then e_gd (k_in x1 5) (b_X7_give_73 x1 x2 x3 (σ 110 (Int32.toNatClampNeg x1)) σ) else e_gd (k_in x1 5) (b_X7_give_73 x1 x2 x3 (σ 111 (Int32.toNatClampNeg x1)) σ)))
def b_X7_give_43 (x1 : Int32) (x2 : Int32) (x3 : Int32)  (σ : Sg) : Option (Int32 × Sg) := b_X7_give_44 x1 x2 x3 0 σ
theorem ob_X7_give_115 {G : KW} {l : Launch} (x1 : Int32) (x2 : Int32) (x3 : Int32)  (x5 : Int32) (s0 : Int32) (s1 : Int32) (s2 : Nat)  (σ : Sg) : Okk G l cX7_give 6 RX7 (some .int) (rmo 2 43) ccI 115 [none, none, none, none, none, some (.int x5)] [.int s0, .int s1, k_rr G s2] σ (b_X7_give_115 x1 x2 x3 x5 s0 s1 s2 σ) := by
  unfold b_X7_give_115
  refine ok_gd (fun hg6 => ?_)
  refine ok_iast (k_ar_of hg6) (dq_of td_X7_give 65 rfl) (fun σ5 => ?_)
  refine ok_iload5 (dq_of td_X7_give 66 rfl) ?_
  exact ok_iret (dq_of td_X7_give 67 rfl)
theorem ob_X7_give_94 {G : KW} {l : Launch} (x1 : Int32) (x2 : Int32) (x3 : Int32)  (x5 : Int32) (s0 : Int32) (s1 : Int32) (s2 : Nat)  (σ : Sg) : Okk G l cX7_give 6 RX7 (some .int) (rmo 2 43) ccI 94 [some (k_rr G 100), some (.int x1), some (.int x2), some (.int x3), none, some (.int x5)] [.int s0, .int s1, k_rr G s2] σ (b_X7_give_94 x1 x2 x3 x5 s0 s1 s2 σ) := by
  unfold b_X7_give_94
  refine ok_gd (fun hg4 => ?_)
  refine ok_iast (k_ar_of hg4) (dq_of td_X7_give 52 rfl) (fun σ3 => ?_)
  refine ok_aload0 (dq_of td_X7_give 53 rfl) ?_
  refine ok_get (v := k_rr G 111) fl_X7_44 (by decide) ko_100 rfl (dq_of td_X7_give 54 rfl) ?_
  refine ok_iload1 (dq_of td_X7_give 55 rfl) ?_
  refine ok_iload2 (dq_of td_X7_give 56 rfl) ?_
  refine ok_iconst (v := 1) (dq_of td_X7_give 57 rfl) (by decide) ?_
  refine ok_ic_ne (tgt := 109) (dq_of td_X7_give 58 rfl) (by decide) ?_ ?_
  · refine ok_aload0 (dq_of td_X7_give 61 rfl) ?_
    refine ok_get (v := k_rr G 111) fl_X7_44 (by decide) ko_100 rfl (dq_of td_X7_give 62 rfl) ?_
    refine ok_iload1 (dq_of td_X7_give 63 rfl) ?_
    refine ok_iald ka_111 (dq_of td_X7_give 64 rfl) ?_
    refine ok_wk (wk_n (wk_n (wk_n (wk_n (wk_n (wk_s wk_0)))))) ?_
    exact ob_X7_give_115 _ _ _  _ _ _ _  _
  · refine ok_iload3 (dq_of td_X7_give 59 rfl) ?_
    refine ok_goto (tgt := 115) (dq_of td_X7_give 60 rfl) (by decide) ?_
    refine ok_wk (wk_n (wk_n (wk_n (wk_n (wk_n (wk_s wk_0)))))) ?_
    exact ob_X7_give_115 _ _ _  _ _ _ _  _
theorem ob_X7_give_73 {G : KW} {l : Launch} (x1 : Int32) (x2 : Int32) (x3 : Int32)  (s0 : Int32)  (σ : Sg) : Okk G l cX7_give 6 RX7 (some .int) (rmo 2 43) ccI 73 [some (k_rr G 100), some (.int x1), some (.int x2), some (.int x3), none, none] [.int s0] σ (b_X7_give_73 x1 x2 x3 s0 σ) := by
  unfold b_X7_give_73
  refine ok_istore5 (dq_of td_X7_give 40 rfl) rfl (by decide) ?_
  refine ok_aload0 (dq_of td_X7_give 41 rfl) ?_
  refine ok_get (v := k_rr G 110) fl_X7_41 (by decide) ko_100 rfl (dq_of td_X7_give 42 rfl) ?_
  refine ok_iload1 (dq_of td_X7_give 43 rfl) ?_
  refine ok_iload2 (dq_of td_X7_give 44 rfl) ?_
  refine ok_if_ne (tgt := 88) (dq_of td_X7_give 45 rfl) (by decide) ?_ ?_
  · refine ok_aload0 (dq_of td_X7_give 48 rfl) ?_
    refine ok_get (v := k_rr G 110) fl_X7_41 (by decide) ko_100 rfl (dq_of td_X7_give 49 rfl) ?_
    refine ok_iload1 (dq_of td_X7_give 50 rfl) ?_
    refine ok_iald ka_110 (dq_of td_X7_give 51 rfl) ?_
    refine ok_wk (wk_s (wk_s (wk_s (wk_s (wk_n (wk_s wk_0)))))) ?_
    exact ob_X7_give_94 _ _ _  _ _ _ _  _
  · refine ok_iload3 (dq_of td_X7_give 46 rfl) ?_
    refine ok_goto (tgt := 94) (dq_of td_X7_give 47 rfl) (by decide) ?_
    refine ok_wk (wk_s (wk_s (wk_s (wk_s (wk_n (wk_s wk_0)))))) ?_
    exact ob_X7_give_94 _ _ _  _ _ _ _  _
theorem ob_X7_give_44 {G : KW} {l : Launch} (x1 : Int32) (x2 : Int32) (x3 : Int32)  (s0 : Int32)  (σ : Sg) : Okk G l cX7_give 6 RX7 (some .int) (rmo 2 43) ccI 44 [some (k_rr G 100), some (.int x1), some (.int x2), some (.int x3), none, none] [.int s0] σ (b_X7_give_44 x1 x2 x3 s0 σ) := by
  unfold b_X7_give_44
  refine ok_istore4 (dq_of td_X7_give 24 rfl) rfl (by decide) ?_
  refine ok_iload4 (dq_of td_X7_give 25 rfl) ?_
  refine ok_if_ne (tgt := 54) (dq_of td_X7_give 26 rfl) (by decide) ?_ ?_
  · refine ok_iload2 (dq_of td_X7_give 29 rfl) ?_
    refine ok_if_ne (tgt := 67) (dq_of td_X7_give 30 rfl) (by decide) ?_ ?_
    · refine ok_aload0 (dq_of td_X7_give 36 rfl) ?_
      refine ok_get (v := k_rr G 111) fl_X7_44 (by decide) ko_100 rfl (dq_of td_X7_give 37 rfl) ?_
      refine ok_iload1 (dq_of td_X7_give 38 rfl) ?_
      refine ok_iald ka_111 (dq_of td_X7_give 39 rfl) ?_
      refine ok_wk (wk_s (wk_s (wk_s (wk_s (wk_n (wk_n wk_0)))))) ?_
      exact ob_X7_give_73 _ _ _  _  _
    · refine ok_aload0 (dq_of td_X7_give 31 rfl) ?_
      refine ok_get (v := k_rr G 110) fl_X7_41 (by decide) ko_100 rfl (dq_of td_X7_give 32 rfl) ?_
      refine ok_iload1 (dq_of td_X7_give 33 rfl) ?_
      refine ok_iald ka_110 (dq_of td_X7_give 34 rfl) ?_
      refine ok_goto (tgt := 73) (dq_of td_X7_give 35 rfl) (by decide) ?_
      refine ok_wk (wk_s (wk_s (wk_s (wk_s (wk_n (wk_n wk_0)))))) ?_
      exact ob_X7_give_73 _ _ _  _  _
  · refine ok_bipush (v := (-2)) (dq_of td_X7_give 27 rfl) (by decide) ?_
    exact ok_iret (dq_of td_X7_give 28 rfl)
theorem ob_X7_give_43 {G : KW} {l : Launch} (x1 : Int32) (x2 : Int32) (x3 : Int32)    (σ : Sg) : Okk G l cX7_give 6 RX7 (some .int) (rmo 2 43) ccI 43 [some (k_rr G 100), some (.int x1), some (.int x2), some (.int x3), none, none] [] σ (b_X7_give_43 x1 x2 x3  σ) := by
  unfold b_X7_give_43
  refine ok_iconst (v := 0) (dq_of td_X7_give 23 rfl) (by decide) ?_
  refine ok_wk (wk_s (wk_s (wk_s (wk_s (wk_n (wk_n wk_0)))))) ?_
  exact ob_X7_give_44 _ _ _  _  _
def m_X7_give (x1 : Int32) (x2 : Int32) (x3 : Int32) (σ : Sg) : Option (Int32 × Sg) := e_cI (m_X7_isThere x1 σ) (fun r2 σ1 => (if r2 = 0 then some ((-1), σ1) else (if x2 = 0 then e_cI (m_X7_in x3 0 999 σ1) (fun r10 σ9 => b_X7_give_44 x1 x2 x3 r10 σ9) else (if x2 = 1 then e_cI (m_X7_in x3 0 2 σ1) (fun r8 σ7 => (if r8 = 0 then b_X7_give_43 x1 x2 x3 σ7 else b_X7_give_44 x1 x2 x3 1 σ7)) else b_X7_give_43 x1 x2 x3 σ1))))
theorem om_X7_give {G : KW} {l : Launch} (x1 : Int32) (x2 : Int32) (x3 : Int32)  (σ : Sg) : Okk G l cX7_give 6 RX7 (some .int) (rmo 2 43) ccI 0 [some (k_rr G 100), some (.int x1), some (.int x2), some (.int x3), none, none] [] σ (m_X7_give x1 x2 x3 σ) := by
  unfold m_X7_give
  refine ok_aload0 (dq_of td_X7_give 0 rfl) ?_
  refine ok_iload1 (dq_of td_X7_give 1 rfl) ?_
  refine call_X7_isThere ml_X7_95  ⟨Nat.le_of_ble_eq_true rfl, Nat.le_of_ble_eq_true rfl⟩ ⟨Nat.zero_le _, Nat.zero_le _⟩ (Nat.le_of_ble_eq_true rfl) (dq_of td_X7_give 2 rfl) (fun r2 σ1 => ?_)
  refine ok_if_ne (tgt := 10) (dq_of td_X7_give 3 rfl) (by decide) ?_ ?_
  · refine ok_iload2 (dq_of td_X7_give 6 rfl) ?_
    refine ok_if_ne (tgt := 25) (dq_of td_X7_give 7 rfl) (by decide) ?_ ?_
    · refine ok_iload2 (dq_of td_X7_give 13 rfl) ?_
      refine ok_iconst (v := 1) (dq_of td_X7_give 14 rfl) (by decide) ?_
      refine ok_ic_ne (tgt := 43) (dq_of td_X7_give 15 rfl) (by decide) ?_ ?_
      · refine ok_wk (wk_s (wk_s (wk_s (wk_s (wk_n (wk_n wk_0)))))) ?_
        exact ob_X7_give_43 _ _ _   _
      · refine ok_iload3 (dq_of td_X7_give 16 rfl) ?_
        refine ok_iconst (v := 0) (dq_of td_X7_give 17 rfl) (by decide) ?_
        refine ok_iconst (v := 2) (dq_of td_X7_give 18 rfl) (by decide) ?_
        refine call_X7_in ml_X7_81  ⟨Nat.le_of_ble_eq_true rfl, Nat.le_of_ble_eq_true rfl⟩ ⟨Nat.zero_le _, Nat.zero_le _⟩ (Nat.le_of_ble_eq_true rfl) (dq_of td_X7_give 19 rfl) (fun r8 σ7 => ?_)
        refine ok_if_eq (tgt := 43) (dq_of td_X7_give 20 rfl) (by decide) ?_ ?_
        · refine ok_wk (wk_s (wk_s (wk_s (wk_s (wk_n (wk_n wk_0)))))) ?_
          exact ob_X7_give_43 _ _ _   _
        · refine ok_iconst (v := 1) (dq_of td_X7_give 21 rfl) (by decide) ?_
          refine ok_goto (tgt := 44) (dq_of td_X7_give 22 rfl) (by decide) ?_
          refine ok_wk (wk_s (wk_s (wk_s (wk_s (wk_n (wk_n wk_0)))))) ?_
          exact ob_X7_give_44 _ _ _  _  _
    · refine ok_iload3 (dq_of td_X7_give 8 rfl) ?_
      refine ok_iconst (v := 0) (dq_of td_X7_give 9 rfl) (by decide) ?_
      refine ok_sipush (v := 999) (dq_of td_X7_give 10 rfl) (by decide) ?_
      refine call_X7_in ml_X7_81  ⟨Nat.le_of_ble_eq_true rfl, Nat.le_of_ble_eq_true rfl⟩ ⟨Nat.zero_le _, Nat.zero_le _⟩ (Nat.le_of_ble_eq_true rfl) (dq_of td_X7_give 11 rfl) (fun r10 σ9 => ?_)
      refine ok_goto (tgt := 44) (dq_of td_X7_give 12 rfl) (by decide) ?_
      refine ok_wk (wk_s (wk_s (wk_s (wk_s (wk_n (wk_n wk_0)))))) ?_
      exact ob_X7_give_44 _ _ _  _  _
  · refine ok_iconst (v := (-1)) (dq_of td_X7_give 4 rfl) (by decide) ?_
    exact ok_iret (dq_of td_X7_give 5 rfl)
theorem ct_X7_give {G : KW} {l : Launch} (x1 : Int32) (x2 : Int32) (x3 : Int32)  (σ : Sg) : ∀ b, m_X7_give x1 x2 x3 σ = some b → MetF G l yX7_give cX7_give 6 (some .int) 2 43 [k_rr G 100, .int x1, .int x2, .int x3] (k_wl G σ) (ccI b).1 (k_wl G (ccI b).2) :=
  met_of (by decide) (Nat.le_of_ble_eq_true rfl) rfl (om_X7_give _ _ _  σ)
theorem call_X7_give {G : KW} {l : Launch} {cc : ByteArray} {nL : Nat} {own : String} {rt : Option FieldType} {R : Room} {α : Type} {X : State → Array Value → Method → Prop} {Z : α → List Frame → Array Value → State → State → Prop} {k0 n0 pc index : Nat} {L : List (Option Value)} {S : List Value} {σ : Sg} {F : Int32 → Sg → Option α} {x1 : Int32} {x2 : Int32} {x3 : Int32} (lk : MLk own index yX7_give)  (hR : R.frames ≥ 2 + 1 ∧ R.locals ≥ 8 + (6 + 11) + 43) (hcs : k0 ≤ R.cells ∧ n0 ≤ R.slots) (hro : (S.map fun v => v.category).sum ≤ 8) (d : decode cc pc = .ok (.invokevirtual index, 3)) (kk : ∀ (r : Int32) (σ' : Sg), Okg G l cc nL own rt R X Z k0 n0 (pc + 3) L (.int r :: S) σ' (F r σ')) : Okg G l cc nL own rt R X Z k0 n0 pc L (.int x3 :: .int x2 :: .int x1 :: k_rr G 100 :: S) σ (e_cI (m_X7_give x1 x2 x3 σ) F) :=
  ok_cV (cb := ccI) (As := [.int x1, .int x2, .int x3]) (ct_X7_give _ _ _  σ) mo_X7_give hi_X7_give lk rfl (ci := 7) rfl rfl (by decide) ko_100 hR rfl hcs hro d (fun b => kk b.1 b.2)
/-! CoatDinnerModel.say(I)I -/
def m_X7_say (x1 : Int32) (σ : Sg) : Option (Int32 × Sg) := e_cI (m_X7_in x1 33 126 σ) (fun r2 σ1 => (if r2 = 0 then some ((-2), σ1) else (if (σ1 100 16) = 60 then some ((-4), σ1) else e_wr σ1 113 (σ1 100 16) 60 x1 (fun σ3 => e_lt (k_up σ3 100 16 ((σ3 100 16) + 1)) (fun σ4 => some (σ4 100 16, σ4))))))
theorem om_X7_say {G : KW} {l : Launch} (x1 : Int32)  (σ : Sg) : Okk G l cX7_say 2 RX7 (some .int) (rmo 1 22) ccI 0 [some (k_rr G 100), some (.int x1)] [] σ (m_X7_say x1 σ) := by
  unfold m_X7_say
  refine ok_iload1 (dq_of td_X7_say 0 rfl) ?_
  refine ok_bipush (v := 33) (dq_of td_X7_say 1 rfl) (by decide) ?_
  refine ok_bipush (v := 126) (dq_of td_X7_say 2 rfl) (by decide) ?_
  refine call_X7_in ml_X7_81  ⟨Nat.le_of_ble_eq_true rfl, Nat.le_of_ble_eq_true rfl⟩ ⟨Nat.zero_le _, Nat.zero_le _⟩ (Nat.le_of_ble_eq_true rfl) (dq_of td_X7_say 3 rfl) (fun r2 σ1 => ?_)
  refine ok_if_ne (tgt := 14) (dq_of td_X7_say 4 rfl) (by decide) ?_ ?_
  · refine ok_aload0 (dq_of td_X7_say 7 rfl) ?_
    refine ok_get (v := .int (σ1 100 16)) fl_X7_113 (by decide) ko_100 rfl (dq_of td_X7_say 8 rfl) ?_
    refine ok_bipush (v := 60) (dq_of td_X7_say 9 rfl) (by decide) ?_
    refine ok_ic_ne (tgt := 26) (dq_of td_X7_say 10 rfl) (by decide) ?_ ?_
    · refine ok_aload0 (dq_of td_X7_say 13 rfl) ?_
      refine ok_get (v := k_rr G 113) fl_X7_50 (by decide) ko_100 rfl (dq_of td_X7_say 14 rfl) ?_
      refine ok_aload0 (dq_of td_X7_say 15 rfl) ?_
      refine ok_get (v := .int (σ1 100 16)) fl_X7_113 (by decide) ko_100 rfl (dq_of td_X7_say 16 rfl) ?_
      refine ok_iload1 (dq_of td_X7_say 17 rfl) ?_
      refine ok_iast ka_113 (dq_of td_X7_say 18 rfl) (fun σ3 => ?_)
      refine ok_aload0 (dq_of td_X7_say 19 rfl) ?_
      refine ok_dup (dq_of td_X7_say 20 rfl) rfl ?_
      refine ok_get (v := .int (σ3 100 16)) fl_X7_113 (by decide) ko_100 rfl (dq_of td_X7_say 21 rfl) ?_
      refine ok_iconst (v := 1) (dq_of td_X7_say 22 rfl) (by decide) ?_
      refine ok_iadd (dq_of td_X7_say 23 rfl) ?_
      refine put_7_16 fl_X7_113 ko_100 (dq_of td_X7_say 24 rfl) (fun σ4 => ?_)
      refine ok_aload0 (dq_of td_X7_say 25 rfl) ?_
      refine ok_get (v := .int (σ4 100 16)) fl_X7_113 (by decide) ko_100 rfl (dq_of td_X7_say 26 rfl) ?_
      exact ok_iret (dq_of td_X7_say 27 rfl)
    · refine ok_bipush (v := (-4)) (dq_of td_X7_say 11 rfl) (by decide) ?_
      exact ok_iret (dq_of td_X7_say 12 rfl)
  · refine ok_bipush (v := (-2)) (dq_of td_X7_say 5 rfl) (by decide) ?_
    exact ok_iret (dq_of td_X7_say 6 rfl)
theorem ct_X7_say {G : KW} {l : Launch} (x1 : Int32)  (σ : Sg) : ∀ b, m_X7_say x1 σ = some b → MetF G l yX7_say cX7_say 2 (some .int) 1 22 [k_rr G 100, .int x1] (k_wl G σ) (ccI b).1 (k_wl G (ccI b).2) :=
  met_of (by decide) (Nat.le_of_ble_eq_true rfl) rfl (om_X7_say _  σ)
theorem call_X7_say {G : KW} {l : Launch} {cc : ByteArray} {nL : Nat} {own : String} {rt : Option FieldType} {R : Room} {α : Type} {X : State → Array Value → Method → Prop} {Z : α → List Frame → Array Value → State → State → Prop} {k0 n0 pc index : Nat} {L : List (Option Value)} {S : List Value} {σ : Sg} {F : Int32 → Sg → Option α} {x1 : Int32} (lk : MLk own index yX7_say)  (hR : R.frames ≥ 1 + 1 ∧ R.locals ≥ 8 + (2 + 11) + 22) (hcs : k0 ≤ R.cells ∧ n0 ≤ R.slots) (hro : (S.map fun v => v.category).sum ≤ 8) (d : decode cc pc = .ok (.invokevirtual index, 3)) (kk : ∀ (r : Int32) (σ' : Sg), Okg G l cc nL own rt R X Z k0 n0 (pc + 3) L (.int r :: S) σ' (F r σ')) : Okg G l cc nL own rt R X Z k0 n0 pc L (.int x1 :: k_rr G 100 :: S) σ (e_cI (m_X7_say x1 σ) F) :=
  ok_cV (cb := ccI) (As := [.int x1]) (ct_X7_say _  σ) mo_X7_say hi_X7_say lk rfl (ci := 7) rfl rfl (by decide) ko_100 hR rfl hcs hro d (fun b => kk b.1 b.2)
/-! CoatDinnerModel.wipe()I -/
def m_X7_wipe  (σ : Sg) : Option (Int32 × Sg) := e_lt (σ 100 16) (fun v1 => e_lt (k_up σ 100 16 0) (fun σ2 => some (v1, σ2)))
theorem om_X7_wipe {G : KW} {l : Launch}   (σ : Sg) : Okk G l cX7_wipe 2 RX7 (some .int) (rmo 0 0) ccI 0 [some (k_rr G 100), none] [] σ (m_X7_wipe  σ) := by
  unfold m_X7_wipe
  refine ok_aload0 (dq_of td_X7_wipe 0 rfl) ?_
  refine ok_get (v := .int (σ 100 16)) fl_X7_113 (by decide) ko_100 rfl (dq_of td_X7_wipe 1 rfl) ?_
  refine ok_gI (fun v1 => ?_)
  refine ok_istore1 (dq_of td_X7_wipe 2 rfl) rfl (by decide) ?_
  refine ok_aload0 (dq_of td_X7_wipe 3 rfl) ?_
  refine ok_iconst (v := 0) (dq_of td_X7_wipe 4 rfl) (by decide) ?_
  refine put_7_16 fl_X7_113 ko_100 (dq_of td_X7_wipe 5 rfl) (fun σ2 => ?_)
  refine ok_iload1 (dq_of td_X7_wipe 6 rfl) ?_
  exact ok_iret (dq_of td_X7_wipe 7 rfl)
theorem ct_X7_wipe {G : KW} {l : Launch}   (σ : Sg) : ∀ b, m_X7_wipe  σ = some b → MetF G l yX7_wipe cX7_wipe 2 (some .int) 0 0 [k_rr G 100] (k_wl G σ) (ccI b).1 (k_wl G (ccI b).2) :=
  met_of (by decide) (Nat.le_of_ble_eq_true rfl) rfl (om_X7_wipe   σ)
theorem call_X7_wipe {G : KW} {l : Launch} {cc : ByteArray} {nL : Nat} {own : String} {rt : Option FieldType} {R : Room} {α : Type} {X : State → Array Value → Method → Prop} {Z : α → List Frame → Array Value → State → State → Prop} {k0 n0 pc index : Nat} {L : List (Option Value)} {S : List Value} {σ : Sg} {F : Int32 → Sg → Option α}  (lk : MLk own index yX7_wipe)  (hR : R.frames ≥ 0 + 1 ∧ R.locals ≥ 8 + (2 + 11) + 0) (hcs : k0 ≤ R.cells ∧ n0 ≤ R.slots) (hro : (S.map fun v => v.category).sum ≤ 8) (d : decode cc pc = .ok (.invokevirtual index, 3)) (kk : ∀ (r : Int32) (σ' : Sg), Okg G l cc nL own rt R X Z k0 n0 (pc + 3) L (.int r :: S) σ' (F r σ')) : Okg G l cc nL own rt R X Z k0 n0 pc L (k_rr G 100 :: S) σ (e_cI (m_X7_wipe  σ) F) :=
  ok_cV (cb := ccI) (As := []) (ct_X7_wipe   σ) mo_X7_wipe hi_X7_wipe lk rfl (ci := 7) rfl rfl (by decide) ko_100 hR rfl hcs hro d (fun b => kk b.1 b.2)
/-! CoatDinnerModel.faultOf()I -/
def b_X7_faultOf_140  (K : Int32 → Sg → Option (Int32 × Sg)) (H : Int32 → Int32 → Sg → Option (Int32 × Sg)) (x2 : Int32) (s0 : Int32) (σ : Sg) : Option (Int32 × Sg) := H s0 (x2 + 1) σ
def b_X7_faultOf_139  (K : Int32 → Sg → Option (Int32 × Sg)) (H : Int32 → Int32 → Sg → Option (Int32 × Sg)) (x2 : Int32) (σ : Sg) : Option (Int32 × Sg) := b_X7_faultOf_140  K H x2 0 σ
def b_X7_faultOf_99  (K : Int32 → Sg → Option (Int32 × Sg)) (H : Int32 → Int32 → Sg → Option (Int32 × Sg)) (x1 : Int32) (x2 : Int32) (x4 : Int32) (s0 : Int32) (σ : Sg) : Option (Int32 × Sg) := (if s0 = 0 then some (x2, σ) else (if x1 = 0 then (if x4 = 0 then b_X7_faultOf_140  K H x2 0 σ else b_X7_faultOf_140  K H x2 1 σ) else (if x1 = 1 then (if x4 = 0 then b_X7_faultOf_139  K H x2 σ else b_X7_faultOf_140  K H x2 2 σ) else b_X7_faultOf_139  K H x2 σ)))
def b_X7_faultOf_89  (K : Int32 → Sg → Option (Int32 × Sg)) (H : Int32 → Int32 → Sg → Option (Int32 × Sg)) (x1 : Int32) (x2 : Int32) (x4 : Int32) (σ : Sg) : Option (Int32 × Sg) := b_X7_faultOf_99  K H x1 x2 x4 1 σ
def b_X7_faultOf_60  (K : Int32 → Sg → Option (Int32 × Sg)) (H : Int32 → Int32 → Sg → Option (Int32 × Sg)) (x1 : Int32) (x2 : Int32) (x4 : Int32) (σ : Sg) : Option (Int32 × Sg) := b_X7_faultOf_99  K H x1 x2 x4 1 σ
def d_X7_faultOf_4  (K : Int32 → Sg → Option (Int32 × Sg)) (H : Int32 → Int32 → Sg → Option (Int32 × Sg)) (x1 : Int32) (x2 : Int32) (σ : Sg) : Option (Int32 × Sg) := (if (σ 100 16) ≤ x2 then K x1 σ else e_gd (k_in x2 60) (e_lt (σ 113 (Int32.toNatClampNeg x2)) (fun v1 => e_cI (m_X7_in v1 65 69 σ) (fun r3 σ2 => e_cI (m_X7_in v1 97 101 σ2) (fun r5 σ4 => (if x1 = 0 then (if r3 = 0 then (if v1 = 46 then b_X7_faultOf_60  K H x1 x2 r3 σ4 else (if v1 = 42 then b_X7_faultOf_60  K H x1 x2 r3 σ4 else b_X7_faultOf_99  K H x1 x2 r3 0 σ4)) else b_X7_faultOf_60  K H x1 x2 r3 σ4) else (if x1 = 1 then (if r3 = 0 then (if r5 = 0 then (if v1 = 45 then b_X7_faultOf_89  K H x1 x2 r3 σ4 else b_X7_faultOf_99  K H x1 x2 r3 0 σ4) else b_X7_faultOf_89  K H x1 x2 r3 σ4) else b_X7_faultOf_89  K H x1 x2 r3 σ4) else b_X7_faultOf_99  K H x1 x2 r3 r5 σ4)))))))
theorem ob_X7_faultOf_140 {G : KW} {l : Launch}   {K : Int32 → Sg → Option (Int32 × Sg)} {H : Int32 → Int32 → Sg → Option (Int32 × Sg)} (hK : ∀ (x1 : Int32) (σ : Sg), Okk G l cX7_faultOf 7 RX7 (some .int) (rmo 1 22) ccI 147 [some (k_rr G 100), some (.int x1), none, none, none, none, none] [] σ (K x1 σ)) (hH : ∀ (x1 : Int32) (x2 : Int32) (σ : Sg), Okk G l cX7_faultOf 7 RX7 (some .int) (rmo 1 22) ccI 4 [some (k_rr G 100), some (.int x1), some (.int x2), none, none, none, none] [] σ (H x1 x2 σ)) (x2 : Int32) (s0 : Int32)  (σ : Sg) : Okk G l cX7_faultOf 7 RX7 (some .int) (rmo 1 22) ccI 140 [some (k_rr G 100), none, some (.int x2), none, none, none, none] [.int s0] σ (b_X7_faultOf_140  K H x2 s0 σ) := by
  unfold b_X7_faultOf_140
  refine ok_istore1 (dq_of td_X7_faultOf 73 rfl) rfl (by decide) ?_
  refine ok_jinc2 (w := 1) (dq_of td_X7_faultOf 74 rfl) (by decide) rfl (by decide) ?_
  refine ok_goto (tgt := 4) (dq_of td_X7_faultOf 75 rfl) (by decide) ?_
  refine ok_wk (wk_s (wk_s (wk_s (wk_n (wk_n (wk_n (wk_n wk_0))))))) ?_
  exact hH _ _ _
theorem ob_X7_faultOf_139 {G : KW} {l : Launch}   {K : Int32 → Sg → Option (Int32 × Sg)} {H : Int32 → Int32 → Sg → Option (Int32 × Sg)} (hK : ∀ (x1 : Int32) (σ : Sg), Okk G l cX7_faultOf 7 RX7 (some .int) (rmo 1 22) ccI 147 [some (k_rr G 100), some (.int x1), none, none, none, none, none] [] σ (K x1 σ)) (hH : ∀ (x1 : Int32) (x2 : Int32) (σ : Sg), Okk G l cX7_faultOf 7 RX7 (some .int) (rmo 1 22) ccI 4 [some (k_rr G 100), some (.int x1), some (.int x2), none, none, none, none] [] σ (H x1 x2 σ)) (x2 : Int32)  (σ : Sg) : Okk G l cX7_faultOf 7 RX7 (some .int) (rmo 1 22) ccI 139 [some (k_rr G 100), none, some (.int x2), none, none, none, none] [] σ (b_X7_faultOf_139  K H x2 σ) := by
  unfold b_X7_faultOf_139
  refine ok_iconst (v := 0) (dq_of td_X7_faultOf 72 rfl) (by decide) ?_
  refine ok_wk (wk_s (wk_n (wk_s (wk_n (wk_n (wk_n (wk_n wk_0))))))) ?_
  exact ob_X7_faultOf_140   hK hH _ _  _
theorem ob_X7_faultOf_99 {G : KW} {l : Launch}   {K : Int32 → Sg → Option (Int32 × Sg)} {H : Int32 → Int32 → Sg → Option (Int32 × Sg)} (hK : ∀ (x1 : Int32) (σ : Sg), Okk G l cX7_faultOf 7 RX7 (some .int) (rmo 1 22) ccI 147 [some (k_rr G 100), some (.int x1), none, none, none, none, none] [] σ (K x1 σ)) (hH : ∀ (x1 : Int32) (x2 : Int32) (σ : Sg), Okk G l cX7_faultOf 7 RX7 (some .int) (rmo 1 22) ccI 4 [some (k_rr G 100), some (.int x1), some (.int x2), none, none, none, none] [] σ (H x1 x2 σ)) (x1 : Int32) (x2 : Int32) (x4 : Int32) (s0 : Int32)  (σ : Sg) : Okk G l cX7_faultOf 7 RX7 (some .int) (rmo 1 22) ccI 99 [some (k_rr G 100), some (.int x1), some (.int x2), none, some (.int x4), none, none] [.int s0] σ (b_X7_faultOf_99  K H x1 x2 x4 s0 σ) := by
  unfold b_X7_faultOf_99
  refine ok_istore6 (dq_of td_X7_faultOf 52 rfl) rfl (by decide) ?_
  refine ok_iload6 (dq_of td_X7_faultOf 53 rfl) ?_
  refine ok_if_ne (tgt := 108) (dq_of td_X7_faultOf 54 rfl) (by decide) ?_ ?_
  · refine ok_iload1 (dq_of td_X7_faultOf 57 rfl) ?_
    refine ok_if_ne (tgt := 125) (dq_of td_X7_faultOf 58 rfl) (by decide) ?_ ?_
    · refine ok_iload1 (dq_of td_X7_faultOf 65 rfl) ?_
      refine ok_iconst (v := 1) (dq_of td_X7_faultOf 66 rfl) (by decide) ?_
      refine ok_ic_ne (tgt := 139) (dq_of td_X7_faultOf 67 rfl) (by decide) ?_ ?_
      · refine ok_wk (wk_s (wk_n (wk_s (wk_n (wk_n (wk_n (wk_n wk_0))))))) ?_
        exact ob_X7_faultOf_139   hK hH _  _
      · refine ok_iload4 (dq_of td_X7_faultOf 68 rfl) ?_
        refine ok_if_eq (tgt := 139) (dq_of td_X7_faultOf 69 rfl) (by decide) ?_ ?_
        · refine ok_wk (wk_s (wk_n (wk_s (wk_n (wk_n (wk_n (wk_n wk_0))))))) ?_
          exact ob_X7_faultOf_139   hK hH _  _
        · refine ok_iconst (v := 2) (dq_of td_X7_faultOf 70 rfl) (by decide) ?_
          refine ok_goto (tgt := 140) (dq_of td_X7_faultOf 71 rfl) (by decide) ?_
          refine ok_wk (wk_s (wk_n (wk_s (wk_n (wk_n (wk_n (wk_n wk_0))))))) ?_
          exact ob_X7_faultOf_140   hK hH _ _  _
    · refine ok_iload4 (dq_of td_X7_faultOf 59 rfl) ?_
      refine ok_if_eq (tgt := 121) (dq_of td_X7_faultOf 60 rfl) (by decide) ?_ ?_
      · refine ok_iconst (v := 0) (dq_of td_X7_faultOf 63 rfl) (by decide) ?_
        refine ok_goto (tgt := 140) (dq_of td_X7_faultOf 64 rfl) (by decide) ?_
        refine ok_wk (wk_s (wk_n (wk_s (wk_n (wk_n (wk_n (wk_n wk_0))))))) ?_
        exact ob_X7_faultOf_140   hK hH _ _  _
      · refine ok_iconst (v := 1) (dq_of td_X7_faultOf 61 rfl) (by decide) ?_
        refine ok_goto (tgt := 140) (dq_of td_X7_faultOf 62 rfl) (by decide) ?_
        refine ok_wk (wk_s (wk_n (wk_s (wk_n (wk_n (wk_n (wk_n wk_0))))))) ?_
        exact ob_X7_faultOf_140   hK hH _ _  _
  · refine ok_iload2 (dq_of td_X7_faultOf 55 rfl) ?_
    exact ok_iret (dq_of td_X7_faultOf 56 rfl)
theorem ob_X7_faultOf_89 {G : KW} {l : Launch}   {K : Int32 → Sg → Option (Int32 × Sg)} {H : Int32 → Int32 → Sg → Option (Int32 × Sg)} (hK : ∀ (x1 : Int32) (σ : Sg), Okk G l cX7_faultOf 7 RX7 (some .int) (rmo 1 22) ccI 147 [some (k_rr G 100), some (.int x1), none, none, none, none, none] [] σ (K x1 σ)) (hH : ∀ (x1 : Int32) (x2 : Int32) (σ : Sg), Okk G l cX7_faultOf 7 RX7 (some .int) (rmo 1 22) ccI 4 [some (k_rr G 100), some (.int x1), some (.int x2), none, none, none, none] [] σ (H x1 x2 σ)) (x1 : Int32) (x2 : Int32) (x4 : Int32)  (σ : Sg) : Okk G l cX7_faultOf 7 RX7 (some .int) (rmo 1 22) ccI 89 [some (k_rr G 100), some (.int x1), some (.int x2), none, some (.int x4), none, none] [] σ (b_X7_faultOf_89  K H x1 x2 x4 σ) := by
  unfold b_X7_faultOf_89
  refine ok_iconst (v := 1) (dq_of td_X7_faultOf 47 rfl) (by decide) ?_
  refine ok_goto (tgt := 99) (dq_of td_X7_faultOf 48 rfl) (by decide) ?_
  refine ok_wk (wk_s (wk_s (wk_s (wk_n (wk_s (wk_n (wk_n wk_0))))))) ?_
  exact ob_X7_faultOf_99   hK hH _ _ _ _  _
theorem ob_X7_faultOf_60 {G : KW} {l : Launch}   {K : Int32 → Sg → Option (Int32 × Sg)} {H : Int32 → Int32 → Sg → Option (Int32 × Sg)} (hK : ∀ (x1 : Int32) (σ : Sg), Okk G l cX7_faultOf 7 RX7 (some .int) (rmo 1 22) ccI 147 [some (k_rr G 100), some (.int x1), none, none, none, none, none] [] σ (K x1 σ)) (hH : ∀ (x1 : Int32) (x2 : Int32) (σ : Sg), Okk G l cX7_faultOf 7 RX7 (some .int) (rmo 1 22) ccI 4 [some (k_rr G 100), some (.int x1), some (.int x2), none, none, none, none] [] σ (H x1 x2 σ)) (x1 : Int32) (x2 : Int32) (x4 : Int32)  (σ : Sg) : Okk G l cX7_faultOf 7 RX7 (some .int) (rmo 1 22) ccI 60 [some (k_rr G 100), some (.int x1), some (.int x2), none, some (.int x4), none, none] [] σ (b_X7_faultOf_60  K H x1 x2 x4 σ) := by
  unfold b_X7_faultOf_60
  refine ok_iconst (v := 1) (dq_of td_X7_faultOf 33 rfl) (by decide) ?_
  refine ok_goto (tgt := 99) (dq_of td_X7_faultOf 34 rfl) (by decide) ?_
  refine ok_wk (wk_s (wk_s (wk_s (wk_n (wk_s (wk_n (wk_n wk_0))))))) ?_
  exact ob_X7_faultOf_99   hK hH _ _ _ _  _
theorem od_X7_faultOf_4 {G : KW} {l : Launch}   {K : Int32 → Sg → Option (Int32 × Sg)} {H : Int32 → Int32 → Sg → Option (Int32 × Sg)} (hK : ∀ (x1 : Int32) (σ : Sg), Okk G l cX7_faultOf 7 RX7 (some .int) (rmo 1 22) ccI 147 [some (k_rr G 100), some (.int x1), none, none, none, none, none] [] σ (K x1 σ)) (hH : ∀ (x1 : Int32) (x2 : Int32) (σ : Sg), Okk G l cX7_faultOf 7 RX7 (some .int) (rmo 1 22) ccI 4 [some (k_rr G 100), some (.int x1), some (.int x2), none, none, none, none] [] σ (H x1 x2 σ)) (x1 : Int32) (x2 : Int32)  (σ : Sg) : Okk G l cX7_faultOf 7 RX7 (some .int) (rmo 1 22) ccI 4 [some (k_rr G 100), some (.int x1), some (.int x2), none, none, none, none] [] σ (d_X7_faultOf_4  K H x1 x2 σ) := by
  unfold d_X7_faultOf_4
  refine ok_iload2 (dq_of td_X7_faultOf 4 rfl) ?_
  refine ok_aload0 (dq_of td_X7_faultOf 5 rfl) ?_
  refine ok_get (v := .int (σ 100 16)) fl_X7_113 (by decide) ko_100 rfl (dq_of td_X7_faultOf 6 rfl) ?_
  refine ok_ic_ge (tgt := 147) (dq_of td_X7_faultOf 7 rfl) (by decide) ?_ ?_
  · refine ok_wk (wk_s (wk_s (wk_n (wk_n (wk_n (wk_n (wk_n wk_0))))))) ?_
    exact hK _ _
  · refine ok_aload0 (dq_of td_X7_faultOf 8 rfl) ?_
    refine ok_get (v := k_rr G 113) fl_X7_50 (by decide) ko_100 rfl (dq_of td_X7_faultOf 9 rfl) ?_
    refine ok_iload2 (dq_of td_X7_faultOf 10 rfl) ?_
    refine ok_iald ka_113 (dq_of td_X7_faultOf 11 rfl) ?_
    refine ok_gI (fun v1 => ?_)
    refine ok_istore3 (dq_of td_X7_faultOf 12 rfl) rfl (by decide) ?_
    refine ok_iload3 (dq_of td_X7_faultOf 13 rfl) ?_
    refine ok_bipush (v := 65) (dq_of td_X7_faultOf 14 rfl) (by decide) ?_
    refine ok_bipush (v := 69) (dq_of td_X7_faultOf 15 rfl) (by decide) ?_
    refine call_X7_in ml_X7_81  ⟨Nat.le_of_ble_eq_true rfl, Nat.le_of_ble_eq_true rfl⟩ ⟨Nat.zero_le _, Nat.zero_le _⟩ (Nat.le_of_ble_eq_true rfl) (dq_of td_X7_faultOf 16 rfl) (fun r3 σ2 => ?_)
    refine ok_istore4 (dq_of td_X7_faultOf 17 rfl) rfl (by decide) ?_
    refine ok_iload3 (dq_of td_X7_faultOf 18 rfl) ?_
    refine ok_bipush (v := 97) (dq_of td_X7_faultOf 19 rfl) (by decide) ?_
    refine ok_bipush (v := 101) (dq_of td_X7_faultOf 20 rfl) (by decide) ?_
    refine call_X7_in ml_X7_81  ⟨Nat.le_of_ble_eq_true rfl, Nat.le_of_ble_eq_true rfl⟩ ⟨Nat.zero_le _, Nat.zero_le _⟩ (Nat.le_of_ble_eq_true rfl) (dq_of td_X7_faultOf 21 rfl) (fun r5 σ4 => ?_)
    refine ok_istore5 (dq_of td_X7_faultOf 22 rfl) rfl (by decide) ?_
    refine ok_iload1 (dq_of td_X7_faultOf 23 rfl) ?_
    refine ok_if_ne (tgt := 68) (dq_of td_X7_faultOf 24 rfl) (by decide) ?_ ?_
    · refine ok_iload1 (dq_of td_X7_faultOf 37 rfl) ?_
      refine ok_iconst (v := 1) (dq_of td_X7_faultOf 38 rfl) (by decide) ?_
      refine ok_ic_ne (tgt := 97) (dq_of td_X7_faultOf 39 rfl) (by decide) ?_ ?_
      · refine ok_iload5 (dq_of td_X7_faultOf 51 rfl) ?_
        refine ok_wk (wk_s (wk_s (wk_s (wk_n (wk_s (wk_n (wk_n wk_0))))))) ?_
        exact ob_X7_faultOf_99   hK hH _ _ _ _  _
      · refine ok_iload4 (dq_of td_X7_faultOf 40 rfl) ?_
        refine ok_if_ne (tgt := 89) (dq_of td_X7_faultOf 41 rfl) (by decide) ?_ ?_
        · refine ok_wk (wk_s (wk_s (wk_s (wk_n (wk_s (wk_n (wk_n wk_0))))))) ?_
          exact ob_X7_faultOf_89   hK hH _ _ _  _
        · refine ok_iload5 (dq_of td_X7_faultOf 42 rfl) ?_
          refine ok_if_ne (tgt := 89) (dq_of td_X7_faultOf 43 rfl) (by decide) ?_ ?_
          · refine ok_wk (wk_s (wk_s (wk_s (wk_n (wk_s (wk_n (wk_n wk_0))))))) ?_
            exact ob_X7_faultOf_89   hK hH _ _ _  _
          · refine ok_iload3 (dq_of td_X7_faultOf 44 rfl) ?_
            refine ok_bipush (v := 45) (dq_of td_X7_faultOf 45 rfl) (by decide) ?_
            refine ok_ic_ne (tgt := 93) (dq_of td_X7_faultOf 46 rfl) (by decide) ?_ ?_
            · refine ok_iconst (v := 0) (dq_of td_X7_faultOf 49 rfl) (by decide) ?_
              refine ok_goto (tgt := 99) (dq_of td_X7_faultOf 50 rfl) (by decide) ?_
              refine ok_wk (wk_s (wk_s (wk_s (wk_n (wk_s (wk_n (wk_n wk_0))))))) ?_
              exact ob_X7_faultOf_99   hK hH _ _ _ _  _
            · refine ok_wk (wk_s (wk_s (wk_s (wk_n (wk_s (wk_n (wk_n wk_0))))))) ?_
              exact ob_X7_faultOf_89   hK hH _ _ _  _
    · refine ok_iload4 (dq_of td_X7_faultOf 25 rfl) ?_
      refine ok_if_ne (tgt := 60) (dq_of td_X7_faultOf 26 rfl) (by decide) ?_ ?_
      · refine ok_wk (wk_s (wk_s (wk_s (wk_n (wk_s (wk_n (wk_n wk_0))))))) ?_
        exact ob_X7_faultOf_60   hK hH _ _ _  _
      · refine ok_iload3 (dq_of td_X7_faultOf 27 rfl) ?_
        refine ok_bipush (v := 46) (dq_of td_X7_faultOf 28 rfl) (by decide) ?_
        refine ok_ic_eq (tgt := 60) (dq_of td_X7_faultOf 29 rfl) (by decide) ?_ ?_
        · refine ok_wk (wk_s (wk_s (wk_s (wk_n (wk_s (wk_n (wk_n wk_0))))))) ?_
          exact ob_X7_faultOf_60   hK hH _ _ _  _
        · refine ok_iload3 (dq_of td_X7_faultOf 30 rfl) ?_
          refine ok_bipush (v := 42) (dq_of td_X7_faultOf 31 rfl) (by decide) ?_
          refine ok_ic_ne (tgt := 64) (dq_of td_X7_faultOf 32 rfl) (by decide) ?_ ?_
          · refine ok_iconst (v := 0) (dq_of td_X7_faultOf 35 rfl) (by decide) ?_
            refine ok_goto (tgt := 99) (dq_of td_X7_faultOf 36 rfl) (by decide) ?_
            refine ok_wk (wk_s (wk_s (wk_s (wk_n (wk_s (wk_n (wk_n wk_0))))))) ?_
            exact ob_X7_faultOf_99   hK hH _ _ _ _  _
          · refine ok_wk (wk_s (wk_s (wk_s (wk_n (wk_s (wk_n (wk_n wk_0))))))) ?_
            exact ob_X7_faultOf_60   hK hH _ _ _  _
theorem ld_X7_faultOf_4 {G : KW} {l : Launch}   {K : Int32 → Sg → Option (Int32 × Sg)} (hK : ∀ (x1 : Int32) (σ : Sg), Okk G l cX7_faultOf 7 RX7 (some .int) (rmo 1 22) ccI 147 [some (k_rr G 100), some (.int x1), none, none, none, none, none] [] σ (K x1 σ)) (n : Nat) (x1 : Int32) (x2 : Int32) (σ : Sg) : Okk G l cX7_faultOf 7 RX7 (some .int) (rmo 1 22) ccI 4 [some (k_rr G 100), some (.int x1), some (.int x2), none, none, none, none] [] σ (e_lp2 (d_X7_faultOf_4  K) n x1 x2 σ) :=
  ok_lp2 (Lf := fun (x1 : Int32) (x2 : Int32) => [some (k_rr G 100), some (.int x1), some (.int x2), none, none, none, none]) (fun _ hH x1 x2 σ => od_X7_faultOf_4   hK hH x1 x2 σ) n x1 x2 σ
def m_X7_faultOf  (σ : Sg) : Option (Int32 × Sg) := e_lp2 (d_X7_faultOf_4  (fun x1q6 σ6 => (if x1q6 = 0 then some ((-6), σ6) else some (σ6 100 16, σ6)))) e_F 0 0 σ
theorem om_X7_faultOf {G : KW} {l : Launch}   (σ : Sg) : Okk G l cX7_faultOf 7 RX7 (some .int) (rmo 1 22) ccI 0 [some (k_rr G 100), none, none, none, none, none, none] [] σ (m_X7_faultOf  σ) := by
  unfold m_X7_faultOf
  refine ok_iconst (v := 0) (dq_of td_X7_faultOf 0 rfl) (by decide) ?_
  refine ok_istore1 (dq_of td_X7_faultOf 1 rfl) rfl (by decide) ?_
  refine ok_iconst (v := 0) (dq_of td_X7_faultOf 2 rfl) (by decide) ?_
  refine ok_istore2 (dq_of td_X7_faultOf 3 rfl) rfl (by decide) ?_
  refine ok_wk (wk_s (wk_s (wk_s (wk_n (wk_n (wk_n (wk_n wk_0))))))) ?_
  refine ld_X7_faultOf_4   (fun x1q6 σ6 => ?_) _ _ _ _
  refine ok_iload1 (dq_of td_X7_faultOf 76 rfl) ?_
  refine ok_if_ne (tgt := 156) (dq_of td_X7_faultOf 77 rfl) (by decide) ?_ ?_
  · refine ok_aload0 (dq_of td_X7_faultOf 80 rfl) ?_
    refine ok_get (v := .int (σ6 100 16)) fl_X7_113 (by decide) ko_100 rfl (dq_of td_X7_faultOf 81 rfl) ?_
    exact ok_iret (dq_of td_X7_faultOf 82 rfl)
  · refine ok_bipush (v := (-6)) (dq_of td_X7_faultOf 78 rfl) (by decide) ?_
    refine ok_goto (tgt := 160) (dq_of td_X7_faultOf 79 rfl) (by decide) ?_
    exact ok_iret (dq_of td_X7_faultOf 82 rfl)
theorem ct_X7_faultOf {G : KW} {l : Launch}   (σ : Sg) : ∀ b, m_X7_faultOf  σ = some b → MetF G l yX7_faultOf cX7_faultOf 7 (some .int) 1 22 [k_rr G 100] (k_wl G σ) (ccI b).1 (k_wl G (ccI b).2) :=
  met_of (by decide) (Nat.le_of_ble_eq_true rfl) rfl (om_X7_faultOf   σ)
theorem call_X7_faultOf {G : KW} {l : Launch} {cc : ByteArray} {nL : Nat} {own : String} {rt : Option FieldType} {R : Room} {α : Type} {X : State → Array Value → Method → Prop} {Z : α → List Frame → Array Value → State → State → Prop} {k0 n0 pc index : Nat} {L : List (Option Value)} {S : List Value} {σ : Sg} {F : Int32 → Sg → Option α}  (lk : MLk own index yX7_faultOf)  (hR : R.frames ≥ 1 + 1 ∧ R.locals ≥ 8 + (7 + 11) + 22) (hcs : k0 ≤ R.cells ∧ n0 ≤ R.slots) (hro : (S.map fun v => v.category).sum ≤ 8) (d : decode cc pc = .ok (.invokevirtual index, 3)) (kk : ∀ (r : Int32) (σ' : Sg), Okg G l cc nL own rt R X Z k0 n0 (pc + 3) L (.int r :: S) σ' (F r σ')) : Okg G l cc nL own rt R X Z k0 n0 pc L (k_rr G 100 :: S) σ (e_cI (m_X7_faultOf  σ) F) :=
  ok_cV (cb := ccI) (As := []) (ct_X7_faultOf   σ) mo_X7_faultOf hi_X7_faultOf lk rfl (ci := 7) rfl rfl (by decide) ko_100 hR rfl hcs hro d (fun b => kk b.1 b.2)
