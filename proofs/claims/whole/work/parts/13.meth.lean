/-! CoatDinnerModel.fault()I -/
def m_X7_fault  (σ : Sg) : Option (Int32 × Sg) := e_cI (m_X7_faultOf σ) (fun r2 σ1 => some (r2, σ1))
theorem om_X7_fault {G : KW} {l : Launch}   (σ : Sg) : Okk G l cX7_fault 1 RX7 (some .int) (rmo 2 48) ccI 0 [some (k_rr G 100)] [] σ (m_X7_fault  σ) := by
  unfold m_X7_fault
  refine ok_aload0 (dq_of td_X7_fault 0 rfl) ?_
  refine call_X7_faultOf ml_X7_116  ⟨Nat.le_of_ble_eq_true rfl, Nat.le_of_ble_eq_true rfl⟩ ⟨Nat.zero_le _, Nat.zero_le _⟩ (Nat.le_of_ble_eq_true rfl) (dq_of td_X7_fault 1 rfl) (fun r2 σ1 => ?_)
  exact ok_iret (dq_of td_X7_fault 2 rfl)
theorem ct_X7_fault {G : KW} {l : Launch}   (σ : Sg) : ∀ b, m_X7_fault  σ = some b → MetF G l yX7_fault cX7_fault 1 (some .int) 2 48 [k_rr G 100] (k_wl G σ) (ccI b).1 (k_wl G (ccI b).2) :=
  met_of (by decide) (Nat.le_of_ble_eq_true rfl) rfl (om_X7_fault   σ)
theorem call_X7_fault {G : KW} {l : Launch} {cc : ByteArray} {nL : Nat} {own : String} {rt : Option FieldType} {R : Room} {α : Type} {X : State → Array Value → Method → Prop} {Z : α → List Frame → Array Value → State → State → Prop} {k0 n0 pc index : Nat} {L : List (Option Value)} {S : List Value} {σ : Sg} {F : Int32 → Sg → Option α}  (lk : MLk own index yX7_fault)  (hR : R.frames ≥ 2 + 1 ∧ R.locals ≥ 8 + (1 + 11) + 48) (hcs : k0 ≤ R.cells ∧ n0 ≤ R.slots) (hro : (S.map fun v => v.category).sum ≤ 8) (d : decode cc pc = .ok (.invokevirtual index, 3)) (kk : ∀ (r : Int32) (σ' : Sg), Okg G l cc nL own rt R X Z k0 n0 (pc + 3) L (.int r :: S) σ' (F r σ')) : Okg G l cc nL own rt R X Z k0 n0 pc L (k_rr G 100 :: S) σ (e_cI (m_X7_fault  σ) F) :=
  ok_cV (cb := ccI) (As := []) (ct_X7_fault   σ) mo_X7_fault hi_X7_fault lk rfl (ci := 7) rfl rfl (by decide) ko_100 hR rfl hcs hro d (fun b => kk b.1 b.2)
/-! CoatDinnerModel.asNow()V -/
def d_X7_asNow_2  (K : Sg → Option (Sg)) (H : Int32 → Sg → Option (Sg)) (x1 : Int32) (σ : Sg) : Option (Sg) := (if 5 ≤ x1 then K σ else e_gd (k_in x1 5) (e_wr σ 114 x1 5 (σ 106 (Int32.toNatClampNeg x1)) (fun σ1 => e_gd (k_in x1 5) (e_wr σ1 115 x1 5 (σ1 107 (Int32.toNatClampNeg x1)) (fun σ2 => e_gd (k_in x1 5) (e_wr σ2 116 x1 5 (σ2 108 (Int32.toNatClampNeg x1)) (fun σ3 => e_gd (k_in x1 5) (e_wr σ3 117 x1 5 (σ3 109 (Int32.toNatClampNeg x1)) (fun σ4 => e_gd (k_in x1 5) (e_wr σ4 118 x1 5 (σ4 101 (Int32.toNatClampNeg x1)) (fun σ5 => H (x1 + 1) σ5)))))))))))
theorem od_X7_asNow_2 {G : KW} {l : Launch}   {K : Sg → Option (Sg)} {H : Int32 → Sg → Option (Sg)} (hK : ∀  (σ : Sg), Okk G l cX7_asNow 2 RX7 none (rmo 0 0) ccV 73 [some (k_rr G 100), none] [] σ (K  σ)) (hH : ∀ (x1 : Int32) (σ : Sg), Okk G l cX7_asNow 2 RX7 none (rmo 0 0) ccV 2 [some (k_rr G 100), some (.int x1)] [] σ (H x1 σ)) (x1 : Int32)  (σ : Sg) : Okk G l cX7_asNow 2 RX7 none (rmo 0 0) ccV 2 [some (k_rr G 100), some (.int x1)] [] σ (d_X7_asNow_2  K H x1 σ) := by
  unfold d_X7_asNow_2
  refine ok_iload1 (dq_of td_X7_asNow 2 rfl) ?_
  refine ok_iconst (v := 5) (dq_of td_X7_asNow 3 rfl) (by decide) ?_
  refine ok_ic_ge (tgt := 73) (dq_of td_X7_asNow 4 rfl) (by decide) ?_ ?_
  · refine ok_wk (wk_s (wk_n wk_0)) ?_
    exact hK _
  · refine ok_aload0 (dq_of td_X7_asNow 5 rfl) ?_
    refine ok_get (v := k_rr G 114) fl_X7_53 (by decide) ko_100 rfl (dq_of td_X7_asNow 6 rfl) ?_
    refine ok_iload1 (dq_of td_X7_asNow 7 rfl) ?_
    refine ok_aload0 (dq_of td_X7_asNow 8 rfl) ?_
    refine ok_get (v := k_rr G 106) fl_X7_29 (by decide) ko_100 rfl (dq_of td_X7_asNow 9 rfl) ?_
    refine ok_iload1 (dq_of td_X7_asNow 10 rfl) ?_
    refine ok_iald ka_106 (dq_of td_X7_asNow 11 rfl) ?_
    refine ok_iast ka_114 (dq_of td_X7_asNow 12 rfl) (fun σ1 => ?_)
    refine ok_aload0 (dq_of td_X7_asNow 13 rfl) ?_
    refine ok_get (v := k_rr G 115) fl_X7_56 (by decide) ko_100 rfl (dq_of td_X7_asNow 14 rfl) ?_
    refine ok_iload1 (dq_of td_X7_asNow 15 rfl) ?_
    refine ok_aload0 (dq_of td_X7_asNow 16 rfl) ?_
    refine ok_get (v := k_rr G 107) fl_X7_32 (by decide) ko_100 rfl (dq_of td_X7_asNow 17 rfl) ?_
    refine ok_iload1 (dq_of td_X7_asNow 18 rfl) ?_
    refine ok_iald ka_107 (dq_of td_X7_asNow 19 rfl) ?_
    refine ok_iast ka_115 (dq_of td_X7_asNow 20 rfl) (fun σ2 => ?_)
    refine ok_aload0 (dq_of td_X7_asNow 21 rfl) ?_
    refine ok_get (v := k_rr G 116) fl_X7_59 (by decide) ko_100 rfl (dq_of td_X7_asNow 22 rfl) ?_
    refine ok_iload1 (dq_of td_X7_asNow 23 rfl) ?_
    refine ok_aload0 (dq_of td_X7_asNow 24 rfl) ?_
    refine ok_get (v := k_rr G 108) fl_X7_35 (by decide) ko_100 rfl (dq_of td_X7_asNow 25 rfl) ?_
    refine ok_iload1 (dq_of td_X7_asNow 26 rfl) ?_
    refine ok_iald ka_108 (dq_of td_X7_asNow 27 rfl) ?_
    refine ok_iast ka_116 (dq_of td_X7_asNow 28 rfl) (fun σ3 => ?_)
    refine ok_aload0 (dq_of td_X7_asNow 29 rfl) ?_
    refine ok_get (v := k_rr G 117) fl_X7_62 (by decide) ko_100 rfl (dq_of td_X7_asNow 30 rfl) ?_
    refine ok_iload1 (dq_of td_X7_asNow 31 rfl) ?_
    refine ok_aload0 (dq_of td_X7_asNow 32 rfl) ?_
    refine ok_get (v := k_rr G 109) fl_X7_38 (by decide) ko_100 rfl (dq_of td_X7_asNow 33 rfl) ?_
    refine ok_iload1 (dq_of td_X7_asNow 34 rfl) ?_
    refine ok_iald ka_109 (dq_of td_X7_asNow 35 rfl) ?_
    refine ok_iast ka_117 (dq_of td_X7_asNow 36 rfl) (fun σ4 => ?_)
    refine ok_aload0 (dq_of td_X7_asNow 37 rfl) ?_
    refine ok_get (v := k_rr G 118) fl_X7_65 (by decide) ko_100 rfl (dq_of td_X7_asNow 38 rfl) ?_
    refine ok_iload1 (dq_of td_X7_asNow 39 rfl) ?_
    refine ok_aload0 (dq_of td_X7_asNow 40 rfl) ?_
    refine ok_get (v := k_rr G 101) fl_X7_7 (by decide) ko_100 rfl (dq_of td_X7_asNow 41 rfl) ?_
    refine ok_iload1 (dq_of td_X7_asNow 42 rfl) ?_
    refine ok_iald ka_101 (dq_of td_X7_asNow 43 rfl) ?_
    refine ok_iast ka_118 (dq_of td_X7_asNow 44 rfl) (fun σ5 => ?_)
    refine ok_jinc1 (w := 1) (dq_of td_X7_asNow 45 rfl) (by decide) rfl (by decide) ?_
    refine ok_goto (tgt := 2) (dq_of td_X7_asNow 46 rfl) (by decide) ?_
    refine ok_wk (wk_s (wk_s wk_0)) ?_
    exact hH _ _
theorem ld_X7_asNow_2 {G : KW} {l : Launch}   {K : Sg → Option (Sg)} (hK : ∀  (σ : Sg), Okk G l cX7_asNow 2 RX7 none (rmo 0 0) ccV 73 [some (k_rr G 100), none] [] σ (K  σ)) (n : Nat) (x1 : Int32) (σ : Sg) : Okk G l cX7_asNow 2 RX7 none (rmo 0 0) ccV 2 [some (k_rr G 100), some (.int x1)] [] σ (e_lp1 (d_X7_asNow_2  K) n x1 σ) :=
  ok_lp1 (Lf := fun (x1 : Int32) => [some (k_rr G 100), some (.int x1)]) (fun _ hH x1 σ => od_X7_asNow_2   hK hH x1 σ) n x1 σ
def m_X7_asNow  (σ : Sg) : Option (Sg) := e_lp1 (d_X7_asNow_2  (fun σ6 => e_lt (k_up σ6 100 23 (σ6 100 7)) (fun σ7 => some σ7))) e_F 0 σ
theorem om_X7_asNow {G : KW} {l : Launch}   (σ : Sg) : Okk G l cX7_asNow 2 RX7 none (rmo 0 0) ccV 0 [some (k_rr G 100), none] [] σ (m_X7_asNow  σ) := by
  unfold m_X7_asNow
  refine ok_iconst (v := 0) (dq_of td_X7_asNow 0 rfl) (by decide) ?_
  refine ok_istore1 (dq_of td_X7_asNow 1 rfl) rfl (by decide) ?_
  refine ok_wk (wk_s (wk_s wk_0)) ?_
  refine ld_X7_asNow_2   (fun σ6 => ?_) _ _ _
  refine ok_aload0 (dq_of td_X7_asNow 47 rfl) ?_
  refine ok_aload0 (dq_of td_X7_asNow 48 rfl) ?_
  refine ok_get (v := .int (σ6 100 7)) fl_X7_25 (by decide) ko_100 rfl (dq_of td_X7_asNow 49 rfl) ?_
  refine put_7_23 fl_X7_120 ko_100 (dq_of td_X7_asNow 50 rfl) (fun σ7 => ?_)
  exact ok_vret (dq_of td_X7_asNow 51 rfl)
theorem ct_X7_asNow {G : KW} {l : Launch}   (σ : Sg) : ∀ b, m_X7_asNow  σ = some b → MetF G l yX7_asNow cX7_asNow 2 none 0 0 [k_rr G 100] (k_wl G σ) (ccV b).1 (k_wl G (ccV b).2) :=
  met_of (by decide) (Nat.le_of_ble_eq_true rfl) rfl (om_X7_asNow   σ)
theorem call_X7_asNow {G : KW} {l : Launch} {cc : ByteArray} {nL : Nat} {own : String} {rt : Option FieldType} {R : Room} {α : Type} {X : State → Array Value → Method → Prop} {Z : α → List Frame → Array Value → State → State → Prop} {k0 n0 pc index : Nat} {L : List (Option Value)} {S : List Value} {σ : Sg} {F : Sg → Option α}  (lk : MLk own index yX7_asNow)  (hR : R.frames ≥ 0 + 1 ∧ R.locals ≥ 8 + (2 + 11) + 0) (hcs : k0 ≤ R.cells ∧ n0 ≤ R.slots) (hro : (S.map fun v => v.category).sum ≤ 8) (d : decode cc pc = .ok (.invokevirtual index, 3)) (kk : ∀ σ' : Sg, Okg G l cc nL own rt R X Z k0 n0 (pc + 3) L S σ' (F σ')) : Okg G l cc nL own rt R X Z k0 n0 pc L (k_rr G 100 :: S) σ (e_cV (m_X7_asNow  σ) F) :=
  ok_cV (cb := ccV) (As := []) (ct_X7_asNow   σ) mo_X7_asNow hi_X7_asNow lk rfl (ci := 7) rfl rfl (by decide) ko_100 hR rfl hcs hro d (fun b => kk b)
/-! CoatDinnerModel.worth(I)I -/
def b_X7_worth_40 (x1 : Int32) (x2 : Int32) (s0 : Int32) (σ : Sg) : Option (Int32 × Sg) := e_gd (k_in x2 5) ((if (σ 105 (Int32.toNatClampNeg x2)) = 1 then some (s0 / 2, σ) else some (s0, σ)))
theorem ob_X7_worth_40 {G : KW} {l : Launch} (x1 : Int32)  (x2 : Int32) (s0 : Int32)  (σ : Sg) : Okk G l cX7_worth 4 RX7 (some .int) (rmo 0 0) ccI 40 [some (k_rr G 100), none, some (.int x2), none] [.int s0] σ (b_X7_worth_40 x1 x2 s0 σ) := by
  unfold b_X7_worth_40
  refine ok_istore3 (dq_of td_X7_worth 24 rfl) rfl (by decide) ?_
  refine ok_aload0 (dq_of td_X7_worth 25 rfl) ?_
  refine ok_get (v := k_rr G 105) fl_X7_22 (by decide) ko_100 rfl (dq_of td_X7_worth 26 rfl) ?_
  refine ok_iload2 (dq_of td_X7_worth 27 rfl) ?_
  refine ok_iald ka_105 (dq_of td_X7_worth 28 rfl) ?_
  refine ok_iconst (v := 1) (dq_of td_X7_worth 29 rfl) (by decide) ?_
  refine ok_ic_ne (tgt := 57) (dq_of td_X7_worth 30 rfl) (by decide) ?_ ?_
  · refine ok_iload3 (dq_of td_X7_worth 35 rfl) ?_
    exact ok_iret (dq_of td_X7_worth 36 rfl)
  · refine ok_iload3 (dq_of td_X7_worth 31 rfl) ?_
    refine ok_iconst (v := 2) (dq_of td_X7_worth 32 rfl) (by decide) ?_
    refine ok_idiv (dq_of td_X7_worth 33 rfl) (by decide) ?_
    refine ok_goto (tgt := 58) (dq_of td_X7_worth 34 rfl) (by decide) ?_
    exact ok_iret (dq_of td_X7_worth 36 rfl)
def m_X7_worth (x1 : Int32) (σ : Sg) : Option (Int32 × Sg) := e_gd (k_in x1 5) (e_lt (σ 114 (Int32.toNatClampNeg x1)) (fun v1 => (if v1 = 5 then some (0, σ) else e_gd (k_in v1 5) ((if (σ 100 23) ≤ (σ 118 (Int32.toNatClampNeg v1)) then b_X7_worth_40 x1 v1 (σ 100 23) σ else e_gd (k_in v1 5) (b_X7_worth_40 x1 v1 (σ 118 (Int32.toNatClampNeg v1)) σ))))))
theorem om_X7_worth {G : KW} {l : Launch} (x1 : Int32)  (σ : Sg) : Okk G l cX7_worth 4 RX7 (some .int) (rmo 0 0) ccI 0 [some (k_rr G 100), some (.int x1), none, none] [] σ (m_X7_worth x1 σ) := by
  unfold m_X7_worth
  refine ok_aload0 (dq_of td_X7_worth 0 rfl) ?_
  refine ok_get (v := k_rr G 114) fl_X7_53 (by decide) ko_100 rfl (dq_of td_X7_worth 1 rfl) ?_
  refine ok_iload1 (dq_of td_X7_worth 2 rfl) ?_
  refine ok_iald ka_114 (dq_of td_X7_worth 3 rfl) ?_
  refine ok_gI (fun v1 => ?_)
  refine ok_istore2 (dq_of td_X7_worth 4 rfl) rfl (by decide) ?_
  refine ok_iload2 (dq_of td_X7_worth 5 rfl) ?_
  refine ok_iconst (v := 5) (dq_of td_X7_worth 6 rfl) (by decide) ?_
  refine ok_ic_ne (tgt := 14) (dq_of td_X7_worth 7 rfl) (by decide) ?_ ?_
  · refine ok_aload0 (dq_of td_X7_worth 10 rfl) ?_
    refine ok_get (v := k_rr G 118) fl_X7_65 (by decide) ko_100 rfl (dq_of td_X7_worth 11 rfl) ?_
    refine ok_iload2 (dq_of td_X7_worth 12 rfl) ?_
    refine ok_iald ka_118 (dq_of td_X7_worth 13 rfl) ?_
    refine ok_aload0 (dq_of td_X7_worth 14 rfl) ?_
    refine ok_get (v := .int (σ 100 23)) fl_X7_120 (by decide) ko_100 rfl (dq_of td_X7_worth 15 rfl) ?_
    refine ok_ic_ge (tgt := 36) (dq_of td_X7_worth 16 rfl) (by decide) ?_ ?_
    · refine ok_aload0 (dq_of td_X7_worth 22 rfl) ?_
      refine ok_get (v := .int (σ 100 23)) fl_X7_120 (by decide) ko_100 rfl (dq_of td_X7_worth 23 rfl) ?_
      refine ok_wk (wk_s (wk_n (wk_s (wk_n wk_0)))) ?_
      exact ob_X7_worth_40 _  _ _  _
    · refine ok_aload0 (dq_of td_X7_worth 17 rfl) ?_
      refine ok_get (v := k_rr G 118) fl_X7_65 (by decide) ko_100 rfl (dq_of td_X7_worth 18 rfl) ?_
      refine ok_iload2 (dq_of td_X7_worth 19 rfl) ?_
      refine ok_iald ka_118 (dq_of td_X7_worth 20 rfl) ?_
      refine ok_goto (tgt := 40) (dq_of td_X7_worth 21 rfl) (by decide) ?_
      refine ok_wk (wk_s (wk_n (wk_s (wk_n wk_0)))) ?_
      exact ob_X7_worth_40 _  _ _  _
  · refine ok_iconst (v := 0) (dq_of td_X7_worth 8 rfl) (by decide) ?_
    exact ok_iret (dq_of td_X7_worth 9 rfl)
theorem ct_X7_worth {G : KW} {l : Launch} (x1 : Int32)  (σ : Sg) : ∀ b, m_X7_worth x1 σ = some b → MetF G l yX7_worth cX7_worth 4 (some .int) 0 0 [k_rr G 100, .int x1] (k_wl G σ) (ccI b).1 (k_wl G (ccI b).2) :=
  met_of (by decide) (Nat.le_of_ble_eq_true rfl) rfl (om_X7_worth _  σ)
theorem call_X7_worth {G : KW} {l : Launch} {cc : ByteArray} {nL : Nat} {own : String} {rt : Option FieldType} {R : Room} {α : Type} {X : State → Array Value → Method → Prop} {Z : α → List Frame → Array Value → State → State → Prop} {k0 n0 pc index : Nat} {L : List (Option Value)} {S : List Value} {σ : Sg} {F : Int32 → Sg → Option α} {x1 : Int32} (lk : MLk own index yX7_worth)  (hR : R.frames ≥ 0 + 1 ∧ R.locals ≥ 8 + (4 + 11) + 0) (hcs : k0 ≤ R.cells ∧ n0 ≤ R.slots) (hro : (S.map fun v => v.category).sum ≤ 8) (d : decode cc pc = .ok (.invokevirtual index, 3)) (kk : ∀ (r : Int32) (σ' : Sg), Okg G l cc nL own rt R X Z k0 n0 (pc + 3) L (.int r :: S) σ' (F r σ')) : Okg G l cc nL own rt R X Z k0 n0 pc L (.int x1 :: k_rr G 100 :: S) σ (e_cI (m_X7_worth x1 σ) F) :=
  ok_cV (cb := ccI) (As := [.int x1]) (ct_X7_worth _  σ) mo_X7_worth hi_X7_worth lk rfl (ci := 7) rfl rfl (by decide) ko_100 hR rfl hcs hro d (fun b => kk b.1 b.2)
/-! CoatDinnerModel.seatOf(I)I -/
def b_X7_seatOf_74 (x1 : Int32) (K : Int32 → Sg → Option (Int32 × Sg)) (H : Int32 → Int32 → Sg → Option (Int32 × Sg)) (x3 : Int32) (s0 : Int32) (s1 : Int32) (σ : Sg) : Option (Int32 × Sg) := e_lt (s1 + s0) (fun v3 => H v3 (x3 + 1) σ)
def b_X7_seatOf_61 (x1 : Int32) (K : Int32 → Sg → Option (Int32 × Sg)) (H : Int32 → Int32 → Sg → Option (Int32 × Sg)) (x2 : Int32) (x3 : Int32) (s0 : Int32) (σ : Sg) : Option (Int32 × Sg) := (if s0 = 0 then b_X7_seatOf_74 x1 K H x3 0 x2 σ else b_X7_seatOf_74 x1 K H x3 1 x2 σ)
def b_X7_seatOf_60 (x1 : Int32) (K : Int32 → Sg → Option (Int32 × Sg)) (H : Int32 → Int32 → Sg → Option (Int32 × Sg)) (x2 : Int32) (x3 : Int32) (σ : Sg) : Option (Int32 × Sg) := b_X7_seatOf_61 x1 K H x2 x3 0 σ
def b_X7_seatOf_56 (x1 : Int32) (K : Int32 → Sg → Option (Int32 × Sg)) (H : Int32 → Int32 → Sg → Option (Int32 × Sg)) (x2 : Int32) (x3 : Int32) (σ : Sg) : Option (Int32 × Sg) := b_X7_seatOf_61 x1 K H x2 x3 1 σ
def d_X7_seatOf_4 (x1 : Int32) (K : Int32 → Sg → Option (Int32 × Sg)) (H : Int32 → Int32 → Sg → Option (Int32 × Sg)) (x2 : Int32) (x3 : Int32) (σ : Sg) : Option (Int32 × Sg) := (if 5 ≤ x3 then K x2 σ else e_cI (m_X7_has (σ 100 0) x3 σ) (fun r2 σ1 => (if r2 = 0 then b_X7_seatOf_60 x1 K H x2 x3 σ1 else (if x3 = x1 then b_X7_seatOf_60 x1 K H x2 x3 σ1 else e_cI (m_X7_worth x3 σ1) (fun r5 σ4 => e_cI (m_X7_worth x1 σ4) (fun r7 σ6 => (if r7 < r5 then b_X7_seatOf_56 x1 K H x2 x3 σ6 else e_cI (m_X7_worth x3 σ6) (fun r9 σ8 => e_cI (m_X7_worth x1 σ8) (fun r11 σ10 => (if r9 = r11 then (if x1 ≤ x3 then b_X7_seatOf_60 x1 K H x2 x3 σ10 else b_X7_seatOf_56 x1 K H x2 x3 σ10) else b_X7_seatOf_60 x1 K H x2 x3 σ10))))))))))
theorem ob_X7_seatOf_74 {G : KW} {l : Launch} (x1 : Int32)  {K : Int32 → Sg → Option (Int32 × Sg)} {H : Int32 → Int32 → Sg → Option (Int32 × Sg)} (hK : ∀ (x2 : Int32) (σ : Sg), Okk G l cX7_seatOf 5 RX7 (some .int) (rmo 1 23) ccI 82 [none, none, some (.int x2), none, none] [] σ (K x2 σ)) (hH : ∀ (x2 : Int32) (x3 : Int32) (σ : Sg), Okk G l cX7_seatOf 5 RX7 (some .int) (rmo 1 23) ccI 4 [some (k_rr G 100), some (.int x1), some (.int x2), some (.int x3), none] [] σ (H x2 x3 σ)) (x3 : Int32) (s0 : Int32) (s1 : Int32)  (σ : Sg) : Okk G l cX7_seatOf 5 RX7 (some .int) (rmo 1 23) ccI 74 [some (k_rr G 100), some (.int x1), none, some (.int x3), none] [.int s0, .int s1] σ (b_X7_seatOf_74 x1 K H x3 s0 s1 σ) := by
  unfold b_X7_seatOf_74
  refine ok_iadd (dq_of td_X7_seatOf 42 rfl) ?_
  refine ok_gI (fun v3 => ?_)
  refine ok_istore2 (dq_of td_X7_seatOf 43 rfl) rfl (by decide) ?_
  refine ok_jinc3 (w := 1) (dq_of td_X7_seatOf 44 rfl) (by decide) rfl (by decide) ?_
  refine ok_goto (tgt := 4) (dq_of td_X7_seatOf 45 rfl) (by decide) ?_
  refine ok_wk (wk_s (wk_s (wk_s (wk_s (wk_n wk_0))))) ?_
  exact hH _ _ _
theorem ob_X7_seatOf_61 {G : KW} {l : Launch} (x1 : Int32)  {K : Int32 → Sg → Option (Int32 × Sg)} {H : Int32 → Int32 → Sg → Option (Int32 × Sg)} (hK : ∀ (x2 : Int32) (σ : Sg), Okk G l cX7_seatOf 5 RX7 (some .int) (rmo 1 23) ccI 82 [none, none, some (.int x2), none, none] [] σ (K x2 σ)) (hH : ∀ (x2 : Int32) (x3 : Int32) (σ : Sg), Okk G l cX7_seatOf 5 RX7 (some .int) (rmo 1 23) ccI 4 [some (k_rr G 100), some (.int x1), some (.int x2), some (.int x3), none] [] σ (H x2 x3 σ)) (x2 : Int32) (x3 : Int32) (s0 : Int32)  (σ : Sg) : Okk G l cX7_seatOf 5 RX7 (some .int) (rmo 1 23) ccI 61 [some (k_rr G 100), some (.int x1), some (.int x2), some (.int x3), none] [.int s0] σ (b_X7_seatOf_61 x1 K H x2 x3 s0 σ) := by
  unfold b_X7_seatOf_61
  refine ok_istore4 (dq_of td_X7_seatOf 35 rfl) rfl (by decide) ?_
  refine ok_iload2 (dq_of td_X7_seatOf 36 rfl) ?_
  refine ok_iload4 (dq_of td_X7_seatOf 37 rfl) ?_
  refine ok_if_eq (tgt := 73) (dq_of td_X7_seatOf 38 rfl) (by decide) ?_ ?_
  · refine ok_iconst (v := 0) (dq_of td_X7_seatOf 41 rfl) (by decide) ?_
    refine ok_wk (wk_s (wk_s (wk_n (wk_s (wk_n wk_0))))) ?_
    exact ob_X7_seatOf_74 _  hK hH _ _ _  _
  · refine ok_iconst (v := 1) (dq_of td_X7_seatOf 39 rfl) (by decide) ?_
    refine ok_goto (tgt := 74) (dq_of td_X7_seatOf 40 rfl) (by decide) ?_
    refine ok_wk (wk_s (wk_s (wk_n (wk_s (wk_n wk_0))))) ?_
    exact ob_X7_seatOf_74 _  hK hH _ _ _  _
theorem ob_X7_seatOf_60 {G : KW} {l : Launch} (x1 : Int32)  {K : Int32 → Sg → Option (Int32 × Sg)} {H : Int32 → Int32 → Sg → Option (Int32 × Sg)} (hK : ∀ (x2 : Int32) (σ : Sg), Okk G l cX7_seatOf 5 RX7 (some .int) (rmo 1 23) ccI 82 [none, none, some (.int x2), none, none] [] σ (K x2 σ)) (hH : ∀ (x2 : Int32) (x3 : Int32) (σ : Sg), Okk G l cX7_seatOf 5 RX7 (some .int) (rmo 1 23) ccI 4 [some (k_rr G 100), some (.int x1), some (.int x2), some (.int x3), none] [] σ (H x2 x3 σ)) (x2 : Int32) (x3 : Int32)  (σ : Sg) : Okk G l cX7_seatOf 5 RX7 (some .int) (rmo 1 23) ccI 60 [some (k_rr G 100), some (.int x1), some (.int x2), some (.int x3), none] [] σ (b_X7_seatOf_60 x1 K H x2 x3 σ) := by
  unfold b_X7_seatOf_60
  refine ok_iconst (v := 0) (dq_of td_X7_seatOf 34 rfl) (by decide) ?_
  refine ok_wk (wk_s (wk_s (wk_s (wk_s (wk_n wk_0))))) ?_
  exact ob_X7_seatOf_61 _  hK hH _ _ _  _
theorem ob_X7_seatOf_56 {G : KW} {l : Launch} (x1 : Int32)  {K : Int32 → Sg → Option (Int32 × Sg)} {H : Int32 → Int32 → Sg → Option (Int32 × Sg)} (hK : ∀ (x2 : Int32) (σ : Sg), Okk G l cX7_seatOf 5 RX7 (some .int) (rmo 1 23) ccI 82 [none, none, some (.int x2), none, none] [] σ (K x2 σ)) (hH : ∀ (x2 : Int32) (x3 : Int32) (σ : Sg), Okk G l cX7_seatOf 5 RX7 (some .int) (rmo 1 23) ccI 4 [some (k_rr G 100), some (.int x1), some (.int x2), some (.int x3), none] [] σ (H x2 x3 σ)) (x2 : Int32) (x3 : Int32)  (σ : Sg) : Okk G l cX7_seatOf 5 RX7 (some .int) (rmo 1 23) ccI 56 [some (k_rr G 100), some (.int x1), some (.int x2), some (.int x3), none] [] σ (b_X7_seatOf_56 x1 K H x2 x3 σ) := by
  unfold b_X7_seatOf_56
  refine ok_iconst (v := 1) (dq_of td_X7_seatOf 32 rfl) (by decide) ?_
  refine ok_goto (tgt := 61) (dq_of td_X7_seatOf 33 rfl) (by decide) ?_
  refine ok_wk (wk_s (wk_s (wk_s (wk_s (wk_n wk_0))))) ?_
  exact ob_X7_seatOf_61 _  hK hH _ _ _  _
theorem od_X7_seatOf_4 {G : KW} {l : Launch} (x1 : Int32)  {K : Int32 → Sg → Option (Int32 × Sg)} {H : Int32 → Int32 → Sg → Option (Int32 × Sg)} (hK : ∀ (x2 : Int32) (σ : Sg), Okk G l cX7_seatOf 5 RX7 (some .int) (rmo 1 23) ccI 82 [none, none, some (.int x2), none, none] [] σ (K x2 σ)) (hH : ∀ (x2 : Int32) (x3 : Int32) (σ : Sg), Okk G l cX7_seatOf 5 RX7 (some .int) (rmo 1 23) ccI 4 [some (k_rr G 100), some (.int x1), some (.int x2), some (.int x3), none] [] σ (H x2 x3 σ)) (x2 : Int32) (x3 : Int32)  (σ : Sg) : Okk G l cX7_seatOf 5 RX7 (some .int) (rmo 1 23) ccI 4 [some (k_rr G 100), some (.int x1), some (.int x2), some (.int x3), none] [] σ (d_X7_seatOf_4 x1 K H x2 x3 σ) := by
  unfold d_X7_seatOf_4
  refine ok_iload3 (dq_of td_X7_seatOf 4 rfl) ?_
  refine ok_iconst (v := 5) (dq_of td_X7_seatOf 5 rfl) (by decide) ?_
  refine ok_ic_ge (tgt := 82) (dq_of td_X7_seatOf 6 rfl) (by decide) ?_ ?_
  · refine ok_wk (wk_n (wk_n (wk_s (wk_n (wk_n wk_0))))) ?_
    exact hK _ _
  · refine ok_aload0 (dq_of td_X7_seatOf 7 rfl) ?_
    refine ok_get (v := .int (σ 100 0)) fl_X7_85 (by decide) ko_100 rfl (dq_of td_X7_seatOf 8 rfl) ?_
    refine ok_iload3 (dq_of td_X7_seatOf 9 rfl) ?_
    refine call_X7_has ml_X7_88  ⟨Nat.le_of_ble_eq_true rfl, Nat.le_of_ble_eq_true rfl⟩ ⟨Nat.zero_le _, Nat.zero_le _⟩ (Nat.le_of_ble_eq_true rfl) (dq_of td_X7_seatOf 10 rfl) (fun r2 σ1 => ?_)
    refine ok_if_eq (tgt := 60) (dq_of td_X7_seatOf 11 rfl) (by decide) ?_ ?_
    · refine ok_wk (wk_s (wk_s (wk_s (wk_s (wk_n wk_0))))) ?_
      exact ob_X7_seatOf_60 _  hK hH _ _  _
    · refine ok_iload3 (dq_of td_X7_seatOf 12 rfl) ?_
      refine ok_iload1 (dq_of td_X7_seatOf 13 rfl) ?_
      refine ok_ic_eq (tgt := 60) (dq_of td_X7_seatOf 14 rfl) (by decide) ?_ ?_
      · refine ok_wk (wk_s (wk_s (wk_s (wk_s (wk_n wk_0))))) ?_
        exact ob_X7_seatOf_60 _  hK hH _ _  _
      · refine ok_aload0 (dq_of td_X7_seatOf 15 rfl) ?_
        refine ok_iload3 (dq_of td_X7_seatOf 16 rfl) ?_
        refine call_X7_worth ml_X7_123  ⟨Nat.le_of_ble_eq_true rfl, Nat.le_of_ble_eq_true rfl⟩ ⟨Nat.zero_le _, Nat.zero_le _⟩ (Nat.le_of_ble_eq_true rfl) (dq_of td_X7_seatOf 17 rfl) (fun r5 σ4 => ?_)
        refine ok_aload0 (dq_of td_X7_seatOf 18 rfl) ?_
        refine ok_iload1 (dq_of td_X7_seatOf 19 rfl) ?_
        refine call_X7_worth ml_X7_123  ⟨Nat.le_of_ble_eq_true rfl, Nat.le_of_ble_eq_true rfl⟩ ⟨Nat.zero_le _, Nat.zero_le _⟩ (Nat.le_of_ble_eq_true rfl) (dq_of td_X7_seatOf 20 rfl) (fun r7 σ6 => ?_)
        refine ok_ic_gt (tgt := 56) (dq_of td_X7_seatOf 21 rfl) (by decide) ?_ ?_
        · refine ok_wk (wk_s (wk_s (wk_s (wk_s (wk_n wk_0))))) ?_
          exact ob_X7_seatOf_56 _  hK hH _ _  _
        · refine ok_aload0 (dq_of td_X7_seatOf 22 rfl) ?_
          refine ok_iload3 (dq_of td_X7_seatOf 23 rfl) ?_
          refine call_X7_worth ml_X7_123  ⟨Nat.le_of_ble_eq_true rfl, Nat.le_of_ble_eq_true rfl⟩ ⟨Nat.zero_le _, Nat.zero_le _⟩ (Nat.le_of_ble_eq_true rfl) (dq_of td_X7_seatOf 24 rfl) (fun r9 σ8 => ?_)
          refine ok_aload0 (dq_of td_X7_seatOf 25 rfl) ?_
          refine ok_iload1 (dq_of td_X7_seatOf 26 rfl) ?_
          refine call_X7_worth ml_X7_123  ⟨Nat.le_of_ble_eq_true rfl, Nat.le_of_ble_eq_true rfl⟩ ⟨Nat.zero_le _, Nat.zero_le _⟩ (Nat.le_of_ble_eq_true rfl) (dq_of td_X7_seatOf 27 rfl) (fun r11 σ10 => ?_)
          refine ok_ic_ne (tgt := 60) (dq_of td_X7_seatOf 28 rfl) (by decide) ?_ ?_
          · refine ok_wk (wk_s (wk_s (wk_s (wk_s (wk_n wk_0))))) ?_
            exact ob_X7_seatOf_60 _  hK hH _ _  _
          · refine ok_iload3 (dq_of td_X7_seatOf 29 rfl) ?_
            refine ok_iload1 (dq_of td_X7_seatOf 30 rfl) ?_
            refine ok_ic_ge (tgt := 60) (dq_of td_X7_seatOf 31 rfl) (by decide) ?_ ?_
            · refine ok_wk (wk_s (wk_s (wk_s (wk_s (wk_n wk_0))))) ?_
              exact ob_X7_seatOf_60 _  hK hH _ _  _
            · refine ok_wk (wk_s (wk_s (wk_s (wk_s (wk_n wk_0))))) ?_
              exact ob_X7_seatOf_56 _  hK hH _ _  _
theorem ld_X7_seatOf_4 {G : KW} {l : Launch} (x1 : Int32)  {K : Int32 → Sg → Option (Int32 × Sg)} (hK : ∀ (x2 : Int32) (σ : Sg), Okk G l cX7_seatOf 5 RX7 (some .int) (rmo 1 23) ccI 82 [none, none, some (.int x2), none, none] [] σ (K x2 σ)) (n : Nat) (x2 : Int32) (x3 : Int32) (σ : Sg) : Okk G l cX7_seatOf 5 RX7 (some .int) (rmo 1 23) ccI 4 [some (k_rr G 100), some (.int x1), some (.int x2), some (.int x3), none] [] σ (e_lp2 (d_X7_seatOf_4 x1 K) n x2 x3 σ) :=
  ok_lp2 (Lf := fun (x2 : Int32) (x3 : Int32) => [some (k_rr G 100), some (.int x1), some (.int x2), some (.int x3), none]) (fun _ hH x2 x3 σ => od_X7_seatOf_4 _  hK hH x2 x3 σ) n x2 x3 σ
def m_X7_seatOf (x1 : Int32) (σ : Sg) : Option (Int32 × Sg) := e_lp2 (d_X7_seatOf_4 x1 (fun x2q12 σ12 => some (x2q12, σ12))) e_F 0 0 σ
theorem om_X7_seatOf {G : KW} {l : Launch} (x1 : Int32)  (σ : Sg) : Okk G l cX7_seatOf 5 RX7 (some .int) (rmo 1 23) ccI 0 [some (k_rr G 100), some (.int x1), none, none, none] [] σ (m_X7_seatOf x1 σ) := by
  unfold m_X7_seatOf
  refine ok_iconst (v := 0) (dq_of td_X7_seatOf 0 rfl) (by decide) ?_
  refine ok_istore2 (dq_of td_X7_seatOf 1 rfl) rfl (by decide) ?_
  refine ok_iconst (v := 0) (dq_of td_X7_seatOf 2 rfl) (by decide) ?_
  refine ok_istore3 (dq_of td_X7_seatOf 3 rfl) rfl (by decide) ?_
  refine ok_wk (wk_s (wk_s (wk_s (wk_s (wk_n wk_0))))) ?_
  refine ld_X7_seatOf_4 _  (fun x2q12 σ12 => ?_) _ _ _ _
  refine ok_iload2 (dq_of td_X7_seatOf 46 rfl) ?_
  exact ok_iret (dq_of td_X7_seatOf 47 rfl)
theorem ct_X7_seatOf {G : KW} {l : Launch} (x1 : Int32)  (σ : Sg) : ∀ b, m_X7_seatOf x1 σ = some b → MetF G l yX7_seatOf cX7_seatOf 5 (some .int) 1 23 [k_rr G 100, .int x1] (k_wl G σ) (ccI b).1 (k_wl G (ccI b).2) :=
  met_of (by decide) (Nat.le_of_ble_eq_true rfl) rfl (om_X7_seatOf _  σ)
theorem call_X7_seatOf {G : KW} {l : Launch} {cc : ByteArray} {nL : Nat} {own : String} {rt : Option FieldType} {R : Room} {α : Type} {X : State → Array Value → Method → Prop} {Z : α → List Frame → Array Value → State → State → Prop} {k0 n0 pc index : Nat} {L : List (Option Value)} {S : List Value} {σ : Sg} {F : Int32 → Sg → Option α} {x1 : Int32} (lk : MLk own index yX7_seatOf)  (hR : R.frames ≥ 1 + 1 ∧ R.locals ≥ 8 + (5 + 11) + 23) (hcs : k0 ≤ R.cells ∧ n0 ≤ R.slots) (hro : (S.map fun v => v.category).sum ≤ 8) (d : decode cc pc = .ok (.invokevirtual index, 3)) (kk : ∀ (r : Int32) (σ' : Sg), Okg G l cc nL own rt R X Z k0 n0 (pc + 3) L (.int r :: S) σ' (F r σ')) : Okg G l cc nL own rt R X Z k0 n0 pc L (.int x1 :: k_rr G 100 :: S) σ (e_cI (m_X7_seatOf x1 σ) F) :=
  ok_cV (cb := ccI) (As := [.int x1]) (ct_X7_seatOf _  σ) mo_X7_seatOf hi_X7_seatOf lk rfl (ci := 7) rfl rfl (by decide) ko_100 hR rfl hcs hro d (fun b => kk b.1 b.2)
/-! CoatDinnerModel.many(I)I -/
def b_X7_many_36 (x1 : Int32) (K : Int32 → Sg → Option (Int32 × Sg)) (H : Int32 → Int32 → Sg → Option (Int32 × Sg)) (x3 : Int32) (s0 : Int32) (s1 : Int32) (σ : Sg) : Option (Int32 × Sg) := e_lt (s1 + s0) (fun v3 => H v3 (x3 + 1) σ)
def b_X7_many_35 (x1 : Int32) (K : Int32 → Sg → Option (Int32 × Sg)) (H : Int32 → Int32 → Sg → Option (Int32 × Sg)) (x3 : Int32) (s0 : Int32) (σ : Sg) : Option (Int32 × Sg) := b_X7_many_36 x1 K H x3 0 s0 σ
def d_X7_many_4 (x1 : Int32) (K : Int32 → Sg → Option (Int32 × Sg)) (H : Int32 → Int32 → Sg → Option (Int32 × Sg)) (x2 : Int32) (x3 : Int32) (σ : Sg) : Option (Int32 × Sg) := (if 5 ≤ x3 then K x2 σ else e_cI (m_X7_has (σ 100 0) x3 σ) (fun r2 σ1 => (if r2 = 0 then b_X7_many_35 x1 K H x3 x2 σ1 else e_gd (k_in x3 5) ((if (σ1 114 (Int32.toNatClampNeg x3)) = x1 then b_X7_many_36 x1 K H x3 1 x2 σ1 else b_X7_many_35 x1 K H x3 x2 σ1)))))
theorem ob_X7_many_36 {G : KW} {l : Launch} (x1 : Int32)  {K : Int32 → Sg → Option (Int32 × Sg)} {H : Int32 → Int32 → Sg → Option (Int32 × Sg)} (hK : ∀ (x2 : Int32) (σ : Sg), Okk G l cX7_many 4 RX7 (some .int) (rmo 1 21) ccI 44 [none, none, some (.int x2), none] [] σ (K x2 σ)) (hH : ∀ (x2 : Int32) (x3 : Int32) (σ : Sg), Okk G l cX7_many 4 RX7 (some .int) (rmo 1 21) ccI 4 [some (k_rr G 100), some (.int x1), some (.int x2), some (.int x3)] [] σ (H x2 x3 σ)) (x3 : Int32) (s0 : Int32) (s1 : Int32)  (σ : Sg) : Okk G l cX7_many 4 RX7 (some .int) (rmo 1 21) ccI 36 [some (k_rr G 100), some (.int x1), none, some (.int x3)] [.int s0, .int s1] σ (b_X7_many_36 x1 K H x3 s0 s1 σ) := by
  unfold b_X7_many_36
  refine ok_iadd (dq_of td_X7_many 22 rfl) ?_
  refine ok_gI (fun v3 => ?_)
  refine ok_istore2 (dq_of td_X7_many 23 rfl) rfl (by decide) ?_
  refine ok_jinc3 (w := 1) (dq_of td_X7_many 24 rfl) (by decide) rfl (by decide) ?_
  refine ok_goto (tgt := 4) (dq_of td_X7_many 25 rfl) (by decide) ?_
  refine ok_wk (wk_s (wk_s (wk_s (wk_s wk_0)))) ?_
  exact hH _ _ _
theorem ob_X7_many_35 {G : KW} {l : Launch} (x1 : Int32)  {K : Int32 → Sg → Option (Int32 × Sg)} {H : Int32 → Int32 → Sg → Option (Int32 × Sg)} (hK : ∀ (x2 : Int32) (σ : Sg), Okk G l cX7_many 4 RX7 (some .int) (rmo 1 21) ccI 44 [none, none, some (.int x2), none] [] σ (K x2 σ)) (hH : ∀ (x2 : Int32) (x3 : Int32) (σ : Sg), Okk G l cX7_many 4 RX7 (some .int) (rmo 1 21) ccI 4 [some (k_rr G 100), some (.int x1), some (.int x2), some (.int x3)] [] σ (H x2 x3 σ)) (x3 : Int32) (s0 : Int32)  (σ : Sg) : Okk G l cX7_many 4 RX7 (some .int) (rmo 1 21) ccI 35 [some (k_rr G 100), some (.int x1), none, some (.int x3)] [.int s0] σ (b_X7_many_35 x1 K H x3 s0 σ) := by
  unfold b_X7_many_35
  refine ok_iconst (v := 0) (dq_of td_X7_many 21 rfl) (by decide) ?_
  refine ok_wk (wk_s (wk_s (wk_n (wk_s wk_0)))) ?_
  exact ob_X7_many_36 _  hK hH _ _ _  _
theorem od_X7_many_4 {G : KW} {l : Launch} (x1 : Int32)  {K : Int32 → Sg → Option (Int32 × Sg)} {H : Int32 → Int32 → Sg → Option (Int32 × Sg)} (hK : ∀ (x2 : Int32) (σ : Sg), Okk G l cX7_many 4 RX7 (some .int) (rmo 1 21) ccI 44 [none, none, some (.int x2), none] [] σ (K x2 σ)) (hH : ∀ (x2 : Int32) (x3 : Int32) (σ : Sg), Okk G l cX7_many 4 RX7 (some .int) (rmo 1 21) ccI 4 [some (k_rr G 100), some (.int x1), some (.int x2), some (.int x3)] [] σ (H x2 x3 σ)) (x2 : Int32) (x3 : Int32)  (σ : Sg) : Okk G l cX7_many 4 RX7 (some .int) (rmo 1 21) ccI 4 [some (k_rr G 100), some (.int x1), some (.int x2), some (.int x3)] [] σ (d_X7_many_4 x1 K H x2 x3 σ) := by
  unfold d_X7_many_4
  refine ok_iload3 (dq_of td_X7_many 4 rfl) ?_
  refine ok_iconst (v := 5) (dq_of td_X7_many 5 rfl) (by decide) ?_
  refine ok_ic_ge (tgt := 44) (dq_of td_X7_many 6 rfl) (by decide) ?_ ?_
  · refine ok_wk (wk_n (wk_n (wk_s (wk_n wk_0)))) ?_
    exact hK _ _
  · refine ok_iload2 (dq_of td_X7_many 7 rfl) ?_
    refine ok_aload0 (dq_of td_X7_many 8 rfl) ?_
    refine ok_get (v := .int (σ 100 0)) fl_X7_85 (by decide) ko_100 rfl (dq_of td_X7_many 9 rfl) ?_
    refine ok_iload3 (dq_of td_X7_many 10 rfl) ?_
    refine call_X7_has ml_X7_88  ⟨Nat.le_of_ble_eq_true rfl, Nat.le_of_ble_eq_true rfl⟩ ⟨Nat.zero_le _, Nat.zero_le _⟩ (Nat.le_of_ble_eq_true rfl) (dq_of td_X7_many 11 rfl) (fun r2 σ1 => ?_)
    refine ok_if_eq (tgt := 35) (dq_of td_X7_many 12 rfl) (by decide) ?_ ?_
    · refine ok_wk (wk_s (wk_s (wk_n (wk_s wk_0)))) ?_
      exact ob_X7_many_35 _  hK hH _ _  _
    · refine ok_aload0 (dq_of td_X7_many 13 rfl) ?_
      refine ok_get (v := k_rr G 114) fl_X7_53 (by decide) ko_100 rfl (dq_of td_X7_many 14 rfl) ?_
      refine ok_iload3 (dq_of td_X7_many 15 rfl) ?_
      refine ok_iald ka_114 (dq_of td_X7_many 16 rfl) ?_
      refine ok_iload1 (dq_of td_X7_many 17 rfl) ?_
      refine ok_ic_ne (tgt := 35) (dq_of td_X7_many 18 rfl) (by decide) ?_ ?_
      · refine ok_wk (wk_s (wk_s (wk_n (wk_s wk_0)))) ?_
        exact ob_X7_many_35 _  hK hH _ _  _
      · refine ok_iconst (v := 1) (dq_of td_X7_many 19 rfl) (by decide) ?_
        refine ok_goto (tgt := 36) (dq_of td_X7_many 20 rfl) (by decide) ?_
        refine ok_wk (wk_s (wk_s (wk_n (wk_s wk_0)))) ?_
        exact ob_X7_many_36 _  hK hH _ _ _  _
theorem ld_X7_many_4 {G : KW} {l : Launch} (x1 : Int32)  {K : Int32 → Sg → Option (Int32 × Sg)} (hK : ∀ (x2 : Int32) (σ : Sg), Okk G l cX7_many 4 RX7 (some .int) (rmo 1 21) ccI 44 [none, none, some (.int x2), none] [] σ (K x2 σ)) (n : Nat) (x2 : Int32) (x3 : Int32) (σ : Sg) : Okk G l cX7_many 4 RX7 (some .int) (rmo 1 21) ccI 4 [some (k_rr G 100), some (.int x1), some (.int x2), some (.int x3)] [] σ (e_lp2 (d_X7_many_4 x1 K) n x2 x3 σ) :=
  ok_lp2 (Lf := fun (x2 : Int32) (x3 : Int32) => [some (k_rr G 100), some (.int x1), some (.int x2), some (.int x3)]) (fun _ hH x2 x3 σ => od_X7_many_4 _  hK hH x2 x3 σ) n x2 x3 σ
def m_X7_many (x1 : Int32) (σ : Sg) : Option (Int32 × Sg) := e_lp2 (d_X7_many_4 x1 (fun x2q4 σ4 => some (x2q4, σ4))) e_F 0 0 σ
theorem om_X7_many {G : KW} {l : Launch} (x1 : Int32)  (σ : Sg) : Okk G l cX7_many 4 RX7 (some .int) (rmo 1 21) ccI 0 [some (k_rr G 100), some (.int x1), none, none] [] σ (m_X7_many x1 σ) := by
  unfold m_X7_many
  refine ok_iconst (v := 0) (dq_of td_X7_many 0 rfl) (by decide) ?_
  refine ok_istore2 (dq_of td_X7_many 1 rfl) rfl (by decide) ?_
  refine ok_iconst (v := 0) (dq_of td_X7_many 2 rfl) (by decide) ?_
  refine ok_istore3 (dq_of td_X7_many 3 rfl) rfl (by decide) ?_
  refine ok_wk (wk_s (wk_s (wk_s (wk_s wk_0)))) ?_
  refine ld_X7_many_4 _  (fun x2q4 σ4 => ?_) _ _ _ _
  refine ok_iload2 (dq_of td_X7_many 26 rfl) ?_
  exact ok_iret (dq_of td_X7_many 27 rfl)
theorem ct_X7_many {G : KW} {l : Launch} (x1 : Int32)  (σ : Sg) : ∀ b, m_X7_many x1 σ = some b → MetF G l yX7_many cX7_many 4 (some .int) 1 21 [k_rr G 100, .int x1] (k_wl G σ) (ccI b).1 (k_wl G (ccI b).2) :=
  met_of (by decide) (Nat.le_of_ble_eq_true rfl) rfl (om_X7_many _  σ)
theorem call_X7_many {G : KW} {l : Launch} {cc : ByteArray} {nL : Nat} {own : String} {rt : Option FieldType} {R : Room} {α : Type} {X : State → Array Value → Method → Prop} {Z : α → List Frame → Array Value → State → State → Prop} {k0 n0 pc index : Nat} {L : List (Option Value)} {S : List Value} {σ : Sg} {F : Int32 → Sg → Option α} {x1 : Int32} (lk : MLk own index yX7_many)  (hR : R.frames ≥ 1 + 1 ∧ R.locals ≥ 8 + (4 + 11) + 21) (hcs : k0 ≤ R.cells ∧ n0 ≤ R.slots) (hro : (S.map fun v => v.category).sum ≤ 8) (d : decode cc pc = .ok (.invokevirtual index, 3)) (kk : ∀ (r : Int32) (σ' : Sg), Okg G l cc nL own rt R X Z k0 n0 (pc + 3) L (.int r :: S) σ' (F r σ')) : Okg G l cc nL own rt R X Z k0 n0 pc L (.int x1 :: k_rr G 100 :: S) σ (e_cI (m_X7_many x1 σ) F) :=
  ok_cV (cb := ccI) (As := [.int x1]) (ct_X7_many _  σ) mo_X7_many hi_X7_many lk rfl (ci := 7) rfl rfl (by decide) ko_100 hR rfl hcs hro d (fun b => kk b.1 b.2)
/-! CoatDinnerModel.course(Z)V -/
def b_X7_course_65 (x1 : Int32) (K : Int32 → Int32 → Sg → Option (Sg)) (H : Int32 → Int32 → Int32 → Int32 → Sg → Option (Sg)) (x2 : Int32) (x3 : Int32) (x5 : Int32) (s0 : Int32) (s1 : Int32) (σ : Sg) : Option (Sg) := e_lt (s1 ||| s0) (fun v7 => H x2 x3 v7 (x5 + 1) σ)
def b_X7_course_38 (x1 : Int32) (K : Int32 → Int32 → Sg → Option (Sg)) (H : Int32 → Int32 → Int32 → Int32 → Sg → Option (Sg)) (x2 : Int32) (x3 : Int32) (x4 : Int32) (x5 : Int32) (s0 : Int32) (σ : Sg) : Option (Sg) := e_cI (m_X7_has (σ 100 0) x5 σ) (fun r6 σ5 => (if r6 = 0 then b_X7_course_65 x1 K H x2 x3 x5 0 x4 σ5 else b_X7_course_65 x1 K H x2 x3 x5 (jsl s0 (4 * x5)) x4 σ5))
def d_X7_course_16 (x1 : Int32) (K : Int32 → Int32 → Sg → Option (Sg)) (H : Int32 → Int32 → Int32 → Int32 → Sg → Option (Sg)) (x2 : Int32) (x3 : Int32) (x4 : Int32) (x5 : Int32) (σ : Sg) : Option (Sg) := (if 5 ≤ x5 then K x3 x4 σ else (if x1 = 0 then e_cI (m_X7_seatOf x5 σ) (fun r4 σ3 => b_X7_course_38 x1 K H x2 x3 x4 x5 (x2 - r4) σ3) else b_X7_course_38 x1 K H x2 x3 x4 x5 1 σ))
def b_X7_course_143 (x1 : Int32) (K : Int32 → Sg → Option (Sg)) (H : Int32 → Int32 → Int32 → Sg → Option (Sg)) (x4 : Int32) (x5 : Int32) (x6 : Int32) (x7 : Int32) (s0 : Int32) (s1 : Int32) (σ : Sg) : Option (Sg) := e_lt (s1 ||| s0) (fun v14 => (if x1 = 0 then (if 5 ≤ x7 then H v14 x4 (x5 + 1) σ else e_gd (k_in x7 5) ((if (σ 102 (Int32.toNatClampNeg x7)) = x5 then H v14 x4 (x5 + 1) σ else e_gd (k_in x5 5) (e_wr σ 116 x5 5 ((σ 116 (Int32.toNatClampNeg x5)) + (x6 / 2)) (fun σ15 => e_gd (k_in x7 5) (e_gd (k_in (σ15 102 (Int32.toNatClampNeg x7)) 5) (e_wr σ15 117 (σ15 102 (Int32.toNatClampNeg x7)) 5 ((σ15 117 (Int32.toNatClampNeg (σ15 102 (Int32.toNatClampNeg x7)))) + (x6 / 2)) (fun σ16 => H v14 x4 (x5 + 1) σ16)))))))) else H v14 x4 (x5 + 1) σ))
def d_X7_course_77 (x1 : Int32) (K : Int32 → Sg → Option (Sg)) (H : Int32 → Int32 → Int32 → Sg → Option (Sg)) (x3 : Int32) (x4 : Int32) (x5 : Int32) (σ : Sg) : Option (Sg) := (if 5 ≤ x5 then K x3 σ else e_cI (m_X7_has (σ 100 0) x5 σ) (fun r10 σ9 => (if r10 = 0 then H x3 x4 (x5 + 1) σ9 else e_lt ((jsr x4 (4 * x5)) &&& 15) (fun v11 => e_gd (k_in x5 5) (e_lt (σ9 114 (Int32.toNatClampNeg x5)) (fun v12 => e_gd (k_in x5 5) (e_wr σ9 115 x5 5 ((σ9 115 (Int32.toNatClampNeg x5)) + v11) (fun σ13 => (if 5 ≤ v12 then b_X7_course_143 x1 K H x4 x5 v11 v12 0 x3 σ13 else b_X7_course_143 x1 K H x4 x5 v11 v12 (jsl 1 v12) x3 σ13)))))))))
def b_X7_course_251 (x1 : Int32) (K : Sg → Option (Sg)) (H : Int32 → Int32 → Sg → Option (Sg)) (x3 : Int32) (x5 : Int32) (s0 : Int32) (s1 : Int32) (s2 : Int32) (s3 : Nat) (σ : Sg) : Option (Sg) := e_gd (k_ar s3) (e_wr σ s3 s2 (k_ln s3) (s1 - s0) (fun σ18 => H x3 (x5 + 1) σ18))
def b_X7_course_250 (x1 : Int32) (K : Sg → Option (Sg)) (H : Int32 → Int32 → Sg → Option (Sg)) (x3 : Int32) (x5 : Int32) (s0 : Int32) (s1 : Int32) (s2 : Nat) (σ : Sg) : Option (Sg) := b_X7_course_251 x1 K H x3 x5 0 s0 s1 s2 σ
def d_X7_course_209 (x1 : Int32) (K : Sg → Option (Sg)) (H : Int32 → Int32 → Sg → Option (Sg)) (x3 : Int32) (x5 : Int32) (σ : Sg) : Option (Sg) := (if 5 ≤ x5 then K σ else e_gd (k_in x5 5) ((if x1 = 0 then e_cI (m_X7_has x3 x5 σ) (fun r21 σ20 => (if r21 = 0 then b_X7_course_250 x1 K H x3 x5 (σ 118 (Int32.toNatClampNeg x5)) x5 118 σ20 else e_gd (k_in x5 5) ((if (σ20 118 (Int32.toNatClampNeg x5)) ≤ 0 then b_X7_course_250 x1 K H x3 x5 (σ 118 (Int32.toNatClampNeg x5)) x5 118 σ20 else b_X7_course_251 x1 K H x3 x5 1 (σ 118 (Int32.toNatClampNeg x5)) x5 118 σ20)))) else b_X7_course_250 x1 K H x3 x5 (σ 118 (Int32.toNatClampNeg x5)) x5 118 σ)))
theorem ob_X7_course_65 {G : KW} {l : Launch} (x1 : Int32)  {K : Int32 → Int32 → Sg → Option (Sg)} {H : Int32 → Int32 → Int32 → Int32 → Sg → Option (Sg)} (hK : ∀ (x3 : Int32) (x4 : Int32) (σ : Sg), Okk G l cX7_course 8 RX7 none (rmo 2 47) ccV 74 [some (k_rr G 100), some (.int x1), none, some (.int x3), some (.int x4), none, none, none] [] σ (K x3 x4 σ)) (hH : ∀ (x2 : Int32) (x3 : Int32) (x4 : Int32) (x5 : Int32) (σ : Sg), Okk G l cX7_course 8 RX7 none (rmo 2 47) ccV 16 [some (k_rr G 100), some (.int x1), some (.int x2), some (.int x3), some (.int x4), some (.int x5), none, none] [] σ (H x2 x3 x4 x5 σ)) (x2 : Int32) (x3 : Int32) (x5 : Int32) (s0 : Int32) (s1 : Int32)  (σ : Sg) : Okk G l cX7_course 8 RX7 none (rmo 2 47) ccV 65 [some (k_rr G 100), some (.int x1), some (.int x2), some (.int x3), none, some (.int x5), none, none] [.int s0, .int s1] σ (b_X7_course_65 x1 K H x2 x3 x5 s0 s1 σ) := by
  unfold b_X7_course_65
  refine ok_ior (dq_of td_X7_course 36 rfl) ?_
  refine ok_gI (fun v7 => ?_)
  refine ok_istore4 (dq_of td_X7_course 37 rfl) rfl (by decide) ?_
  refine ok_jinc5 (w := 1) (dq_of td_X7_course 38 rfl) (by decide) rfl (by decide) ?_
  refine ok_goto (tgt := 16) (dq_of td_X7_course 39 rfl) (by decide) ?_
  refine ok_wk (wk_s (wk_s (wk_s (wk_s (wk_s (wk_s (wk_n (wk_n wk_0)))))))) ?_
  exact hH _ _ _ _ _
theorem ob_X7_course_38 {G : KW} {l : Launch} (x1 : Int32)  {K : Int32 → Int32 → Sg → Option (Sg)} {H : Int32 → Int32 → Int32 → Int32 → Sg → Option (Sg)} (hK : ∀ (x3 : Int32) (x4 : Int32) (σ : Sg), Okk G l cX7_course 8 RX7 none (rmo 2 47) ccV 74 [some (k_rr G 100), some (.int x1), none, some (.int x3), some (.int x4), none, none, none] [] σ (K x3 x4 σ)) (hH : ∀ (x2 : Int32) (x3 : Int32) (x4 : Int32) (x5 : Int32) (σ : Sg), Okk G l cX7_course 8 RX7 none (rmo 2 47) ccV 16 [some (k_rr G 100), some (.int x1), some (.int x2), some (.int x3), some (.int x4), some (.int x5), none, none] [] σ (H x2 x3 x4 x5 σ)) (x2 : Int32) (x3 : Int32) (x4 : Int32) (x5 : Int32) (s0 : Int32)  (σ : Sg) : Okk G l cX7_course 8 RX7 none (rmo 2 47) ccV 38 [some (k_rr G 100), some (.int x1), some (.int x2), some (.int x3), some (.int x4), some (.int x5), none, none] [.int s0] σ (b_X7_course_38 x1 K H x2 x3 x4 x5 s0 σ) := by
  unfold b_X7_course_38
  refine ok_istore6 (dq_of td_X7_course 22 rfl) rfl (by decide) ?_
  refine ok_iload4 (dq_of td_X7_course 23 rfl) ?_
  refine ok_aload0 (dq_of td_X7_course 24 rfl) ?_
  refine ok_get (v := .int (σ 100 0)) fl_X7_85 (by decide) ko_100 rfl (dq_of td_X7_course 25 rfl) ?_
  refine ok_iload5 (dq_of td_X7_course 26 rfl) ?_
  refine call_X7_has ml_X7_88  ⟨Nat.le_of_ble_eq_true rfl, Nat.le_of_ble_eq_true rfl⟩ ⟨Nat.zero_le _, Nat.zero_le _⟩ (Nat.le_of_ble_eq_true rfl) (dq_of td_X7_course 27 rfl) (fun r6 σ5 => ?_)
  refine ok_if_eq (tgt := 64) (dq_of td_X7_course 28 rfl) (by decide) ?_ ?_
  · refine ok_iconst (v := 0) (dq_of td_X7_course 35 rfl) (by decide) ?_
    refine ok_wk (wk_s (wk_s (wk_s (wk_s (wk_n (wk_s (wk_n (wk_n wk_0)))))))) ?_
    exact ob_X7_course_65 _  hK hH _ _ _ _ _  _
  · refine ok_iload6 (dq_of td_X7_course 29 rfl) ?_
    refine ok_iconst (v := 4) (dq_of td_X7_course 30 rfl) (by decide) ?_
    refine ok_iload5 (dq_of td_X7_course 31 rfl) ?_
    refine ok_imul (dq_of td_X7_course 32 rfl) ?_
    refine ok_ishl (dq_of td_X7_course 33 rfl) ?_
    refine ok_goto (tgt := 65) (dq_of td_X7_course 34 rfl) (by decide) ?_
    refine ok_wk (wk_s (wk_s (wk_s (wk_s (wk_n (wk_s (wk_n (wk_n wk_0)))))))) ?_
    exact ob_X7_course_65 _  hK hH _ _ _ _ _  _
theorem od_X7_course_16 {G : KW} {l : Launch} (x1 : Int32)  {K : Int32 → Int32 → Sg → Option (Sg)} {H : Int32 → Int32 → Int32 → Int32 → Sg → Option (Sg)} (hK : ∀ (x3 : Int32) (x4 : Int32) (σ : Sg), Okk G l cX7_course 8 RX7 none (rmo 2 47) ccV 74 [some (k_rr G 100), some (.int x1), none, some (.int x3), some (.int x4), none, none, none] [] σ (K x3 x4 σ)) (hH : ∀ (x2 : Int32) (x3 : Int32) (x4 : Int32) (x5 : Int32) (σ : Sg), Okk G l cX7_course 8 RX7 none (rmo 2 47) ccV 16 [some (k_rr G 100), some (.int x1), some (.int x2), some (.int x3), some (.int x4), some (.int x5), none, none] [] σ (H x2 x3 x4 x5 σ)) (x2 : Int32) (x3 : Int32) (x4 : Int32) (x5 : Int32)  (σ : Sg) : Okk G l cX7_course 8 RX7 none (rmo 2 47) ccV 16 [some (k_rr G 100), some (.int x1), some (.int x2), some (.int x3), some (.int x4), some (.int x5), none, none] [] σ (d_X7_course_16 x1 K H x2 x3 x4 x5 σ) := by
  unfold d_X7_course_16
  refine ok_iload5 (dq_of td_X7_course 10 rfl) ?_
  refine ok_iconst (v := 5) (dq_of td_X7_course 11 rfl) (by decide) ?_
  refine ok_ic_ge (tgt := 74) (dq_of td_X7_course 12 rfl) (by decide) ?_ ?_
  · refine ok_wk (wk_s (wk_s (wk_n (wk_s (wk_s (wk_n (wk_n (wk_n wk_0)))))))) ?_
    exact hK _ _ _
  · refine ok_iload1 (dq_of td_X7_course 13 rfl) ?_
    refine ok_if_eq (tgt := 30) (dq_of td_X7_course 14 rfl) (by decide) ?_ ?_
    · refine ok_iload2 (dq_of td_X7_course 17 rfl) ?_
      refine ok_aload0 (dq_of td_X7_course 18 rfl) ?_
      refine ok_iload5 (dq_of td_X7_course 19 rfl) ?_
      refine call_X7_seatOf ml_X7_126  ⟨Nat.le_of_ble_eq_true rfl, Nat.le_of_ble_eq_true rfl⟩ ⟨Nat.zero_le _, Nat.zero_le _⟩ (Nat.le_of_ble_eq_true rfl) (dq_of td_X7_course 20 rfl) (fun r4 σ3 => ?_)
      refine ok_isub (dq_of td_X7_course 21 rfl) ?_
      refine ok_wk (wk_s (wk_s (wk_s (wk_s (wk_s (wk_s (wk_n (wk_n wk_0)))))))) ?_
      exact ob_X7_course_38 _  hK hH _ _ _ _ _  _
    · refine ok_iconst (v := 1) (dq_of td_X7_course 15 rfl) (by decide) ?_
      refine ok_goto (tgt := 38) (dq_of td_X7_course 16 rfl) (by decide) ?_
      refine ok_wk (wk_s (wk_s (wk_s (wk_s (wk_s (wk_s (wk_n (wk_n wk_0)))))))) ?_
      exact ob_X7_course_38 _  hK hH _ _ _ _ _  _
theorem ld_X7_course_16 {G : KW} {l : Launch} (x1 : Int32)  {K : Int32 → Int32 → Sg → Option (Sg)} (hK : ∀ (x3 : Int32) (x4 : Int32) (σ : Sg), Okk G l cX7_course 8 RX7 none (rmo 2 47) ccV 74 [some (k_rr G 100), some (.int x1), none, some (.int x3), some (.int x4), none, none, none] [] σ (K x3 x4 σ)) (n : Nat) (x2 : Int32) (x3 : Int32) (x4 : Int32) (x5 : Int32) (σ : Sg) : Okk G l cX7_course 8 RX7 none (rmo 2 47) ccV 16 [some (k_rr G 100), some (.int x1), some (.int x2), some (.int x3), some (.int x4), some (.int x5), none, none] [] σ (e_lp4 (d_X7_course_16 x1 K) n x2 x3 x4 x5 σ) :=
  ok_lp4 (Lf := fun (x2 : Int32) (x3 : Int32) (x4 : Int32) (x5 : Int32) => [some (k_rr G 100), some (.int x1), some (.int x2), some (.int x3), some (.int x4), some (.int x5), none, none]) (fun _ hH x2 x3 x4 x5 σ => od_X7_course_16 _  hK hH x2 x3 x4 x5 σ) n x2 x3 x4 x5 σ
theorem ob_X7_course_143 {G : KW} {l : Launch} (x1 : Int32)  {K : Int32 → Sg → Option (Sg)} {H : Int32 → Int32 → Int32 → Sg → Option (Sg)} (hK : ∀ (x3 : Int32) (σ : Sg), Okk G l cX7_course 8 RX7 none (rmo 2 47) ccV 206 [some (k_rr G 100), some (.int x1), none, some (.int x3), none, none, none, none] [] σ (K x3 σ)) (hH : ∀ (x3 : Int32) (x4 : Int32) (x5 : Int32) (σ : Sg), Okk G l cX7_course 8 RX7 none (rmo 2 47) ccV 77 [some (k_rr G 100), some (.int x1), none, some (.int x3), some (.int x4), some (.int x5), none, none] [] σ (H x3 x4 x5 σ)) (x4 : Int32) (x5 : Int32) (x6 : Int32) (x7 : Int32) (s0 : Int32) (s1 : Int32)  (σ : Sg) : Okk G l cX7_course 8 RX7 none (rmo 2 47) ccV 143 [some (k_rr G 100), some (.int x1), none, none, some (.int x4), some (.int x5), some (.int x6), some (.int x7)] [.int s0, .int s1] σ (b_X7_course_143 x1 K H x4 x5 x6 x7 s0 s1 σ) := by
  unfold b_X7_course_143
  refine ok_ior (dq_of td_X7_course 80 rfl) ?_
  refine ok_gI (fun v14 => ?_)
  refine ok_istore3 (dq_of td_X7_course 81 rfl) rfl (by decide) ?_
  refine ok_iload1 (dq_of td_X7_course 82 rfl) ?_
  refine ok_if_ne (tgt := 200) (dq_of td_X7_course 83 rfl) (by decide) ?_ ?_
  · refine ok_jinc5 (w := 1) (dq_of td_X7_course 116 rfl) (by decide) rfl (by decide) ?_
    refine ok_goto (tgt := 77) (dq_of td_X7_course 117 rfl) (by decide) ?_
    refine ok_wk (wk_s (wk_s (wk_n (wk_s (wk_s (wk_s (wk_n (wk_n wk_0)))))))) ?_
    exact hH _ _ _ _
  · refine ok_iload7 (dq_of td_X7_course 84 rfl) ?_
    refine ok_iconst (v := 5) (dq_of td_X7_course 85 rfl) (by decide) ?_
    refine ok_ic_ge (tgt := 200) (dq_of td_X7_course 86 rfl) (by decide) ?_ ?_
    · refine ok_jinc5 (w := 1) (dq_of td_X7_course 116 rfl) (by decide) rfl (by decide) ?_
      refine ok_goto (tgt := 77) (dq_of td_X7_course 117 rfl) (by decide) ?_
      refine ok_wk (wk_s (wk_s (wk_n (wk_s (wk_s (wk_s (wk_n (wk_n wk_0)))))))) ?_
      exact hH _ _ _ _
    · refine ok_aload0 (dq_of td_X7_course 87 rfl) ?_
      refine ok_get (v := k_rr G 102) fl_X7_13 (by decide) ko_100 rfl (dq_of td_X7_course 88 rfl) ?_
      refine ok_iload7 (dq_of td_X7_course 89 rfl) ?_
      refine ok_iald ka_102 (dq_of td_X7_course 90 rfl) ?_
      refine ok_iload5 (dq_of td_X7_course 91 rfl) ?_
      refine ok_ic_eq (tgt := 200) (dq_of td_X7_course 92 rfl) (by decide) ?_ ?_
      · refine ok_jinc5 (w := 1) (dq_of td_X7_course 116 rfl) (by decide) rfl (by decide) ?_
        refine ok_goto (tgt := 77) (dq_of td_X7_course 117 rfl) (by decide) ?_
        refine ok_wk (wk_s (wk_s (wk_n (wk_s (wk_s (wk_s (wk_n (wk_n wk_0)))))))) ?_
        exact hH _ _ _ _
      · refine ok_aload0 (dq_of td_X7_course 93 rfl) ?_
        refine ok_get (v := k_rr G 116) fl_X7_59 (by decide) ko_100 rfl (dq_of td_X7_course 94 rfl) ?_
        refine ok_iload5 (dq_of td_X7_course 95 rfl) ?_
        refine ok_dup2 (dq_of td_X7_course 96 rfl) rfl rfl ?_
        refine ok_iald ka_116 (dq_of td_X7_course 97 rfl) ?_
        refine ok_iload6 (dq_of td_X7_course 98 rfl) ?_
        refine ok_iconst (v := 2) (dq_of td_X7_course 99 rfl) (by decide) ?_
        refine ok_idiv (dq_of td_X7_course 100 rfl) (by decide) ?_
        refine ok_iadd (dq_of td_X7_course 101 rfl) ?_
        refine ok_iast ka_116 (dq_of td_X7_course 102 rfl) (fun σ15 => ?_)
        refine ok_aload0 (dq_of td_X7_course 103 rfl) ?_
        refine ok_get (v := k_rr G 117) fl_X7_62 (by decide) ko_100 rfl (dq_of td_X7_course 104 rfl) ?_
        refine ok_aload0 (dq_of td_X7_course 105 rfl) ?_
        refine ok_get (v := k_rr G 102) fl_X7_13 (by decide) ko_100 rfl (dq_of td_X7_course 106 rfl) ?_
        refine ok_iload7 (dq_of td_X7_course 107 rfl) ?_
        refine ok_iald ka_102 (dq_of td_X7_course 108 rfl) ?_
        refine ok_dup2 (dq_of td_X7_course 109 rfl) rfl rfl ?_
        refine ok_iald ka_117 (dq_of td_X7_course 110 rfl) ?_
        refine ok_iload6 (dq_of td_X7_course 111 rfl) ?_
        refine ok_iconst (v := 2) (dq_of td_X7_course 112 rfl) (by decide) ?_
        refine ok_idiv (dq_of td_X7_course 113 rfl) (by decide) ?_
        refine ok_iadd (dq_of td_X7_course 114 rfl) ?_
        refine ok_iast ka_117 (dq_of td_X7_course 115 rfl) (fun σ16 => ?_)
        refine ok_jinc5 (w := 1) (dq_of td_X7_course 116 rfl) (by decide) rfl (by decide) ?_
        refine ok_goto (tgt := 77) (dq_of td_X7_course 117 rfl) (by decide) ?_
        refine ok_wk (wk_s (wk_s (wk_n (wk_s (wk_s (wk_s (wk_n (wk_n wk_0)))))))) ?_
        exact hH _ _ _ _
theorem od_X7_course_77 {G : KW} {l : Launch} (x1 : Int32)  {K : Int32 → Sg → Option (Sg)} {H : Int32 → Int32 → Int32 → Sg → Option (Sg)} (hK : ∀ (x3 : Int32) (σ : Sg), Okk G l cX7_course 8 RX7 none (rmo 2 47) ccV 206 [some (k_rr G 100), some (.int x1), none, some (.int x3), none, none, none, none] [] σ (K x3 σ)) (hH : ∀ (x3 : Int32) (x4 : Int32) (x5 : Int32) (σ : Sg), Okk G l cX7_course 8 RX7 none (rmo 2 47) ccV 77 [some (k_rr G 100), some (.int x1), none, some (.int x3), some (.int x4), some (.int x5), none, none] [] σ (H x3 x4 x5 σ)) (x3 : Int32) (x4 : Int32) (x5 : Int32)  (σ : Sg) : Okk G l cX7_course 8 RX7 none (rmo 2 47) ccV 77 [some (k_rr G 100), some (.int x1), none, some (.int x3), some (.int x4), some (.int x5), none, none] [] σ (d_X7_course_77 x1 K H x3 x4 x5 σ) := by
  unfold d_X7_course_77
  refine ok_iload5 (dq_of td_X7_course 42 rfl) ?_
  refine ok_iconst (v := 5) (dq_of td_X7_course 43 rfl) (by decide) ?_
  refine ok_ic_ge (tgt := 206) (dq_of td_X7_course 44 rfl) (by decide) ?_ ?_
  · refine ok_wk (wk_s (wk_s (wk_n (wk_s (wk_n (wk_n (wk_n (wk_n wk_0)))))))) ?_
    exact hK _ _
  · refine ok_aload0 (dq_of td_X7_course 45 rfl) ?_
    refine ok_get (v := .int (σ 100 0)) fl_X7_85 (by decide) ko_100 rfl (dq_of td_X7_course 46 rfl) ?_
    refine ok_iload5 (dq_of td_X7_course 47 rfl) ?_
    refine call_X7_has ml_X7_88  ⟨Nat.le_of_ble_eq_true rfl, Nat.le_of_ble_eq_true rfl⟩ ⟨Nat.zero_le _, Nat.zero_le _⟩ (Nat.le_of_ble_eq_true rfl) (dq_of td_X7_course 48 rfl) (fun r10 σ9 => ?_)
    refine ok_if_eq (tgt := 200) (dq_of td_X7_course 49 rfl) (by decide) ?_ ?_
    · refine ok_jinc5 (w := 1) (dq_of td_X7_course 116 rfl) (by decide) rfl (by decide) ?_
      refine ok_goto (tgt := 77) (dq_of td_X7_course 117 rfl) (by decide) ?_
      refine ok_wk (wk_s (wk_s (wk_n (wk_s (wk_s (wk_s (wk_n (wk_n wk_0)))))))) ?_
      exact hH _ _ _ _
    · refine ok_iload4 (dq_of td_X7_course 50 rfl) ?_
      refine ok_iconst (v := 4) (dq_of td_X7_course 51 rfl) (by decide) ?_
      refine ok_iload5 (dq_of td_X7_course 52 rfl) ?_
      refine ok_imul (dq_of td_X7_course 53 rfl) ?_
      refine ok_ishr (dq_of td_X7_course 54 rfl) ?_
      refine ok_bipush (v := 15) (dq_of td_X7_course 55 rfl) (by decide) ?_
      refine ok_iand (dq_of td_X7_course 56 rfl) ?_
      refine ok_gI (fun v11 => ?_)
      refine ok_istore6 (dq_of td_X7_course 57 rfl) rfl (by decide) ?_
      refine ok_aload0 (dq_of td_X7_course 58 rfl) ?_
      refine ok_get (v := k_rr G 114) fl_X7_53 (by decide) ko_100 rfl (dq_of td_X7_course 59 rfl) ?_
      refine ok_iload5 (dq_of td_X7_course 60 rfl) ?_
      refine ok_iald ka_114 (dq_of td_X7_course 61 rfl) ?_
      refine ok_gI (fun v12 => ?_)
      refine ok_istore7 (dq_of td_X7_course 62 rfl) rfl (by decide) ?_
      refine ok_aload0 (dq_of td_X7_course 63 rfl) ?_
      refine ok_get (v := k_rr G 115) fl_X7_56 (by decide) ko_100 rfl (dq_of td_X7_course 64 rfl) ?_
      refine ok_iload5 (dq_of td_X7_course 65 rfl) ?_
      refine ok_dup2 (dq_of td_X7_course 66 rfl) rfl rfl ?_
      refine ok_iald ka_115 (dq_of td_X7_course 67 rfl) ?_
      refine ok_iload6 (dq_of td_X7_course 68 rfl) ?_
      refine ok_iadd (dq_of td_X7_course 69 rfl) ?_
      refine ok_iast ka_115 (dq_of td_X7_course 70 rfl) (fun σ13 => ?_)
      refine ok_iload3 (dq_of td_X7_course 71 rfl) ?_
      refine ok_iload7 (dq_of td_X7_course 72 rfl) ?_
      refine ok_iconst (v := 5) (dq_of td_X7_course 73 rfl) (by decide) ?_
      refine ok_ic_ge (tgt := 142) (dq_of td_X7_course 74 rfl) (by decide) ?_ ?_
      · refine ok_iconst (v := 0) (dq_of td_X7_course 79 rfl) (by decide) ?_
        refine ok_wk (wk_s (wk_s (wk_n (wk_n (wk_s (wk_s (wk_s (wk_s wk_0)))))))) ?_
        exact ob_X7_course_143 _  hK hH _ _ _ _ _ _  _
      · refine ok_iconst (v := 1) (dq_of td_X7_course 75 rfl) (by decide) ?_
        refine ok_iload7 (dq_of td_X7_course 76 rfl) ?_
        refine ok_ishl (dq_of td_X7_course 77 rfl) ?_
        refine ok_goto (tgt := 143) (dq_of td_X7_course 78 rfl) (by decide) ?_
        refine ok_wk (wk_s (wk_s (wk_n (wk_n (wk_s (wk_s (wk_s (wk_s wk_0)))))))) ?_
        exact ob_X7_course_143 _  hK hH _ _ _ _ _ _  _
theorem ld_X7_course_77 {G : KW} {l : Launch} (x1 : Int32)  {K : Int32 → Sg → Option (Sg)} (hK : ∀ (x3 : Int32) (σ : Sg), Okk G l cX7_course 8 RX7 none (rmo 2 47) ccV 206 [some (k_rr G 100), some (.int x1), none, some (.int x3), none, none, none, none] [] σ (K x3 σ)) (n : Nat) (x3 : Int32) (x4 : Int32) (x5 : Int32) (σ : Sg) : Okk G l cX7_course 8 RX7 none (rmo 2 47) ccV 77 [some (k_rr G 100), some (.int x1), none, some (.int x3), some (.int x4), some (.int x5), none, none] [] σ (e_lp3 (d_X7_course_77 x1 K) n x3 x4 x5 σ) :=
  ok_lp3 (Lf := fun (x3 : Int32) (x4 : Int32) (x5 : Int32) => [some (k_rr G 100), some (.int x1), none, some (.int x3), some (.int x4), some (.int x5), none, none]) (fun _ hH x3 x4 x5 σ => od_X7_course_77 _  hK hH x3 x4 x5 σ) n x3 x4 x5 σ
theorem ob_X7_course_251 {G : KW} {l : Launch} (x1 : Int32)  {K : Sg → Option (Sg)} {H : Int32 → Int32 → Sg → Option (Sg)} (hK : ∀  (σ : Sg), Okk G l cX7_course 8 RX7 none (rmo 2 47) ccV 259 [none, none, none, none, none, none, none, none] [] σ (K  σ)) (hH : ∀ (x3 : Int32) (x5 : Int32) (σ : Sg), Okk G l cX7_course 8 RX7 none (rmo 2 47) ccV 209 [some (k_rr G 100), some (.int x1), none, some (.int x3), none, some (.int x5), none, none] [] σ (H x3 x5 σ)) (x3 : Int32) (x5 : Int32) (s0 : Int32) (s1 : Int32) (s2 : Int32) (s3 : Nat)  (σ : Sg) : Okk G l cX7_course 8 RX7 none (rmo 2 47) ccV 251 [some (k_rr G 100), some (.int x1), none, some (.int x3), none, some (.int x5), none, none] [.int s0, .int s1, .int s2, k_rr G s3] σ (b_X7_course_251 x1 K H x3 x5 s0 s1 s2 s3 σ) := by
  unfold b_X7_course_251
  refine ok_isub (dq_of td_X7_course 142 rfl) ?_
  refine ok_gd (fun hg19 => ?_)
  refine ok_iast (k_ar_of hg19) (dq_of td_X7_course 143 rfl) (fun σ18 => ?_)
  refine ok_jinc5 (w := 1) (dq_of td_X7_course 144 rfl) (by decide) rfl (by decide) ?_
  refine ok_goto (tgt := 209) (dq_of td_X7_course 145 rfl) (by decide) ?_
  refine ok_wk (wk_s (wk_s (wk_n (wk_s (wk_n (wk_s (wk_n (wk_n wk_0)))))))) ?_
  exact hH _ _ _
theorem ob_X7_course_250 {G : KW} {l : Launch} (x1 : Int32)  {K : Sg → Option (Sg)} {H : Int32 → Int32 → Sg → Option (Sg)} (hK : ∀  (σ : Sg), Okk G l cX7_course 8 RX7 none (rmo 2 47) ccV 259 [none, none, none, none, none, none, none, none] [] σ (K  σ)) (hH : ∀ (x3 : Int32) (x5 : Int32) (σ : Sg), Okk G l cX7_course 8 RX7 none (rmo 2 47) ccV 209 [some (k_rr G 100), some (.int x1), none, some (.int x3), none, some (.int x5), none, none] [] σ (H x3 x5 σ)) (x3 : Int32) (x5 : Int32) (s0 : Int32) (s1 : Int32) (s2 : Nat)  (σ : Sg) : Okk G l cX7_course 8 RX7 none (rmo 2 47) ccV 250 [some (k_rr G 100), some (.int x1), none, some (.int x3), none, some (.int x5), none, none] [.int s0, .int s1, k_rr G s2] σ (b_X7_course_250 x1 K H x3 x5 s0 s1 s2 σ) := by
  unfold b_X7_course_250
  refine ok_iconst (v := 0) (dq_of td_X7_course 141 rfl) (by decide) ?_
  refine ok_wk (wk_s (wk_s (wk_n (wk_s (wk_n (wk_s (wk_n (wk_n wk_0)))))))) ?_
  exact ob_X7_course_251 _  hK hH _ _ _ _ _ _  _
theorem od_X7_course_209 {G : KW} {l : Launch} (x1 : Int32)  {K : Sg → Option (Sg)} {H : Int32 → Int32 → Sg → Option (Sg)} (hK : ∀  (σ : Sg), Okk G l cX7_course 8 RX7 none (rmo 2 47) ccV 259 [none, none, none, none, none, none, none, none] [] σ (K  σ)) (hH : ∀ (x3 : Int32) (x5 : Int32) (σ : Sg), Okk G l cX7_course 8 RX7 none (rmo 2 47) ccV 209 [some (k_rr G 100), some (.int x1), none, some (.int x3), none, some (.int x5), none, none] [] σ (H x3 x5 σ)) (x3 : Int32) (x5 : Int32)  (σ : Sg) : Okk G l cX7_course 8 RX7 none (rmo 2 47) ccV 209 [some (k_rr G 100), some (.int x1), none, some (.int x3), none, some (.int x5), none, none] [] σ (d_X7_course_209 x1 K H x3 x5 σ) := by
  unfold d_X7_course_209
  refine ok_iload5 (dq_of td_X7_course 120 rfl) ?_
  refine ok_iconst (v := 5) (dq_of td_X7_course 121 rfl) (by decide) ?_
  refine ok_ic_ge (tgt := 259) (dq_of td_X7_course 122 rfl) (by decide) ?_ ?_
  · refine ok_wk (wk_n (wk_n (wk_n (wk_n (wk_n (wk_n (wk_n (wk_n wk_0)))))))) ?_
    exact hK _
  · refine ok_aload0 (dq_of td_X7_course 123 rfl) ?_
    refine ok_get (v := k_rr G 118) fl_X7_65 (by decide) ko_100 rfl (dq_of td_X7_course 124 rfl) ?_
    refine ok_iload5 (dq_of td_X7_course 125 rfl) ?_
    refine ok_dup2 (dq_of td_X7_course 126 rfl) rfl rfl ?_
    refine ok_iald ka_118 (dq_of td_X7_course 127 rfl) ?_
    refine ok_iload1 (dq_of td_X7_course 128 rfl) ?_
    refine ok_if_ne (tgt := 250) (dq_of td_X7_course 129 rfl) (by decide) ?_ ?_
    · refine ok_wk (wk_s (wk_s (wk_n (wk_s (wk_n (wk_s (wk_n (wk_n wk_0)))))))) ?_
      exact ob_X7_course_250 _  hK hH _ _ _ _ _  _
    · refine ok_iload3 (dq_of td_X7_course 130 rfl) ?_
      refine ok_iload5 (dq_of td_X7_course 131 rfl) ?_
      refine call_X7_has ml_X7_88  ⟨Nat.le_of_ble_eq_true rfl, Nat.le_of_ble_eq_true rfl⟩ ⟨Nat.zero_le _, Nat.zero_le _⟩ (Nat.le_of_ble_eq_true rfl) (dq_of td_X7_course 132 rfl) (fun r21 σ20 => ?_)
      refine ok_if_eq (tgt := 250) (dq_of td_X7_course 133 rfl) (by decide) ?_ ?_
      · refine ok_wk (wk_s (wk_s (wk_n (wk_s (wk_n (wk_s (wk_n (wk_n wk_0)))))))) ?_
        exact ob_X7_course_250 _  hK hH _ _ _ _ _  _
      · refine ok_aload0 (dq_of td_X7_course 134 rfl) ?_
        refine ok_get (v := k_rr G 118) fl_X7_65 (by decide) ko_100 rfl (dq_of td_X7_course 135 rfl) ?_
        refine ok_iload5 (dq_of td_X7_course 136 rfl) ?_
        refine ok_iald ka_118 (dq_of td_X7_course 137 rfl) ?_
        refine ok_if_le (tgt := 250) (dq_of td_X7_course 138 rfl) (by decide) ?_ ?_
        · refine ok_wk (wk_s (wk_s (wk_n (wk_s (wk_n (wk_s (wk_n (wk_n wk_0)))))))) ?_
          exact ob_X7_course_250 _  hK hH _ _ _ _ _  _
        · refine ok_iconst (v := 1) (dq_of td_X7_course 139 rfl) (by decide) ?_
          refine ok_goto (tgt := 251) (dq_of td_X7_course 140 rfl) (by decide) ?_
          refine ok_wk (wk_s (wk_s (wk_n (wk_s (wk_n (wk_s (wk_n (wk_n wk_0)))))))) ?_
          exact ob_X7_course_251 _  hK hH _ _ _ _ _ _  _
theorem ld_X7_course_209 {G : KW} {l : Launch} (x1 : Int32)  {K : Sg → Option (Sg)} (hK : ∀  (σ : Sg), Okk G l cX7_course 8 RX7 none (rmo 2 47) ccV 259 [none, none, none, none, none, none, none, none] [] σ (K  σ)) (n : Nat) (x3 : Int32) (x5 : Int32) (σ : Sg) : Okk G l cX7_course 8 RX7 none (rmo 2 47) ccV 209 [some (k_rr G 100), some (.int x1), none, some (.int x3), none, some (.int x5), none, none] [] σ (e_lp2 (d_X7_course_209 x1 K) n x3 x5 σ) :=
  ok_lp2 (Lf := fun (x3 : Int32) (x5 : Int32) => [some (k_rr G 100), some (.int x1), none, some (.int x3), none, some (.int x5), none, none]) (fun _ hH x3 x5 σ => od_X7_course_209 _  hK hH x3 x5 σ) n x3 x5 σ
def m_X7_course (x1 : Int32) (σ : Sg) : Option (Sg) := e_cI (m_X7_bits (σ 100 0) σ) (fun r2 σ1 => e_lp4 (d_X7_course_16 x1 (fun x3q8 x4q8 σ8 => e_lp3 (d_X7_course_77 x1 (fun x3q17 σ17 => e_lp2 (d_X7_course_209 x1 (fun σ22 => some σ22)) e_F x3q17 0 σ17)) e_F x3q8 x4q8 0 σ8)) e_F r2 0 0 0 σ1)
theorem om_X7_course {G : KW} {l : Launch} (x1 : Int32)  (σ : Sg) : Okk G l cX7_course 8 RX7 none (rmo 2 47) ccV 0 [some (k_rr G 100), some (.int x1), none, none, none, none, none, none] [] σ (m_X7_course x1 σ) := by
  unfold m_X7_course
  refine ok_aload0 (dq_of td_X7_course 0 rfl) ?_
  refine ok_get (v := .int (σ 100 0)) fl_X7_85 (by decide) ko_100 rfl (dq_of td_X7_course 1 rfl) ?_
  refine call_X7_bits ml_X7_99  ⟨Nat.le_of_ble_eq_true rfl, Nat.le_of_ble_eq_true rfl⟩ ⟨Nat.zero_le _, Nat.zero_le _⟩ (Nat.le_of_ble_eq_true rfl) (dq_of td_X7_course 2 rfl) (fun r2 σ1 => ?_)
  refine ok_istore2 (dq_of td_X7_course 3 rfl) rfl (by decide) ?_
  refine ok_iconst (v := 0) (dq_of td_X7_course 4 rfl) (by decide) ?_
  refine ok_istore3 (dq_of td_X7_course 5 rfl) rfl (by decide) ?_
  refine ok_iconst (v := 0) (dq_of td_X7_course 6 rfl) (by decide) ?_
  refine ok_istore4 (dq_of td_X7_course 7 rfl) rfl (by decide) ?_
  refine ok_iconst (v := 0) (dq_of td_X7_course 8 rfl) (by decide) ?_
  refine ok_istore5 (dq_of td_X7_course 9 rfl) rfl (by decide) ?_
  refine ok_wk (wk_s (wk_s (wk_s (wk_s (wk_s (wk_s (wk_n (wk_n wk_0)))))))) ?_
  refine ld_X7_course_16 _  (fun x3q8 x4q8 σ8 => ?_) _ _ _ _ _ _
  refine ok_iconst (v := 0) (dq_of td_X7_course 40 rfl) (by decide) ?_
  refine ok_istore5 (dq_of td_X7_course 41 rfl) rfl (by decide) ?_
  refine ok_wk (wk_s (wk_s (wk_n (wk_s (wk_s (wk_s (wk_n (wk_n wk_0)))))))) ?_
  refine ld_X7_course_77 _  (fun x3q17 σ17 => ?_) _ _ _ _ _
  refine ok_iconst (v := 0) (dq_of td_X7_course 118 rfl) (by decide) ?_
  refine ok_istore5 (dq_of td_X7_course 119 rfl) rfl (by decide) ?_
  refine ok_wk (wk_s (wk_s (wk_n (wk_s (wk_n (wk_s (wk_n (wk_n wk_0)))))))) ?_
  refine ld_X7_course_209 _  (fun σ22 => ?_) _ _ _ _
  exact ok_vret (dq_of td_X7_course 146 rfl)
theorem ct_X7_course {G : KW} {l : Launch} (x1 : Int32)  (σ : Sg) : ∀ b, m_X7_course x1 σ = some b → MetF G l yX7_course cX7_course 8 none 2 47 [k_rr G 100, .int x1] (k_wl G σ) (ccV b).1 (k_wl G (ccV b).2) :=
  met_of (by decide) (Nat.le_of_ble_eq_true rfl) rfl (om_X7_course _  σ)
theorem call_X7_course {G : KW} {l : Launch} {cc : ByteArray} {nL : Nat} {own : String} {rt : Option FieldType} {R : Room} {α : Type} {X : State → Array Value → Method → Prop} {Z : α → List Frame → Array Value → State → State → Prop} {k0 n0 pc index : Nat} {L : List (Option Value)} {S : List Value} {σ : Sg} {F : Sg → Option α} {x1 : Int32} (lk : MLk own index yX7_course)  (hR : R.frames ≥ 2 + 1 ∧ R.locals ≥ 8 + (8 + 11) + 47) (hcs : k0 ≤ R.cells ∧ n0 ≤ R.slots) (hro : (S.map fun v => v.category).sum ≤ 8) (d : decode cc pc = .ok (.invokevirtual index, 3)) (kk : ∀ σ' : Sg, Okg G l cc nL own rt R X Z k0 n0 (pc + 3) L S σ' (F σ')) : Okg G l cc nL own rt R X Z k0 n0 pc L (.int x1 :: k_rr G 100 :: S) σ (e_cV (m_X7_course x1 σ) F) :=
  ok_cV (cb := ccV) (As := [.int x1]) (ct_X7_course _  σ) mo_X7_course hi_X7_course lk rfl (ci := 7) rfl rfl (by decide) ko_100 hR rfl hcs hro d (fun b => kk b)
/-! CoatDinnerModel.whyNotLend(III)I -/
def m_X7_whyNotLend (x1 : Int32) (x2 : Int32) (x3 : Int32) (σ : Sg) : Option (Int32 × Sg) := e_cI (m_X7_isThere x1 σ) (fun r2 σ1 => (if r2 = 0 then some (1, σ1) else e_cI (m_X7_isThere x2 σ1) (fun r4 σ3 => (if r4 = 0 then some (1, σ3) else (if x1 = x2 then some (1, σ3) else e_gd (k_in x1 5) ((if (σ3 114 (Int32.toNatClampNeg x1)) = x3 then e_gd (k_in x2 5) ((if 5 ≤ (σ3 114 (Int32.toNatClampNeg x2)) then some (0, σ3) else some (3, σ3))) else some (2, σ3))))))))
theorem om_X7_whyNotLend {G : KW} {l : Launch} (x1 : Int32) (x2 : Int32) (x3 : Int32)  (σ : Sg) : Okk G l cX7_whyNotLend 4 RX7 (some .int) (rmo 2 43) ccI 0 [some (k_rr G 100), some (.int x1), some (.int x2), some (.int x3)] [] σ (m_X7_whyNotLend x1 x2 x3 σ) := by
  unfold m_X7_whyNotLend
  refine ok_aload0 (dq_of td_X7_whyNotLend 0 rfl) ?_
  refine ok_iload1 (dq_of td_X7_whyNotLend 1 rfl) ?_
  refine call_X7_isThere ml_X7_95  ⟨Nat.le_of_ble_eq_true rfl, Nat.le_of_ble_eq_true rfl⟩ ⟨Nat.zero_le _, Nat.zero_le _⟩ (Nat.le_of_ble_eq_true rfl) (dq_of td_X7_whyNotLend 2 rfl) (fun r2 σ1 => ?_)
  refine ok_if_eq (tgt := 21) (dq_of td_X7_whyNotLend 3 rfl) (by decide) ?_ ?_
  · refine ok_iconst (v := 1) (dq_of td_X7_whyNotLend 11 rfl) (by decide) ?_
    exact ok_iret (dq_of td_X7_whyNotLend 12 rfl)
  · refine ok_aload0 (dq_of td_X7_whyNotLend 4 rfl) ?_
    refine ok_iload2 (dq_of td_X7_whyNotLend 5 rfl) ?_
    refine call_X7_isThere ml_X7_95  ⟨Nat.le_of_ble_eq_true rfl, Nat.le_of_ble_eq_true rfl⟩ ⟨Nat.zero_le _, Nat.zero_le _⟩ (Nat.le_of_ble_eq_true rfl) (dq_of td_X7_whyNotLend 6 rfl) (fun r4 σ3 => ?_)
    refine ok_if_eq (tgt := 21) (dq_of td_X7_whyNotLend 7 rfl) (by decide) ?_ ?_
    · refine ok_iconst (v := 1) (dq_of td_X7_whyNotLend 11 rfl) (by decide) ?_
      exact ok_iret (dq_of td_X7_whyNotLend 12 rfl)
    · refine ok_iload1 (dq_of td_X7_whyNotLend 8 rfl) ?_
      refine ok_iload2 (dq_of td_X7_whyNotLend 9 rfl) ?_
      refine ok_ic_ne (tgt := 23) (dq_of td_X7_whyNotLend 10 rfl) (by decide) ?_ ?_
      · refine ok_aload0 (dq_of td_X7_whyNotLend 13 rfl) ?_
        refine ok_get (v := k_rr G 114) fl_X7_53 (by decide) ko_100 rfl (dq_of td_X7_whyNotLend 14 rfl) ?_
        refine ok_iload1 (dq_of td_X7_whyNotLend 15 rfl) ?_
        refine ok_iald ka_114 (dq_of td_X7_whyNotLend 16 rfl) ?_
        refine ok_iload3 (dq_of td_X7_whyNotLend 17 rfl) ?_
        refine ok_ic_eq (tgt := 37) (dq_of td_X7_whyNotLend 18 rfl) (by decide) ?_ ?_
        · refine ok_aload0 (dq_of td_X7_whyNotLend 21 rfl) ?_
          refine ok_get (v := k_rr G 114) fl_X7_53 (by decide) ko_100 rfl (dq_of td_X7_whyNotLend 22 rfl) ?_
          refine ok_iload2 (dq_of td_X7_whyNotLend 23 rfl) ?_
          refine ok_iald ka_114 (dq_of td_X7_whyNotLend 24 rfl) ?_
          refine ok_iconst (v := 5) (dq_of td_X7_whyNotLend 25 rfl) (by decide) ?_
          refine ok_ic_ge (tgt := 51) (dq_of td_X7_whyNotLend 26 rfl) (by decide) ?_ ?_
          · refine ok_iconst (v := 0) (dq_of td_X7_whyNotLend 29 rfl) (by decide) ?_
            exact ok_iret (dq_of td_X7_whyNotLend 30 rfl)
          · refine ok_iconst (v := 3) (dq_of td_X7_whyNotLend 27 rfl) (by decide) ?_
            refine ok_goto (tgt := 52) (dq_of td_X7_whyNotLend 28 rfl) (by decide) ?_
            exact ok_iret (dq_of td_X7_whyNotLend 30 rfl)
        · refine ok_iconst (v := 2) (dq_of td_X7_whyNotLend 19 rfl) (by decide) ?_
          refine ok_goto (tgt := 52) (dq_of td_X7_whyNotLend 20 rfl) (by decide) ?_
          exact ok_iret (dq_of td_X7_whyNotLend 30 rfl)
      · refine ok_iconst (v := 1) (dq_of td_X7_whyNotLend 11 rfl) (by decide) ?_
        exact ok_iret (dq_of td_X7_whyNotLend 12 rfl)
theorem ct_X7_whyNotLend {G : KW} {l : Launch} (x1 : Int32) (x2 : Int32) (x3 : Int32)  (σ : Sg) : ∀ b, m_X7_whyNotLend x1 x2 x3 σ = some b → MetF G l yX7_whyNotLend cX7_whyNotLend 4 (some .int) 2 43 [k_rr G 100, .int x1, .int x2, .int x3] (k_wl G σ) (ccI b).1 (k_wl G (ccI b).2) :=
  met_of (by decide) (Nat.le_of_ble_eq_true rfl) rfl (om_X7_whyNotLend _ _ _  σ)
theorem call_X7_whyNotLend {G : KW} {l : Launch} {cc : ByteArray} {nL : Nat} {own : String} {rt : Option FieldType} {R : Room} {α : Type} {X : State → Array Value → Method → Prop} {Z : α → List Frame → Array Value → State → State → Prop} {k0 n0 pc index : Nat} {L : List (Option Value)} {S : List Value} {σ : Sg} {F : Int32 → Sg → Option α} {x1 : Int32} {x2 : Int32} {x3 : Int32} (lk : MLk own index yX7_whyNotLend)  (hR : R.frames ≥ 2 + 1 ∧ R.locals ≥ 8 + (4 + 11) + 43) (hcs : k0 ≤ R.cells ∧ n0 ≤ R.slots) (hro : (S.map fun v => v.category).sum ≤ 8) (d : decode cc pc = .ok (.invokevirtual index, 3)) (kk : ∀ (r : Int32) (σ' : Sg), Okg G l cc nL own rt R X Z k0 n0 (pc + 3) L (.int r :: S) σ' (F r σ')) : Okg G l cc nL own rt R X Z k0 n0 pc L (.int x3 :: .int x2 :: .int x1 :: k_rr G 100 :: S) σ (e_cI (m_X7_whyNotLend x1 x2 x3 σ) F) :=
  ok_cV (cb := ccI) (As := [.int x1, .int x2, .int x3]) (ct_X7_whyNotLend _ _ _  σ) mo_X7_whyNotLend hi_X7_whyNotLend lk rfl (ci := 7) rfl rfl (by decide) ko_100 hR rfl hcs hro d (fun b => kk b.1 b.2)
/-! CoatDinnerModel.whyNotPut(II)I -/
def m_X7_whyNotPut (x1 : Int32) (x2 : Int32) (σ : Sg) : Option (Int32 × Sg) := e_cI (m_X7_isThere x1 σ) (fun r2 σ1 => (if r2 = 0 then some (1, σ1) else e_gd (k_in x1 5) ((if 5 ≤ (σ1 114 (Int32.toNatClampNeg x1)) then e_cI (m_X7_isCoat x2 σ1) (fun r4 σ3 => (if r4 = 0 then some (4, σ3) else e_gd (k_in x2 5) ((if (σ3 102 (Int32.toNatClampNeg x2)) = x1 then e_cI (m_X7_many x2 σ3) (fun r6 σ5 => e_gd (k_in x2 5) ((if r6 ≤ (σ5 105 (Int32.toNatClampNeg x2)) then some (0, σ5) else some (5, σ5)))) else some (4, σ3))))) else some (3, σ1)))))
theorem om_X7_whyNotPut {G : KW} {l : Launch} (x1 : Int32) (x2 : Int32)  (σ : Sg) : Okk G l cX7_whyNotPut 3 RX7 (some .int) (rmo 2 44) ccI 0 [some (k_rr G 100), some (.int x1), some (.int x2)] [] σ (m_X7_whyNotPut x1 x2 σ) := by
  unfold m_X7_whyNotPut
  refine ok_aload0 (dq_of td_X7_whyNotPut 0 rfl) ?_
  refine ok_iload1 (dq_of td_X7_whyNotPut 1 rfl) ?_
  refine call_X7_isThere ml_X7_95  ⟨Nat.le_of_ble_eq_true rfl, Nat.le_of_ble_eq_true rfl⟩ ⟨Nat.zero_le _, Nat.zero_le _⟩ (Nat.le_of_ble_eq_true rfl) (dq_of td_X7_whyNotPut 2 rfl) (fun r2 σ1 => ?_)
  refine ok_if_ne (tgt := 10) (dq_of td_X7_whyNotPut 3 rfl) (by decide) ?_ ?_
  · refine ok_aload0 (dq_of td_X7_whyNotPut 6 rfl) ?_
    refine ok_get (v := k_rr G 114) fl_X7_53 (by decide) ko_100 rfl (dq_of td_X7_whyNotPut 7 rfl) ?_
    refine ok_iload1 (dq_of td_X7_whyNotPut 8 rfl) ?_
    refine ok_iald ka_114 (dq_of td_X7_whyNotPut 9 rfl) ?_
    refine ok_iconst (v := 5) (dq_of td_X7_whyNotPut 10 rfl) (by decide) ?_
    refine ok_ic_ge (tgt := 22) (dq_of td_X7_whyNotPut 11 rfl) (by decide) ?_ ?_
    · refine ok_aload0 (dq_of td_X7_whyNotPut 14 rfl) ?_
      refine ok_iload2 (dq_of td_X7_whyNotPut 15 rfl) ?_
      refine call_X7_isCoat ml_X7_107  ⟨Nat.le_of_ble_eq_true rfl, Nat.le_of_ble_eq_true rfl⟩ ⟨Nat.zero_le _, Nat.zero_le _⟩ (Nat.le_of_ble_eq_true rfl) (dq_of td_X7_whyNotPut 16 rfl) (fun r4 σ3 => ?_)
      refine ok_if_eq (tgt := 40) (dq_of td_X7_whyNotPut 17 rfl) (by decide) ?_ ?_
      · refine ok_iconst (v := 4) (dq_of td_X7_whyNotPut 24 rfl) (by decide) ?_
        exact ok_iret (dq_of td_X7_whyNotPut 25 rfl)
      · refine ok_aload0 (dq_of td_X7_whyNotPut 18 rfl) ?_
        refine ok_get (v := k_rr G 102) fl_X7_13 (by decide) ko_100 rfl (dq_of td_X7_whyNotPut 19 rfl) ?_
        refine ok_iload2 (dq_of td_X7_whyNotPut 20 rfl) ?_
        refine ok_iald ka_102 (dq_of td_X7_whyNotPut 21 rfl) ?_
        refine ok_iload1 (dq_of td_X7_whyNotPut 22 rfl) ?_
        refine ok_ic_eq (tgt := 42) (dq_of td_X7_whyNotPut 23 rfl) (by decide) ?_ ?_
        · refine ok_aload0 (dq_of td_X7_whyNotPut 26 rfl) ?_
          refine ok_iload2 (dq_of td_X7_whyNotPut 27 rfl) ?_
          refine call_X7_many ml_X7_129  ⟨Nat.le_of_ble_eq_true rfl, Nat.le_of_ble_eq_true rfl⟩ ⟨Nat.zero_le _, Nat.zero_le _⟩ (Nat.le_of_ble_eq_true rfl) (dq_of td_X7_whyNotPut 28 rfl) (fun r6 σ5 => ?_)
          refine ok_aload0 (dq_of td_X7_whyNotPut 29 rfl) ?_
          refine ok_get (v := k_rr G 105) fl_X7_22 (by decide) ko_100 rfl (dq_of td_X7_whyNotPut 30 rfl) ?_
          refine ok_iload2 (dq_of td_X7_whyNotPut 31 rfl) ?_
          refine ok_iald ka_105 (dq_of td_X7_whyNotPut 32 rfl) ?_
          refine ok_ic_le (tgt := 60) (dq_of td_X7_whyNotPut 33 rfl) (by decide) ?_ ?_
          · refine ok_iconst (v := 0) (dq_of td_X7_whyNotPut 36 rfl) (by decide) ?_
            exact ok_iret (dq_of td_X7_whyNotPut 37 rfl)
          · refine ok_iconst (v := 5) (dq_of td_X7_whyNotPut 34 rfl) (by decide) ?_
            refine ok_goto (tgt := 61) (dq_of td_X7_whyNotPut 35 rfl) (by decide) ?_
            exact ok_iret (dq_of td_X7_whyNotPut 37 rfl)
        · refine ok_iconst (v := 4) (dq_of td_X7_whyNotPut 24 rfl) (by decide) ?_
          exact ok_iret (dq_of td_X7_whyNotPut 25 rfl)
    · refine ok_iconst (v := 3) (dq_of td_X7_whyNotPut 12 rfl) (by decide) ?_
      exact ok_iret (dq_of td_X7_whyNotPut 13 rfl)
  · refine ok_iconst (v := 1) (dq_of td_X7_whyNotPut 4 rfl) (by decide) ?_
    exact ok_iret (dq_of td_X7_whyNotPut 5 rfl)
theorem ct_X7_whyNotPut {G : KW} {l : Launch} (x1 : Int32) (x2 : Int32)  (σ : Sg) : ∀ b, m_X7_whyNotPut x1 x2 σ = some b → MetF G l yX7_whyNotPut cX7_whyNotPut 3 (some .int) 2 44 [k_rr G 100, .int x1, .int x2] (k_wl G σ) (ccI b).1 (k_wl G (ccI b).2) :=
  met_of (by decide) (Nat.le_of_ble_eq_true rfl) rfl (om_X7_whyNotPut _ _  σ)
theorem call_X7_whyNotPut {G : KW} {l : Launch} {cc : ByteArray} {nL : Nat} {own : String} {rt : Option FieldType} {R : Room} {α : Type} {X : State → Array Value → Method → Prop} {Z : α → List Frame → Array Value → State → State → Prop} {k0 n0 pc index : Nat} {L : List (Option Value)} {S : List Value} {σ : Sg} {F : Int32 → Sg → Option α} {x1 : Int32} {x2 : Int32} (lk : MLk own index yX7_whyNotPut)  (hR : R.frames ≥ 2 + 1 ∧ R.locals ≥ 8 + (3 + 11) + 44) (hcs : k0 ≤ R.cells ∧ n0 ≤ R.slots) (hro : (S.map fun v => v.category).sum ≤ 8) (d : decode cc pc = .ok (.invokevirtual index, 3)) (kk : ∀ (r : Int32) (σ' : Sg), Okg G l cc nL own rt R X Z k0 n0 (pc + 3) L (.int r :: S) σ' (F r σ')) : Okg G l cc nL own rt R X Z k0 n0 pc L (.int x2 :: .int x1 :: k_rr G 100 :: S) σ (e_cI (m_X7_whyNotPut x1 x2 σ) F) :=
  ok_cV (cb := ccI) (As := [.int x1, .int x2]) (ct_X7_whyNotPut _ _  σ) mo_X7_whyNotPut hi_X7_whyNotPut lk rfl (ci := 7) rfl rfl (by decide) ko_100 hR rfl hcs hro d (fun b => kk b.1 b.2)
/-! CoatDinnerModel.goFeast()I -/
def b_X7_goFeast_258  (K : Sg → Option (Int32 × Sg)) (H : Int32 → Sg → Option (Int32 × Sg)) (x1 : Int32) (σ : Sg) : Option (Int32 × Sg) := (if (σ 100 24) ≤ 0 then e_lt (k_up σ 100 25 ((σ 100 25) + 1)) (fun σ6 => H x1 σ6) else some (σ 100 25, σ))
def b_X7_goFeast_55  (K : Sg → Option (Int32 × Sg)) (H : Int32 → Sg → Option (Int32 × Sg)) (x1 : Int32) (s0 : Int32) (σ : Sg) : Option (Int32 × Sg) := e_cV (m_X7_course s0 σ) (fun σ5 => b_X7_goFeast_258  K H (x1 + 1) σ5)
def b_X7_goFeast_43  (K : Sg → Option (Int32 × Sg)) (H : Int32 → Sg → Option (Int32 × Sg)) (x1 : Int32) (x2 : Int32) (σ : Sg) : Option (Int32 × Sg) := (if x2 = 42 then b_X7_goFeast_55  K H x1 1 σ else b_X7_goFeast_55  K H x1 0 σ)
def b_X7_goFeast_255  (K : Sg → Option (Int32 × Sg)) (H : Int32 → Sg → Option (Int32 × Sg)) (x1 : Int32) (σ : Sg) : Option (Int32 × Sg) := b_X7_goFeast_258  K H (x1 + 3) σ
def b_X7_goFeast_193  (K : Sg → Option (Int32 × Sg)) (H : Int32 → Sg → Option (Int32 × Sg)) (x1 : Int32) (s0 : Int32) (s1 : Int32) (s2 : Nat) (σ : Sg) : Option (Int32 × Sg) := e_gd (k_ar s2) (e_wr σ s2 s1 (k_ln s2) s0 (fun σ18 => b_X7_goFeast_258  K H (x1 + 2) σ18))
def b_X7_goFeast_139  (K : Sg → Option (Int32 × Sg)) (H : Int32 → Sg → Option (Int32 × Sg)) (x1 : Int32) (s0 : Int32) (s1 : Int32) (s2 : Nat) (σ : Sg) : Option (Int32 × Sg) := e_gd (k_ar s2) (e_wr σ s2 s1 (k_ln s2) s0 (fun σ23 => b_X7_goFeast_258  K H (x1 + 2) σ23))
def b_X7_goFeast_114  (K : Sg → Option (Int32 × Sg)) (H : Int32 → Sg → Option (Int32 × Sg)) (x1 : Int32) (x3 : Int32) (s0 : Int32) (σ : Sg) : Option (Int32 × Sg) := e_lt (k_up σ 100 24 s0) (fun σ22 => (if (σ22 100 24) = 0 then b_X7_goFeast_139  K H x1 5 x3 114 σ22 else e_gd (k_in x3 5) (b_X7_goFeast_139  K H x1 (σ22 114 (Int32.toNatClampNeg x3)) x3 114 σ22)))
def d_X7_goFeast_11  (K : Sg → Option (Int32 × Sg)) (H : Int32 → Sg → Option (Int32 × Sg)) (x1 : Int32) (σ : Sg) : Option (Int32 × Sg) := (if (σ 100 16) ≤ x1 then K σ else e_gd (k_in x1 60) (e_lt (σ 113 (Int32.toNatClampNeg x1)) (fun v3 => e_lt (k_up σ 100 24 0) (fun σ4 => (if v3 = 46 then b_X7_goFeast_43  K H x1 v3 σ4 else (if v3 = 42 then b_X7_goFeast_43  K H x1 v3 σ4 else e_lt (v3 - 65) (fun v7 => e_gd (k_in (x1 + 1) 60) (e_lt (σ4 113 (Int32.toNatClampNeg (x1 + 1))) (fun v8 => (if v8 = 45 then e_cI (m_X7_isThere v7 σ4) (fun r21 σ20 => (if r21 = 0 then b_X7_goFeast_114  K H x1 v7 1 σ20 else e_gd (k_in v7 5) ((if (σ20 114 (Int32.toNatClampNeg v7)) = 5 then b_X7_goFeast_114  K H x1 v7 2 σ20 else b_X7_goFeast_114  K H x1 v7 0 σ20)))) else (if v8 < 97 then e_gd (k_in (x1 + 2) 60) (e_lt ((σ4 113 (Int32.toNatClampNeg (x1 + 2))) - 97) (fun v9 => e_cI (m_X7_whyNotLend v7 (v8 - 65) v9 σ4) (fun r11 σ10 => e_lt (k_up σ10 100 24 r11) (fun σ12 => (if (σ12 100 24) = 0 then e_wr σ12 114 v7 5 5 (fun σ13 => e_wr σ13 114 (v8 - 65) 5 v9 (fun σ14 => b_X7_goFeast_255  K H x1 σ14)) else b_X7_goFeast_255  K H x1 σ12))))) else e_cI (m_X7_whyNotPut v7 (v8 - 97) σ4) (fun r16 σ15 => e_lt (k_up σ15 100 24 r16) (fun σ17 => (if (σ17 100 24) = 0 then b_X7_goFeast_193  K H x1 (v8 - 97) v7 114 σ17 else e_gd (k_in v7 5) (b_X7_goFeast_193  K H x1 (σ17 114 (Int32.toNatClampNeg v7)) v7 114 σ17)))))))))))))))
theorem ob_X7_goFeast_258 {G : KW} {l : Launch}   {K : Sg → Option (Int32 × Sg)} {H : Int32 → Sg → Option (Int32 × Sg)} (hK : ∀  (σ : Sg), Okk G l cX7_goFeast 6 RX7 (some .int) (rmo 3 74) ccI 283 [none, none, none, none, none, none] [] σ (K  σ)) (hH : ∀ (x1 : Int32) (σ : Sg), Okk G l cX7_goFeast 6 RX7 (some .int) (rmo 3 74) ccI 11 [some (k_rr G 100), some (.int x1), none, none, none, none] [] σ (H x1 σ)) (x1 : Int32)  (σ : Sg) : Okk G l cX7_goFeast 6 RX7 (some .int) (rmo 3 74) ccI 258 [some (k_rr G 100), some (.int x1), none, none, none, none] [] σ (b_X7_goFeast_258  K H x1 σ) := by
  unfold b_X7_goFeast_258
  refine ok_aload0 (dq_of td_X7_goFeast 143 rfl) ?_
  refine ok_get (v := .int (σ 100 24)) fl_X7_138 (by decide) ko_100 rfl (dq_of td_X7_goFeast 144 rfl) ?_
  refine ok_if_le (tgt := 270) (dq_of td_X7_goFeast 145 rfl) (by decide) ?_ ?_
  · refine ok_aload0 (dq_of td_X7_goFeast 149 rfl) ?_
    refine ok_dup (dq_of td_X7_goFeast 150 rfl) rfl ?_
    refine ok_get (v := .int (σ 100 25)) fl_X7_135 (by decide) ko_100 rfl (dq_of td_X7_goFeast 151 rfl) ?_
    refine ok_iconst (v := 1) (dq_of td_X7_goFeast 152 rfl) (by decide) ?_
    refine ok_iadd (dq_of td_X7_goFeast 153 rfl) ?_
    refine put_7_25 fl_X7_135 ko_100 (dq_of td_X7_goFeast 154 rfl) (fun σ6 => ?_)
    refine ok_goto (tgt := 11) (dq_of td_X7_goFeast 155 rfl) (by decide) ?_
    refine ok_wk (wk_s (wk_s (wk_n (wk_n (wk_n (wk_n wk_0)))))) ?_
    exact hH _ _
  · refine ok_aload0 (dq_of td_X7_goFeast 146 rfl) ?_
    refine ok_get (v := .int (σ 100 25)) fl_X7_135 (by decide) ko_100 rfl (dq_of td_X7_goFeast 147 rfl) ?_
    exact ok_iret (dq_of td_X7_goFeast 148 rfl)
theorem ob_X7_goFeast_55 {G : KW} {l : Launch}   {K : Sg → Option (Int32 × Sg)} {H : Int32 → Sg → Option (Int32 × Sg)} (hK : ∀  (σ : Sg), Okk G l cX7_goFeast 6 RX7 (some .int) (rmo 3 74) ccI 283 [none, none, none, none, none, none] [] σ (K  σ)) (hH : ∀ (x1 : Int32) (σ : Sg), Okk G l cX7_goFeast 6 RX7 (some .int) (rmo 3 74) ccI 11 [some (k_rr G 100), some (.int x1), none, none, none, none] [] σ (H x1 σ)) (x1 : Int32) (s0 : Int32)  (σ : Sg) : Okk G l cX7_goFeast 6 RX7 (some .int) (rmo 3 74) ccI 55 [some (k_rr G 100), some (.int x1), none, none, none, none] [.int s0, k_rr G 100] σ (b_X7_goFeast_55  K H x1 s0 σ) := by
  unfold b_X7_goFeast_55
  refine call_X7_course ml_X7_141  ⟨Nat.le_of_ble_eq_true rfl, Nat.le_of_ble_eq_true rfl⟩ ⟨Nat.zero_le _, Nat.zero_le _⟩ (Nat.le_of_ble_eq_true rfl) (dq_of td_X7_goFeast 32 rfl) (fun σ5 => ?_)
  refine ok_jinc1 (w := 1) (dq_of td_X7_goFeast 33 rfl) (by decide) rfl (by decide) ?_
  refine ok_goto (tgt := 258) (dq_of td_X7_goFeast 34 rfl) (by decide) ?_
  refine ok_wk (wk_s (wk_s (wk_n (wk_n (wk_n (wk_n wk_0)))))) ?_
  exact ob_X7_goFeast_258   hK hH _  _
theorem ob_X7_goFeast_43 {G : KW} {l : Launch}   {K : Sg → Option (Int32 × Sg)} {H : Int32 → Sg → Option (Int32 × Sg)} (hK : ∀  (σ : Sg), Okk G l cX7_goFeast 6 RX7 (some .int) (rmo 3 74) ccI 283 [none, none, none, none, none, none] [] σ (K  σ)) (hH : ∀ (x1 : Int32) (σ : Sg), Okk G l cX7_goFeast 6 RX7 (some .int) (rmo 3 74) ccI 11 [some (k_rr G 100), some (.int x1), none, none, none, none] [] σ (H x1 σ)) (x1 : Int32) (x2 : Int32)  (σ : Sg) : Okk G l cX7_goFeast 6 RX7 (some .int) (rmo 3 74) ccI 43 [some (k_rr G 100), some (.int x1), some (.int x2), none, none, none] [] σ (b_X7_goFeast_43  K H x1 x2 σ) := by
  unfold b_X7_goFeast_43
  refine ok_aload0 (dq_of td_X7_goFeast 25 rfl) ?_
  refine ok_iload2 (dq_of td_X7_goFeast 26 rfl) ?_
  refine ok_bipush (v := 42) (dq_of td_X7_goFeast 27 rfl) (by decide) ?_
  refine ok_ic_ne (tgt := 54) (dq_of td_X7_goFeast 28 rfl) (by decide) ?_ ?_
  · refine ok_iconst (v := 0) (dq_of td_X7_goFeast 31 rfl) (by decide) ?_
    refine ok_wk (wk_s (wk_s (wk_n (wk_n (wk_n (wk_n wk_0)))))) ?_
    exact ob_X7_goFeast_55   hK hH _ _  _
  · refine ok_iconst (v := 1) (dq_of td_X7_goFeast 29 rfl) (by decide) ?_
    refine ok_goto (tgt := 55) (dq_of td_X7_goFeast 30 rfl) (by decide) ?_
    refine ok_wk (wk_s (wk_s (wk_n (wk_n (wk_n (wk_n wk_0)))))) ?_
    exact ob_X7_goFeast_55   hK hH _ _  _
theorem ob_X7_goFeast_255 {G : KW} {l : Launch}   {K : Sg → Option (Int32 × Sg)} {H : Int32 → Sg → Option (Int32 × Sg)} (hK : ∀  (σ : Sg), Okk G l cX7_goFeast 6 RX7 (some .int) (rmo 3 74) ccI 283 [none, none, none, none, none, none] [] σ (K  σ)) (hH : ∀ (x1 : Int32) (σ : Sg), Okk G l cX7_goFeast 6 RX7 (some .int) (rmo 3 74) ccI 11 [some (k_rr G 100), some (.int x1), none, none, none, none] [] σ (H x1 σ)) (x1 : Int32)  (σ : Sg) : Okk G l cX7_goFeast 6 RX7 (some .int) (rmo 3 74) ccI 255 [some (k_rr G 100), some (.int x1), none, none, none, none] [] σ (b_X7_goFeast_255  K H x1 σ) := by
  unfold b_X7_goFeast_255
  refine ok_jinc1 (w := 3) (dq_of td_X7_goFeast 142 rfl) (by decide) rfl (by decide) ?_
  refine ok_wk (wk_s (wk_s (wk_n (wk_n (wk_n (wk_n wk_0)))))) ?_
  exact ob_X7_goFeast_258   hK hH _  _
theorem ob_X7_goFeast_193 {G : KW} {l : Launch}   {K : Sg → Option (Int32 × Sg)} {H : Int32 → Sg → Option (Int32 × Sg)} (hK : ∀  (σ : Sg), Okk G l cX7_goFeast 6 RX7 (some .int) (rmo 3 74) ccI 283 [none, none, none, none, none, none] [] σ (K  σ)) (hH : ∀ (x1 : Int32) (σ : Sg), Okk G l cX7_goFeast 6 RX7 (some .int) (rmo 3 74) ccI 11 [some (k_rr G 100), some (.int x1), none, none, none, none] [] σ (H x1 σ)) (x1 : Int32) (s0 : Int32) (s1 : Int32) (s2 : Nat)  (σ : Sg) : Okk G l cX7_goFeast 6 RX7 (some .int) (rmo 3 74) ccI 193 [some (k_rr G 100), some (.int x1), none, none, none, none] [.int s0, .int s1, k_rr G s2] σ (b_X7_goFeast_193  K H x1 s0 s1 s2 σ) := by
  unfold b_X7_goFeast_193
  refine ok_gd (fun hg19 => ?_)
  refine ok_iast (k_ar_of hg19) (dq_of td_X7_goFeast 106 rfl) (fun σ18 => ?_)
  refine ok_jinc1 (w := 2) (dq_of td_X7_goFeast 107 rfl) (by decide) rfl (by decide) ?_
  refine ok_goto (tgt := 258) (dq_of td_X7_goFeast 108 rfl) (by decide) ?_
  refine ok_wk (wk_s (wk_s (wk_n (wk_n (wk_n (wk_n wk_0)))))) ?_
  exact ob_X7_goFeast_258   hK hH _  _
theorem ob_X7_goFeast_139 {G : KW} {l : Launch}   {K : Sg → Option (Int32 × Sg)} {H : Int32 → Sg → Option (Int32 × Sg)} (hK : ∀  (σ : Sg), Okk G l cX7_goFeast 6 RX7 (some .int) (rmo 3 74) ccI 283 [none, none, none, none, none, none] [] σ (K  σ)) (hH : ∀ (x1 : Int32) (σ : Sg), Okk G l cX7_goFeast 6 RX7 (some .int) (rmo 3 74) ccI 11 [some (k_rr G 100), some (.int x1), none, none, none, none] [] σ (H x1 σ)) (x1 : Int32) (s0 : Int32) (s1 : Int32) (s2 : Nat)  (σ : Sg) : Okk G l cX7_goFeast 6 RX7 (some .int) (rmo 3 74) ccI 139 [some (k_rr G 100), some (.int x1), none, none, none, none] [.int s0, .int s1, k_rr G s2] σ (b_X7_goFeast_139  K H x1 s0 s1 s2 σ) := by
  unfold b_X7_goFeast_139
  refine ok_gd (fun hg24 => ?_)
  refine ok_iast (k_ar_of hg24) (dq_of td_X7_goFeast 78 rfl) (fun σ23 => ?_)
  refine ok_jinc1 (w := 2) (dq_of td_X7_goFeast 79 rfl) (by decide) rfl (by decide) ?_
  refine ok_goto (tgt := 258) (dq_of td_X7_goFeast 80 rfl) (by decide) ?_
  refine ok_wk (wk_s (wk_s (wk_n (wk_n (wk_n (wk_n wk_0)))))) ?_
  exact ob_X7_goFeast_258   hK hH _  _
theorem ob_X7_goFeast_114 {G : KW} {l : Launch}   {K : Sg → Option (Int32 × Sg)} {H : Int32 → Sg → Option (Int32 × Sg)} (hK : ∀  (σ : Sg), Okk G l cX7_goFeast 6 RX7 (some .int) (rmo 3 74) ccI 283 [none, none, none, none, none, none] [] σ (K  σ)) (hH : ∀ (x1 : Int32) (σ : Sg), Okk G l cX7_goFeast 6 RX7 (some .int) (rmo 3 74) ccI 11 [some (k_rr G 100), some (.int x1), none, none, none, none] [] σ (H x1 σ)) (x1 : Int32) (x3 : Int32) (s0 : Int32)  (σ : Sg) : Okk G l cX7_goFeast 6 RX7 (some .int) (rmo 3 74) ccI 114 [some (k_rr G 100), some (.int x1), none, some (.int x3), none, none] [.int s0, k_rr G 100] σ (b_X7_goFeast_114  K H x1 x3 s0 σ) := by
  unfold b_X7_goFeast_114
  refine put_7_24 fl_X7_138 ko_100 (dq_of td_X7_goFeast 65 rfl) (fun σ22 => ?_)
  refine ok_aload0 (dq_of td_X7_goFeast 66 rfl) ?_
  refine ok_get (v := k_rr G 114) fl_X7_53 (by decide) ko_100 rfl (dq_of td_X7_goFeast 67 rfl) ?_
  refine ok_iload3 (dq_of td_X7_goFeast 68 rfl) ?_
  refine ok_aload0 (dq_of td_X7_goFeast 69 rfl) ?_
  refine ok_get (v := .int (σ22 100 24)) fl_X7_138 (by decide) ko_100 rfl (dq_of td_X7_goFeast 70 rfl) ?_
  refine ok_if_ne (tgt := 133) (dq_of td_X7_goFeast 71 rfl) (by decide) ?_ ?_
  · refine ok_aload0 (dq_of td_X7_goFeast 74 rfl) ?_
    refine ok_get (v := k_rr G 114) fl_X7_53 (by decide) ko_100 rfl (dq_of td_X7_goFeast 75 rfl) ?_
    refine ok_iload3 (dq_of td_X7_goFeast 76 rfl) ?_
    refine ok_iald ka_114 (dq_of td_X7_goFeast 77 rfl) ?_
    refine ok_wk (wk_s (wk_s (wk_n (wk_n (wk_n (wk_n wk_0)))))) ?_
    exact ob_X7_goFeast_139   hK hH _ _ _ _  _
  · refine ok_iconst (v := 5) (dq_of td_X7_goFeast 72 rfl) (by decide) ?_
    refine ok_goto (tgt := 139) (dq_of td_X7_goFeast 73 rfl) (by decide) ?_
    refine ok_wk (wk_s (wk_s (wk_n (wk_n (wk_n (wk_n wk_0)))))) ?_
    exact ob_X7_goFeast_139   hK hH _ _ _ _  _
theorem od_X7_goFeast_11 {G : KW} {l : Launch}   {K : Sg → Option (Int32 × Sg)} {H : Int32 → Sg → Option (Int32 × Sg)} (hK : ∀  (σ : Sg), Okk G l cX7_goFeast 6 RX7 (some .int) (rmo 3 74) ccI 283 [none, none, none, none, none, none] [] σ (K  σ)) (hH : ∀ (x1 : Int32) (σ : Sg), Okk G l cX7_goFeast 6 RX7 (some .int) (rmo 3 74) ccI 11 [some (k_rr G 100), some (.int x1), none, none, none, none] [] σ (H x1 σ)) (x1 : Int32)  (σ : Sg) : Okk G l cX7_goFeast 6 RX7 (some .int) (rmo 3 74) ccI 11 [some (k_rr G 100), some (.int x1), none, none, none, none] [] σ (d_X7_goFeast_11  K H x1 σ) := by
  unfold d_X7_goFeast_11
  refine ok_iload1 (dq_of td_X7_goFeast 7 rfl) ?_
  refine ok_aload0 (dq_of td_X7_goFeast 8 rfl) ?_
  refine ok_get (v := .int (σ 100 16)) fl_X7_113 (by decide) ko_100 rfl (dq_of td_X7_goFeast 9 rfl) ?_
  refine ok_ic_ge (tgt := 283) (dq_of td_X7_goFeast 10 rfl) (by decide) ?_ ?_
  · refine ok_wk (wk_n (wk_n (wk_n (wk_n (wk_n (wk_n wk_0)))))) ?_
    exact hK _
  · refine ok_aload0 (dq_of td_X7_goFeast 11 rfl) ?_
    refine ok_get (v := k_rr G 113) fl_X7_50 (by decide) ko_100 rfl (dq_of td_X7_goFeast 12 rfl) ?_
    refine ok_iload1 (dq_of td_X7_goFeast 13 rfl) ?_
    refine ok_iald ka_113 (dq_of td_X7_goFeast 14 rfl) ?_
    refine ok_gI (fun v3 => ?_)
    refine ok_istore2 (dq_of td_X7_goFeast 15 rfl) rfl (by decide) ?_
    refine ok_aload0 (dq_of td_X7_goFeast 16 rfl) ?_
    refine ok_iconst (v := 0) (dq_of td_X7_goFeast 17 rfl) (by decide) ?_
    refine put_7_24 fl_X7_138 ko_100 (dq_of td_X7_goFeast 18 rfl) (fun σ4 => ?_)
    refine ok_iload2 (dq_of td_X7_goFeast 19 rfl) ?_
    refine ok_bipush (v := 46) (dq_of td_X7_goFeast 20 rfl) (by decide) ?_
    refine ok_ic_eq (tgt := 43) (dq_of td_X7_goFeast 21 rfl) (by decide) ?_ ?_
    · refine ok_wk (wk_s (wk_s (wk_s (wk_n (wk_n (wk_n wk_0)))))) ?_
      exact ob_X7_goFeast_43   hK hH _ _  _
    · refine ok_iload2 (dq_of td_X7_goFeast 22 rfl) ?_
      refine ok_bipush (v := 42) (dq_of td_X7_goFeast 23 rfl) (by decide) ?_
      refine ok_ic_ne (tgt := 64) (dq_of td_X7_goFeast 24 rfl) (by decide) ?_ ?_
      · refine ok_iload2 (dq_of td_X7_goFeast 35 rfl) ?_
        refine ok_bipush (v := 65) (dq_of td_X7_goFeast 36 rfl) (by decide) ?_
        refine ok_isub (dq_of td_X7_goFeast 37 rfl) ?_
        refine ok_gI (fun v7 => ?_)
        refine ok_istore3 (dq_of td_X7_goFeast 38 rfl) rfl (by decide) ?_
        refine ok_aload0 (dq_of td_X7_goFeast 39 rfl) ?_
        refine ok_get (v := k_rr G 113) fl_X7_50 (by decide) ko_100 rfl (dq_of td_X7_goFeast 40 rfl) ?_
        refine ok_iload1 (dq_of td_X7_goFeast 41 rfl) ?_
        refine ok_iconst (v := 1) (dq_of td_X7_goFeast 42 rfl) (by decide) ?_
        refine ok_iadd (dq_of td_X7_goFeast 43 rfl) ?_
        refine ok_iald ka_113 (dq_of td_X7_goFeast 44 rfl) ?_
        refine ok_gI (fun v8 => ?_)
        refine ok_istore4 (dq_of td_X7_goFeast 45 rfl) rfl (by decide) ?_
        refine ok_iload4 (dq_of td_X7_goFeast 46 rfl) ?_
        refine ok_bipush (v := 45) (dq_of td_X7_goFeast 47 rfl) (by decide) ?_
        refine ok_ic_ne (tgt := 146) (dq_of td_X7_goFeast 48 rfl) (by decide) ?_ ?_
        · refine ok_iload4 (dq_of td_X7_goFeast 81 rfl) ?_
          refine ok_bipush (v := 97) (dq_of td_X7_goFeast 82 rfl) (by decide) ?_
          refine ok_ic_lt (tgt := 200) (dq_of td_X7_goFeast 83 rfl) (by decide) ?_ ?_
          · refine ok_aload0 (dq_of td_X7_goFeast 109 rfl) ?_
            refine ok_get (v := k_rr G 113) fl_X7_50 (by decide) ko_100 rfl (dq_of td_X7_goFeast 110 rfl) ?_
            refine ok_iload1 (dq_of td_X7_goFeast 111 rfl) ?_
            refine ok_iconst (v := 2) (dq_of td_X7_goFeast 112 rfl) (by decide) ?_
            refine ok_iadd (dq_of td_X7_goFeast 113 rfl) ?_
            refine ok_iald ka_113 (dq_of td_X7_goFeast 114 rfl) ?_
            refine ok_bipush (v := 97) (dq_of td_X7_goFeast 115 rfl) (by decide) ?_
            refine ok_isub (dq_of td_X7_goFeast 116 rfl) ?_
            refine ok_gI (fun v9 => ?_)
            refine ok_istore5 (dq_of td_X7_goFeast 117 rfl) rfl (by decide) ?_
            refine ok_aload0 (dq_of td_X7_goFeast 118 rfl) ?_
            refine ok_aload0 (dq_of td_X7_goFeast 119 rfl) ?_
            refine ok_iload3 (dq_of td_X7_goFeast 120 rfl) ?_
            refine ok_iload4 (dq_of td_X7_goFeast 121 rfl) ?_
            refine ok_bipush (v := 65) (dq_of td_X7_goFeast 122 rfl) (by decide) ?_
            refine ok_isub (dq_of td_X7_goFeast 123 rfl) ?_
            refine ok_iload5 (dq_of td_X7_goFeast 124 rfl) ?_
            refine call_X7_whyNotLend ml_X7_149  ⟨Nat.le_of_ble_eq_true rfl, Nat.le_of_ble_eq_true rfl⟩ ⟨Nat.zero_le _, Nat.zero_le _⟩ (Nat.le_of_ble_eq_true rfl) (dq_of td_X7_goFeast 125 rfl) (fun r11 σ10 => ?_)
            refine put_7_24 fl_X7_138 ko_100 (dq_of td_X7_goFeast 126 rfl) (fun σ12 => ?_)
            refine ok_aload0 (dq_of td_X7_goFeast 127 rfl) ?_
            refine ok_get (v := .int (σ12 100 24)) fl_X7_138 (by decide) ko_100 rfl (dq_of td_X7_goFeast 128 rfl) ?_
            refine ok_if_ne (tgt := 255) (dq_of td_X7_goFeast 129 rfl) (by decide) ?_ ?_
            · refine ok_wk (wk_s (wk_s (wk_n (wk_n (wk_n (wk_n wk_0)))))) ?_
              exact ob_X7_goFeast_255   hK hH _  _
            · refine ok_aload0 (dq_of td_X7_goFeast 130 rfl) ?_
              refine ok_get (v := k_rr G 114) fl_X7_53 (by decide) ko_100 rfl (dq_of td_X7_goFeast 131 rfl) ?_
              refine ok_iload3 (dq_of td_X7_goFeast 132 rfl) ?_
              refine ok_iconst (v := 5) (dq_of td_X7_goFeast 133 rfl) (by decide) ?_
              refine ok_iast ka_114 (dq_of td_X7_goFeast 134 rfl) (fun σ13 => ?_)
              refine ok_aload0 (dq_of td_X7_goFeast 135 rfl) ?_
              refine ok_get (v := k_rr G 114) fl_X7_53 (by decide) ko_100 rfl (dq_of td_X7_goFeast 136 rfl) ?_
              refine ok_iload4 (dq_of td_X7_goFeast 137 rfl) ?_
              refine ok_bipush (v := 65) (dq_of td_X7_goFeast 138 rfl) (by decide) ?_
              refine ok_isub (dq_of td_X7_goFeast 139 rfl) ?_
              refine ok_iload5 (dq_of td_X7_goFeast 140 rfl) ?_
              refine ok_iast ka_114 (dq_of td_X7_goFeast 141 rfl) (fun σ14 => ?_)
              refine ok_wk (wk_s (wk_s (wk_n (wk_n (wk_n (wk_n wk_0)))))) ?_
              exact ob_X7_goFeast_255   hK hH _  _
          · refine ok_aload0 (dq_of td_X7_goFeast 84 rfl) ?_
            refine ok_aload0 (dq_of td_X7_goFeast 85 rfl) ?_
            refine ok_iload3 (dq_of td_X7_goFeast 86 rfl) ?_
            refine ok_iload4 (dq_of td_X7_goFeast 87 rfl) ?_
            refine ok_bipush (v := 97) (dq_of td_X7_goFeast 88 rfl) (by decide) ?_
            refine ok_isub (dq_of td_X7_goFeast 89 rfl) ?_
            refine call_X7_whyNotPut ml_X7_145  ⟨Nat.le_of_ble_eq_true rfl, Nat.le_of_ble_eq_true rfl⟩ ⟨Nat.zero_le _, Nat.zero_le _⟩ (Nat.le_of_ble_eq_true rfl) (dq_of td_X7_goFeast 90 rfl) (fun r16 σ15 => ?_)
            refine put_7_24 fl_X7_138 ko_100 (dq_of td_X7_goFeast 91 rfl) (fun σ17 => ?_)
            refine ok_aload0 (dq_of td_X7_goFeast 92 rfl) ?_
            refine ok_get (v := k_rr G 114) fl_X7_53 (by decide) ko_100 rfl (dq_of td_X7_goFeast 93 rfl) ?_
            refine ok_iload3 (dq_of td_X7_goFeast 94 rfl) ?_
            refine ok_aload0 (dq_of td_X7_goFeast 95 rfl) ?_
            refine ok_get (v := .int (σ17 100 24)) fl_X7_138 (by decide) ko_100 rfl (dq_of td_X7_goFeast 96 rfl) ?_
            refine ok_if_ne (tgt := 187) (dq_of td_X7_goFeast 97 rfl) (by decide) ?_ ?_
            · refine ok_aload0 (dq_of td_X7_goFeast 102 rfl) ?_
              refine ok_get (v := k_rr G 114) fl_X7_53 (by decide) ko_100 rfl (dq_of td_X7_goFeast 103 rfl) ?_
              refine ok_iload3 (dq_of td_X7_goFeast 104 rfl) ?_
              refine ok_iald ka_114 (dq_of td_X7_goFeast 105 rfl) ?_
              refine ok_wk (wk_s (wk_s (wk_n (wk_n (wk_n (wk_n wk_0)))))) ?_
              exact ob_X7_goFeast_193   hK hH _ _ _ _  _
            · refine ok_iload4 (dq_of td_X7_goFeast 98 rfl) ?_
              refine ok_bipush (v := 97) (dq_of td_X7_goFeast 99 rfl) (by decide) ?_
              refine ok_isub (dq_of td_X7_goFeast 100 rfl) ?_
              refine ok_goto (tgt := 193) (dq_of td_X7_goFeast 101 rfl) (by decide) ?_
              refine ok_wk (wk_s (wk_s (wk_n (wk_n (wk_n (wk_n wk_0)))))) ?_
              exact ob_X7_goFeast_193   hK hH _ _ _ _  _
        · refine ok_aload0 (dq_of td_X7_goFeast 49 rfl) ?_
          refine ok_aload0 (dq_of td_X7_goFeast 50 rfl) ?_
          refine ok_iload3 (dq_of td_X7_goFeast 51 rfl) ?_
          refine call_X7_isThere ml_X7_95  ⟨Nat.le_of_ble_eq_true rfl, Nat.le_of_ble_eq_true rfl⟩ ⟨Nat.zero_le _, Nat.zero_le _⟩ (Nat.le_of_ble_eq_true rfl) (dq_of td_X7_goFeast 52 rfl) (fun r21 σ20 => ?_)
          refine ok_if_ne (tgt := 99) (dq_of td_X7_goFeast 53 rfl) (by decide) ?_ ?_
          · refine ok_aload0 (dq_of td_X7_goFeast 56 rfl) ?_
            refine ok_get (v := k_rr G 114) fl_X7_53 (by decide) ko_100 rfl (dq_of td_X7_goFeast 57 rfl) ?_
            refine ok_iload3 (dq_of td_X7_goFeast 58 rfl) ?_
            refine ok_iald ka_114 (dq_of td_X7_goFeast 59 rfl) ?_
            refine ok_iconst (v := 5) (dq_of td_X7_goFeast 60 rfl) (by decide) ?_
            refine ok_ic_ne (tgt := 113) (dq_of td_X7_goFeast 61 rfl) (by decide) ?_ ?_
            · refine ok_iconst (v := 0) (dq_of td_X7_goFeast 64 rfl) (by decide) ?_
              refine ok_wk (wk_s (wk_s (wk_n (wk_s (wk_n (wk_n wk_0)))))) ?_
              exact ob_X7_goFeast_114   hK hH _ _ _  _
            · refine ok_iconst (v := 2) (dq_of td_X7_goFeast 62 rfl) (by decide) ?_
              refine ok_goto (tgt := 114) (dq_of td_X7_goFeast 63 rfl) (by decide) ?_
              refine ok_wk (wk_s (wk_s (wk_n (wk_s (wk_n (wk_n wk_0)))))) ?_
              exact ob_X7_goFeast_114   hK hH _ _ _  _
          · refine ok_iconst (v := 1) (dq_of td_X7_goFeast 54 rfl) (by decide) ?_
            refine ok_goto (tgt := 114) (dq_of td_X7_goFeast 55 rfl) (by decide) ?_
            refine ok_wk (wk_s (wk_s (wk_n (wk_s (wk_n (wk_n wk_0)))))) ?_
            exact ob_X7_goFeast_114   hK hH _ _ _  _
      · refine ok_wk (wk_s (wk_s (wk_s (wk_n (wk_n (wk_n wk_0)))))) ?_
        exact ob_X7_goFeast_43   hK hH _ _  _
theorem ld_X7_goFeast_11 {G : KW} {l : Launch}   {K : Sg → Option (Int32 × Sg)} (hK : ∀  (σ : Sg), Okk G l cX7_goFeast 6 RX7 (some .int) (rmo 3 74) ccI 283 [none, none, none, none, none, none] [] σ (K  σ)) (n : Nat) (x1 : Int32) (σ : Sg) : Okk G l cX7_goFeast 6 RX7 (some .int) (rmo 3 74) ccI 11 [some (k_rr G 100), some (.int x1), none, none, none, none] [] σ (e_lp1 (d_X7_goFeast_11  K) n x1 σ) :=
  ok_lp1 (Lf := fun (x1 : Int32) => [some (k_rr G 100), some (.int x1), none, none, none, none]) (fun _ hH x1 σ => od_X7_goFeast_11   hK hH x1 σ) n x1 σ
def m_X7_goFeast  (σ : Sg) : Option (Int32 × Sg) := e_cV (m_X7_asNow σ) (fun σ1 => e_lt (k_up σ1 100 25 0) (fun σ2 => e_lp1 (d_X7_goFeast_11  (fun σ25 => some ((-6), σ25))) e_F 0 σ2))
theorem om_X7_goFeast {G : KW} {l : Launch}   (σ : Sg) : Okk G l cX7_goFeast 6 RX7 (some .int) (rmo 3 74) ccI 0 [some (k_rr G 100), none, none, none, none, none] [] σ (m_X7_goFeast  σ) := by
  unfold m_X7_goFeast
  refine ok_aload0 (dq_of td_X7_goFeast 0 rfl) ?_
  refine call_X7_asNow ml_X7_132  ⟨Nat.le_of_ble_eq_true rfl, Nat.le_of_ble_eq_true rfl⟩ ⟨Nat.zero_le _, Nat.zero_le _⟩ (Nat.le_of_ble_eq_true rfl) (dq_of td_X7_goFeast 1 rfl) (fun σ1 => ?_)
  refine ok_aload0 (dq_of td_X7_goFeast 2 rfl) ?_
  refine ok_iconst (v := 0) (dq_of td_X7_goFeast 3 rfl) (by decide) ?_
  refine put_7_25 fl_X7_135 ko_100 (dq_of td_X7_goFeast 4 rfl) (fun σ2 => ?_)
  refine ok_iconst (v := 0) (dq_of td_X7_goFeast 5 rfl) (by decide) ?_
  refine ok_istore1 (dq_of td_X7_goFeast 6 rfl) rfl (by decide) ?_
  refine ok_wk (wk_s (wk_s (wk_n (wk_n (wk_n (wk_n wk_0)))))) ?_
  refine ld_X7_goFeast_11   (fun σ25 => ?_) _ _ _
  refine ok_bipush (v := (-6)) (dq_of td_X7_goFeast 156 rfl) (by decide) ?_
  exact ok_iret (dq_of td_X7_goFeast 157 rfl)
theorem ct_X7_goFeast {G : KW} {l : Launch}   (σ : Sg) : ∀ b, m_X7_goFeast  σ = some b → MetF G l yX7_goFeast cX7_goFeast 6 (some .int) 3 74 [k_rr G 100] (k_wl G σ) (ccI b).1 (k_wl G (ccI b).2) :=
  met_of (by decide) (Nat.le_of_ble_eq_true rfl) rfl (om_X7_goFeast   σ)
theorem call_X7_goFeast {G : KW} {l : Launch} {cc : ByteArray} {nL : Nat} {own : String} {rt : Option FieldType} {R : Room} {α : Type} {X : State → Array Value → Method → Prop} {Z : α → List Frame → Array Value → State → State → Prop} {k0 n0 pc index : Nat} {L : List (Option Value)} {S : List Value} {σ : Sg} {F : Int32 → Sg → Option α}  (lk : MLk own index yX7_goFeast)  (hR : R.frames ≥ 3 + 1 ∧ R.locals ≥ 8 + (6 + 11) + 74) (hcs : k0 ≤ R.cells ∧ n0 ≤ R.slots) (hro : (S.map fun v => v.category).sum ≤ 8) (d : decode cc pc = .ok (.invokevirtual index, 3)) (kk : ∀ (r : Int32) (σ' : Sg), Okg G l cc nL own rt R X Z k0 n0 (pc + 3) L (.int r :: S) σ' (F r σ')) : Okg G l cc nL own rt R X Z k0 n0 pc L (k_rr G 100 :: S) σ (e_cI (m_X7_goFeast  σ) F) :=
  ok_cV (cb := ccI) (As := []) (ct_X7_goFeast   σ) mo_X7_goFeast hi_X7_goFeast lk rfl (ci := 7) rfl rfl (by decide) ko_100 hR rfl hcs hro d (fun b => kk b.1 b.2)
/-! CoatDinnerModel.judge(I)I -/
def b_X7_judge_35 (x1 : Int32) (x2 : Int32) (σ : Sg) : Option (Int32 × Sg) := some (x2, σ)
theorem ob_X7_judge_35 {G : KW} {l : Launch} (x1 : Int32)  (x2 : Int32)  (σ : Sg) : Okk G l cX7_judge 3 RX7 (some .int) (rmo 4 99) ccI 35 [none, none, some (.int x2)] [] σ (b_X7_judge_35 x1 x2 σ) := by
  unfold b_X7_judge_35
  refine ok_iload2 (dq_of td_X7_judge 19 rfl) ?_
  refine ok_goto (tgt := 43) (dq_of td_X7_judge 20 rfl) (by decide) ?_
  exact ok_iret (dq_of td_X7_judge 23 rfl)
def m_X7_judge (x1 : Int32) (σ : Sg) : Option (Int32 × Sg) := e_cI (m_X7_in x1 0 1 σ) (fun r2 σ1 => (if r2 = 0 then some ((-2), σ1) else e_cI (m_X7_faultOf σ1) (fun r4 σ3 => (if r4 < 0 then e_cI (m_X7_goFeast σ3) (fun r6 σ5 => (if r6 < 0 then b_X7_judge_35 x1 r6 σ5 else (if x1 = 0 then b_X7_judge_35 x1 r6 σ5 else some (σ5 100 24, σ5)))) else some ((-5), σ3)))))
theorem om_X7_judge {G : KW} {l : Launch} (x1 : Int32)  (σ : Sg) : Okk G l cX7_judge 3 RX7 (some .int) (rmo 4 99) ccI 0 [some (k_rr G 100), some (.int x1), none] [] σ (m_X7_judge x1 σ) := by
  unfold m_X7_judge
  refine ok_iload1 (dq_of td_X7_judge 0 rfl) ?_
  refine ok_iconst (v := 0) (dq_of td_X7_judge 1 rfl) (by decide) ?_
  refine ok_iconst (v := 1) (dq_of td_X7_judge 2 rfl) (by decide) ?_
  refine call_X7_in ml_X7_81  ⟨Nat.le_of_ble_eq_true rfl, Nat.le_of_ble_eq_true rfl⟩ ⟨Nat.zero_le _, Nat.zero_le _⟩ (Nat.le_of_ble_eq_true rfl) (dq_of td_X7_judge 3 rfl) (fun r2 σ1 => ?_)
  refine ok_if_ne (tgt := 12) (dq_of td_X7_judge 4 rfl) (by decide) ?_ ?_
  · refine ok_aload0 (dq_of td_X7_judge 7 rfl) ?_
    refine call_X7_faultOf ml_X7_116  ⟨Nat.le_of_ble_eq_true rfl, Nat.le_of_ble_eq_true rfl⟩ ⟨Nat.zero_le _, Nat.zero_le _⟩ (Nat.le_of_ble_eq_true rfl) (dq_of td_X7_judge 8 rfl) (fun r4 σ3 => ?_)
    refine ok_if_lt (tgt := 22) (dq_of td_X7_judge 9 rfl) (by decide) ?_ ?_
    · refine ok_aload0 (dq_of td_X7_judge 12 rfl) ?_
      refine call_X7_goFeast ml_X7_153  ⟨Nat.le_of_ble_eq_true rfl, Nat.le_of_ble_eq_true rfl⟩ ⟨Nat.zero_le _, Nat.zero_le _⟩ (Nat.le_of_ble_eq_true rfl) (dq_of td_X7_judge 13 rfl) (fun r6 σ5 => ?_)
      refine ok_istore2 (dq_of td_X7_judge 14 rfl) rfl (by decide) ?_
      refine ok_iload2 (dq_of td_X7_judge 15 rfl) ?_
      refine ok_if_lt (tgt := 35) (dq_of td_X7_judge 16 rfl) (by decide) ?_ ?_
      · refine ok_wk (wk_n (wk_n (wk_s wk_0))) ?_
        exact ob_X7_judge_35 _  _  _
      · refine ok_iload1 (dq_of td_X7_judge 17 rfl) ?_
        refine ok_if_ne (tgt := 39) (dq_of td_X7_judge 18 rfl) (by decide) ?_ ?_
        · refine ok_aload0 (dq_of td_X7_judge 21 rfl) ?_
          refine ok_get (v := .int (σ5 100 24)) fl_X7_138 (by decide) ko_100 rfl (dq_of td_X7_judge 22 rfl) ?_
          exact ok_iret (dq_of td_X7_judge 23 rfl)
        · refine ok_wk (wk_n (wk_n (wk_s wk_0))) ?_
          exact ob_X7_judge_35 _  _  _
    · refine ok_bipush (v := (-5)) (dq_of td_X7_judge 10 rfl) (by decide) ?_
      exact ok_iret (dq_of td_X7_judge 11 rfl)
  · refine ok_bipush (v := (-2)) (dq_of td_X7_judge 5 rfl) (by decide) ?_
    exact ok_iret (dq_of td_X7_judge 6 rfl)
theorem ct_X7_judge {G : KW} {l : Launch} (x1 : Int32)  (σ : Sg) : ∀ b, m_X7_judge x1 σ = some b → MetF G l yX7_judge cX7_judge 3 (some .int) 4 99 [k_rr G 100, .int x1] (k_wl G σ) (ccI b).1 (k_wl G (ccI b).2) :=
  met_of (by decide) (Nat.le_of_ble_eq_true rfl) rfl (om_X7_judge _  σ)
theorem call_X7_judge {G : KW} {l : Launch} {cc : ByteArray} {nL : Nat} {own : String} {rt : Option FieldType} {R : Room} {α : Type} {X : State → Array Value → Method → Prop} {Z : α → List Frame → Array Value → State → State → Prop} {k0 n0 pc index : Nat} {L : List (Option Value)} {S : List Value} {σ : Sg} {F : Int32 → Sg → Option α} {x1 : Int32} (lk : MLk own index yX7_judge)  (hR : R.frames ≥ 4 + 1 ∧ R.locals ≥ 8 + (3 + 11) + 99) (hcs : k0 ≤ R.cells ∧ n0 ≤ R.slots) (hro : (S.map fun v => v.category).sum ≤ 8) (d : decode cc pc = .ok (.invokevirtual index, 3)) (kk : ∀ (r : Int32) (σ' : Sg), Okg G l cc nL own rt R X Z k0 n0 (pc + 3) L (.int r :: S) σ' (F r σ')) : Okg G l cc nL own rt R X Z k0 n0 pc L (.int x1 :: k_rr G 100 :: S) σ (e_cI (m_X7_judge x1 σ) F) :=
  ok_cV (cb := ccI) (As := [.int x1]) (ct_X7_judge _  σ) mo_X7_judge hi_X7_judge lk rfl (ci := 7) rfl rfl (by decide) ko_100 hR rfl hcs hro d (fun b => kk b.1 b.2)
/-! CoatDinnerModel.barOfFeast()I -/
def b_X7_barOfFeast_14   (σ : Sg) : Option (Int32 × Sg) := some ((-5), σ)
theorem ob_X7_barOfFeast_14 {G : KW} {l : Launch}     (σ : Sg) : Okk G l cX7_barOfFeast 1 RX7 (some .int) (rmo 4 99) ccI 14 [none] [] σ (b_X7_barOfFeast_14   σ) := by
  unfold b_X7_barOfFeast_14
  refine ok_bipush (v := (-5)) (dq_of td_X7_barOfFeast 6 rfl) (by decide) ?_
  refine ok_goto (tgt := 20) (dq_of td_X7_barOfFeast 7 rfl) (by decide) ?_
  exact ok_iret (dq_of td_X7_barOfFeast 9 rfl)
def m_X7_barOfFeast  (σ : Sg) : Option (Int32 × Sg) := e_cI (m_X7_faultOf σ) (fun r2 σ1 => (if 0 ≤ r2 then b_X7_barOfFeast_14  σ1 else e_cI (m_X7_goFeast σ1) (fun r4 σ3 => (if r4 < 0 then some (0, σ3) else b_X7_barOfFeast_14  σ3))))
theorem om_X7_barOfFeast {G : KW} {l : Launch}   (σ : Sg) : Okk G l cX7_barOfFeast 1 RX7 (some .int) (rmo 4 99) ccI 0 [some (k_rr G 100)] [] σ (m_X7_barOfFeast  σ) := by
  unfold m_X7_barOfFeast
  refine ok_aload0 (dq_of td_X7_barOfFeast 0 rfl) ?_
  refine call_X7_faultOf ml_X7_116  ⟨Nat.le_of_ble_eq_true rfl, Nat.le_of_ble_eq_true rfl⟩ ⟨Nat.zero_le _, Nat.zero_le _⟩ (Nat.le_of_ble_eq_true rfl) (dq_of td_X7_barOfFeast 1 rfl) (fun r2 σ1 => ?_)
  refine ok_if_ge (tgt := 14) (dq_of td_X7_barOfFeast 2 rfl) (by decide) ?_ ?_
  · refine ok_wk (wk_n wk_0) ?_
    exact ob_X7_barOfFeast_14    _
  · refine ok_aload0 (dq_of td_X7_barOfFeast 3 rfl) ?_
    refine call_X7_goFeast ml_X7_153  ⟨Nat.le_of_ble_eq_true rfl, Nat.le_of_ble_eq_true rfl⟩ ⟨Nat.zero_le _, Nat.zero_le _⟩ (Nat.le_of_ble_eq_true rfl) (dq_of td_X7_barOfFeast 4 rfl) (fun r4 σ3 => ?_)
    refine ok_if_lt (tgt := 19) (dq_of td_X7_barOfFeast 5 rfl) (by decide) ?_ ?_
    · refine ok_iconst (v := 0) (dq_of td_X7_barOfFeast 8 rfl) (by decide) ?_
      exact ok_iret (dq_of td_X7_barOfFeast 9 rfl)
    · refine ok_wk (wk_n wk_0) ?_
      exact ob_X7_barOfFeast_14    _
theorem ct_X7_barOfFeast {G : KW} {l : Launch}   (σ : Sg) : ∀ b, m_X7_barOfFeast  σ = some b → MetF G l yX7_barOfFeast cX7_barOfFeast 1 (some .int) 4 99 [k_rr G 100] (k_wl G σ) (ccI b).1 (k_wl G (ccI b).2) :=
  met_of (by decide) (Nat.le_of_ble_eq_true rfl) rfl (om_X7_barOfFeast   σ)
theorem call_X7_barOfFeast {G : KW} {l : Launch} {cc : ByteArray} {nL : Nat} {own : String} {rt : Option FieldType} {R : Room} {α : Type} {X : State → Array Value → Method → Prop} {Z : α → List Frame → Array Value → State → State → Prop} {k0 n0 pc index : Nat} {L : List (Option Value)} {S : List Value} {σ : Sg} {F : Int32 → Sg → Option α}  (lk : MLk own index yX7_barOfFeast)  (hR : R.frames ≥ 4 + 1 ∧ R.locals ≥ 8 + (1 + 11) + 99) (hcs : k0 ≤ R.cells ∧ n0 ≤ R.slots) (hro : (S.map fun v => v.category).sum ≤ 8) (d : decode cc pc = .ok (.invokevirtual index, 3)) (kk : ∀ (r : Int32) (σ' : Sg), Okg G l cc nL own rt R X Z k0 n0 (pc + 3) L (.int r :: S) σ' (F r σ')) : Okg G l cc nL own rt R X Z k0 n0 pc L (k_rr G 100 :: S) σ (e_cI (m_X7_barOfFeast  σ) F) :=
  ok_cV (cb := ccI) (As := []) (ct_X7_barOfFeast   σ) mo_X7_barOfFeast hi_X7_barOfFeast lk rfl (ci := 7) rfl rfl (by decide) ko_100 hR rfl hcs hro d (fun b => kk b.1 b.2)
/-! CoatDinnerModel.done()I -/
def d_X7_done_12  (K : Sg → Option (Int32 × Sg)) (H : Int32 → Sg → Option (Int32 × Sg)) (x1 : Int32) (σ : Sg) : Option (Int32 × Sg) := (if 5 ≤ x1 then K σ else e_gd (k_in x1 5) (e_wr σ 106 x1 5 (σ 114 (Int32.toNatClampNeg x1)) (fun σ3 => e_gd (k_in x1 5) (e_wr σ3 107 x1 5 (σ3 115 (Int32.toNatClampNeg x1)) (fun σ4 => e_gd (k_in x1 5) (e_wr σ4 108 x1 5 (σ4 116 (Int32.toNatClampNeg x1)) (fun σ5 => e_gd (k_in x1 5) (e_wr σ5 109 x1 5 (σ5 117 (Int32.toNatClampNeg x1)) (fun σ6 => e_gd (k_in x1 5) (e_wr σ6 101 x1 5 (σ6 118 (Int32.toNatClampNeg x1)) (fun σ7 => H (x1 + 1) σ7)))))))))))
theorem od_X7_done_12 {G : KW} {l : Launch}   {K : Sg → Option (Int32 × Sg)} {H : Int32 → Sg → Option (Int32 × Sg)} (hK : ∀  (σ : Sg), Okk G l cX7_done 2 RX7 (some .int) (rmo 5 119) ccI 83 [some (k_rr G 100), none] [] σ (K  σ)) (hH : ∀ (x1 : Int32) (σ : Sg), Okk G l cX7_done 2 RX7 (some .int) (rmo 5 119) ccI 12 [some (k_rr G 100), some (.int x1)] [] σ (H x1 σ)) (x1 : Int32)  (σ : Sg) : Okk G l cX7_done 2 RX7 (some .int) (rmo 5 119) ccI 12 [some (k_rr G 100), some (.int x1)] [] σ (d_X7_done_12  K H x1 σ) := by
  unfold d_X7_done_12
  refine ok_iload1 (dq_of td_X7_done 7 rfl) ?_
  refine ok_iconst (v := 5) (dq_of td_X7_done 8 rfl) (by decide) ?_
  refine ok_ic_ge (tgt := 83) (dq_of td_X7_done 9 rfl) (by decide) ?_ ?_
  · refine ok_wk (wk_s (wk_n wk_0)) ?_
    exact hK _
  · refine ok_aload0 (dq_of td_X7_done 10 rfl) ?_
    refine ok_get (v := k_rr G 106) fl_X7_29 (by decide) ko_100 rfl (dq_of td_X7_done 11 rfl) ?_
    refine ok_iload1 (dq_of td_X7_done 12 rfl) ?_
    refine ok_aload0 (dq_of td_X7_done 13 rfl) ?_
    refine ok_get (v := k_rr G 114) fl_X7_53 (by decide) ko_100 rfl (dq_of td_X7_done 14 rfl) ?_
    refine ok_iload1 (dq_of td_X7_done 15 rfl) ?_
    refine ok_iald ka_114 (dq_of td_X7_done 16 rfl) ?_
    refine ok_iast ka_106 (dq_of td_X7_done 17 rfl) (fun σ3 => ?_)
    refine ok_aload0 (dq_of td_X7_done 18 rfl) ?_
    refine ok_get (v := k_rr G 107) fl_X7_32 (by decide) ko_100 rfl (dq_of td_X7_done 19 rfl) ?_
    refine ok_iload1 (dq_of td_X7_done 20 rfl) ?_
    refine ok_aload0 (dq_of td_X7_done 21 rfl) ?_
    refine ok_get (v := k_rr G 115) fl_X7_56 (by decide) ko_100 rfl (dq_of td_X7_done 22 rfl) ?_
    refine ok_iload1 (dq_of td_X7_done 23 rfl) ?_
    refine ok_iald ka_115 (dq_of td_X7_done 24 rfl) ?_
    refine ok_iast ka_107 (dq_of td_X7_done 25 rfl) (fun σ4 => ?_)
    refine ok_aload0 (dq_of td_X7_done 26 rfl) ?_
    refine ok_get (v := k_rr G 108) fl_X7_35 (by decide) ko_100 rfl (dq_of td_X7_done 27 rfl) ?_
    refine ok_iload1 (dq_of td_X7_done 28 rfl) ?_
    refine ok_aload0 (dq_of td_X7_done 29 rfl) ?_
    refine ok_get (v := k_rr G 116) fl_X7_59 (by decide) ko_100 rfl (dq_of td_X7_done 30 rfl) ?_
    refine ok_iload1 (dq_of td_X7_done 31 rfl) ?_
    refine ok_iald ka_116 (dq_of td_X7_done 32 rfl) ?_
    refine ok_iast ka_108 (dq_of td_X7_done 33 rfl) (fun σ5 => ?_)
    refine ok_aload0 (dq_of td_X7_done 34 rfl) ?_
    refine ok_get (v := k_rr G 109) fl_X7_38 (by decide) ko_100 rfl (dq_of td_X7_done 35 rfl) ?_
    refine ok_iload1 (dq_of td_X7_done 36 rfl) ?_
    refine ok_aload0 (dq_of td_X7_done 37 rfl) ?_
    refine ok_get (v := k_rr G 117) fl_X7_62 (by decide) ko_100 rfl (dq_of td_X7_done 38 rfl) ?_
    refine ok_iload1 (dq_of td_X7_done 39 rfl) ?_
    refine ok_iald ka_117 (dq_of td_X7_done 40 rfl) ?_
    refine ok_iast ka_109 (dq_of td_X7_done 41 rfl) (fun σ6 => ?_)
    refine ok_aload0 (dq_of td_X7_done 42 rfl) ?_
    refine ok_get (v := k_rr G 101) fl_X7_7 (by decide) ko_100 rfl (dq_of td_X7_done 43 rfl) ?_
    refine ok_iload1 (dq_of td_X7_done 44 rfl) ?_
    refine ok_aload0 (dq_of td_X7_done 45 rfl) ?_
    refine ok_get (v := k_rr G 118) fl_X7_65 (by decide) ko_100 rfl (dq_of td_X7_done 46 rfl) ?_
    refine ok_iload1 (dq_of td_X7_done 47 rfl) ?_
    refine ok_iald ka_118 (dq_of td_X7_done 48 rfl) ?_
    refine ok_iast ka_101 (dq_of td_X7_done 49 rfl) (fun σ7 => ?_)
    refine ok_jinc1 (w := 1) (dq_of td_X7_done 50 rfl) (by decide) rfl (by decide) ?_
    refine ok_goto (tgt := 12) (dq_of td_X7_done 51 rfl) (by decide) ?_
    refine ok_wk (wk_s (wk_s wk_0)) ?_
    exact hH _ _
theorem ld_X7_done_12 {G : KW} {l : Launch}   {K : Sg → Option (Int32 × Sg)} (hK : ∀  (σ : Sg), Okk G l cX7_done 2 RX7 (some .int) (rmo 5 119) ccI 83 [some (k_rr G 100), none] [] σ (K  σ)) (n : Nat) (x1 : Int32) (σ : Sg) : Okk G l cX7_done 2 RX7 (some .int) (rmo 5 119) ccI 12 [some (k_rr G 100), some (.int x1)] [] σ (e_lp1 (d_X7_done_12  K) n x1 σ) :=
  ok_lp1 (Lf := fun (x1 : Int32) => [some (k_rr G 100), some (.int x1)]) (fun _ hH x1 σ => od_X7_done_12   hK hH x1 σ) n x1 σ
def m_X7_done  (σ : Sg) : Option (Int32 × Sg) := e_cI (m_X7_barOfFeast σ) (fun r2 σ1 => (if 0 ≤ r2 then e_lp1 (d_X7_done_12  (fun σ8 => e_lt (k_up σ8 100 16 0) (fun σ9 => some (σ9 100 25, σ9)))) e_F 0 σ1 else some ((-5), σ1)))
theorem om_X7_done {G : KW} {l : Launch}   (σ : Sg) : Okk G l cX7_done 2 RX7 (some .int) (rmo 5 119) ccI 0 [some (k_rr G 100), none] [] σ (m_X7_done  σ) := by
  unfold m_X7_done
  refine ok_aload0 (dq_of td_X7_done 0 rfl) ?_
  refine call_X7_barOfFeast ml_X7_156  ⟨Nat.le_of_ble_eq_true rfl, Nat.le_of_ble_eq_true rfl⟩ ⟨Nat.zero_le _, Nat.zero_le _⟩ (Nat.le_of_ble_eq_true rfl) (dq_of td_X7_done 1 rfl) (fun r2 σ1 => ?_)
  refine ok_if_ge (tgt := 10) (dq_of td_X7_done 2 rfl) (by decide) ?_ ?_
  · refine ok_iconst (v := 0) (dq_of td_X7_done 5 rfl) (by decide) ?_
    refine ok_istore1 (dq_of td_X7_done 6 rfl) rfl (by decide) ?_
    refine ok_wk (wk_s (wk_s wk_0)) ?_
    refine ld_X7_done_12   (fun σ8 => ?_) _ _ _
    refine ok_aload0 (dq_of td_X7_done 52 rfl) ?_
    refine ok_iconst (v := 0) (dq_of td_X7_done 53 rfl) (by decide) ?_
    refine put_7_16 fl_X7_113 ko_100 (dq_of td_X7_done 54 rfl) (fun σ9 => ?_)
    refine ok_aload0 (dq_of td_X7_done 55 rfl) ?_
    refine ok_get (v := .int (σ9 100 25)) fl_X7_135 (by decide) ko_100 rfl (dq_of td_X7_done 56 rfl) ?_
    exact ok_iret (dq_of td_X7_done 57 rfl)
  · refine ok_bipush (v := (-5)) (dq_of td_X7_done 3 rfl) (by decide) ?_
    exact ok_iret (dq_of td_X7_done 4 rfl)
theorem ct_X7_done {G : KW} {l : Launch}   (σ : Sg) : ∀ b, m_X7_done  σ = some b → MetF G l yX7_done cX7_done 2 (some .int) 5 119 [k_rr G 100] (k_wl G σ) (ccI b).1 (k_wl G (ccI b).2) :=
  met_of (by decide) (Nat.le_of_ble_eq_true rfl) rfl (om_X7_done   σ)
theorem call_X7_done {G : KW} {l : Launch} {cc : ByteArray} {nL : Nat} {own : String} {rt : Option FieldType} {R : Room} {α : Type} {X : State → Array Value → Method → Prop} {Z : α → List Frame → Array Value → State → State → Prop} {k0 n0 pc index : Nat} {L : List (Option Value)} {S : List Value} {σ : Sg} {F : Int32 → Sg → Option α}  (lk : MLk own index yX7_done)  (hR : R.frames ≥ 5 + 1 ∧ R.locals ≥ 8 + (2 + 11) + 119) (hcs : k0 ≤ R.cells ∧ n0 ≤ R.slots) (hro : (S.map fun v => v.category).sum ≤ 8) (d : decode cc pc = .ok (.invokevirtual index, 3)) (kk : ∀ (r : Int32) (σ' : Sg), Okg G l cc nL own rt R X Z k0 n0 (pc + 3) L (.int r :: S) σ' (F r σ')) : Okg G l cc nL own rt R X Z k0 n0 pc L (k_rr G 100 :: S) σ (e_cI (m_X7_done  σ) F) :=
  ok_cV (cb := ccI) (As := []) (ct_X7_done   σ) mo_X7_done hi_X7_done lk rfl (ci := 7) rfl rfl (by decide) ko_100 hR rfl hcs hro d (fun b => kk b.1 b.2)
/-! CoatDinnerModel.stateNow(II)I -/
def m_X7_stateNow (x1 : Int32) (x2 : Int32) (σ : Sg) : Option (Int32 × Sg) := e_sw x2 4 (fun j => match j with | 0 => e_gd (k_in x1 5) ((if (σ 114 (Int32.toNatClampNeg x1)) = 5 then some ((-6), σ) else e_gd (k_in x1 5) (some (σ 114 (Int32.toNatClampNeg x1), σ)))) | 1 => e_gd (k_in x1 5) (some (σ 115 (Int32.toNatClampNeg x1), σ)) | 2 => e_gd (k_in x1 5) (some (σ 116 (Int32.toNatClampNeg x1), σ)) | _ => e_gd (k_in x1 5) (some (σ 117 (Int32.toNatClampNeg x1), σ))) (e_cI (m_X7_seatOf x1 σ) (fun r2 σ1 => some (r2, σ1)))
theorem om_X7_stateNow {G : KW} {l : Launch} (x1 : Int32) (x2 : Int32)  (σ : Sg) : Okk G l cX7_stateNow 3 RX7 (some .int) (rmo 2 47) ccI 0 [some (k_rr G 100), some (.int x1), some (.int x2)] [] σ (m_X7_stateNow x1 x2 σ) := by
  unfold m_X7_stateNow
  refine ok_iload2 (dq_of td_X7_stateNow 0 rfl) ?_
  refine ok_tsw (tgt := 75) (dq_of td_X7_stateNow 1 rfl) (by decide) (by decide) ?_ ?_
  · refine ok_aload0 (dq_of td_X7_stateNow 30 rfl) ?_
    refine ok_iload1 (dq_of td_X7_stateNow 31 rfl) ?_
    refine call_X7_seatOf ml_X7_126  ⟨Nat.le_of_ble_eq_true rfl, Nat.le_of_ble_eq_true rfl⟩ ⟨Nat.zero_le _, Nat.zero_le _⟩ (Nat.le_of_ble_eq_true rfl) (dq_of td_X7_stateNow 32 rfl) (fun r2 σ1 => ?_)
    exact ok_iret (dq_of td_X7_stateNow 33 rfl)
  · intro j hj
    match j, hj with
    | 0, _ =>
      refine ⟨_, 32, rfl, by decide, ?_⟩
      refine ok_aload0 (dq_of td_X7_stateNow 2 rfl) ?_
      refine ok_get (v := k_rr G 114) fl_X7_53 (by decide) ko_100 rfl (dq_of td_X7_stateNow 3 rfl) ?_
      refine ok_iload1 (dq_of td_X7_stateNow 4 rfl) ?_
      refine ok_iald ka_114 (dq_of td_X7_stateNow 5 rfl) ?_
      refine ok_iconst (v := 5) (dq_of td_X7_stateNow 6 rfl) (by decide) ?_
      refine ok_ic_ne (tgt := 47) (dq_of td_X7_stateNow 7 rfl) (by decide) ?_ ?_
      · refine ok_aload0 (dq_of td_X7_stateNow 10 rfl) ?_
        refine ok_get (v := k_rr G 114) fl_X7_53 (by decide) ko_100 rfl (dq_of td_X7_stateNow 11 rfl) ?_
        refine ok_iload1 (dq_of td_X7_stateNow 12 rfl) ?_
        refine ok_iald ka_114 (dq_of td_X7_stateNow 13 rfl) ?_
        exact ok_iret (dq_of td_X7_stateNow 14 rfl)
      · refine ok_bipush (v := (-6)) (dq_of td_X7_stateNow 8 rfl) (by decide) ?_
        refine ok_goto (tgt := 53) (dq_of td_X7_stateNow 9 rfl) (by decide) ?_
        exact ok_iret (dq_of td_X7_stateNow 14 rfl)
    | 1, _ =>
      refine ⟨_, 54, rfl, by decide, ?_⟩
      refine ok_aload0 (dq_of td_X7_stateNow 15 rfl) ?_
      refine ok_get (v := k_rr G 115) fl_X7_56 (by decide) ko_100 rfl (dq_of td_X7_stateNow 16 rfl) ?_
      refine ok_iload1 (dq_of td_X7_stateNow 17 rfl) ?_
      refine ok_iald ka_115 (dq_of td_X7_stateNow 18 rfl) ?_
      exact ok_iret (dq_of td_X7_stateNow 19 rfl)
    | 2, _ =>
      refine ⟨_, 61, rfl, by decide, ?_⟩
      refine ok_aload0 (dq_of td_X7_stateNow 20 rfl) ?_
      refine ok_get (v := k_rr G 116) fl_X7_59 (by decide) ko_100 rfl (dq_of td_X7_stateNow 21 rfl) ?_
      refine ok_iload1 (dq_of td_X7_stateNow 22 rfl) ?_
      refine ok_iald ka_116 (dq_of td_X7_stateNow 23 rfl) ?_
      exact ok_iret (dq_of td_X7_stateNow 24 rfl)
    | 3, _ =>
      refine ⟨_, 68, rfl, by decide, ?_⟩
      refine ok_aload0 (dq_of td_X7_stateNow 25 rfl) ?_
      refine ok_get (v := k_rr G 117) fl_X7_62 (by decide) ko_100 rfl (dq_of td_X7_stateNow 26 rfl) ?_
      refine ok_iload1 (dq_of td_X7_stateNow 27 rfl) ?_
      refine ok_iald ka_117 (dq_of td_X7_stateNow 28 rfl) ?_
      exact ok_iret (dq_of td_X7_stateNow 29 rfl)
    | j + 4, hj => exact absurd hj (by omega)
theorem ct_X7_stateNow {G : KW} {l : Launch} (x1 : Int32) (x2 : Int32)  (σ : Sg) : ∀ b, m_X7_stateNow x1 x2 σ = some b → MetF G l yX7_stateNow cX7_stateNow 3 (some .int) 2 47 [k_rr G 100, .int x1, .int x2] (k_wl G σ) (ccI b).1 (k_wl G (ccI b).2) :=
  met_of (by decide) (Nat.le_of_ble_eq_true rfl) rfl (om_X7_stateNow _ _  σ)
theorem call_X7_stateNow {G : KW} {l : Launch} {cc : ByteArray} {nL : Nat} {own : String} {rt : Option FieldType} {R : Room} {α : Type} {X : State → Array Value → Method → Prop} {Z : α → List Frame → Array Value → State → State → Prop} {k0 n0 pc index : Nat} {L : List (Option Value)} {S : List Value} {σ : Sg} {F : Int32 → Sg → Option α} {x1 : Int32} {x2 : Int32} (lk : MLk own index yX7_stateNow)  (hR : R.frames ≥ 2 + 1 ∧ R.locals ≥ 8 + (3 + 11) + 47) (hcs : k0 ≤ R.cells ∧ n0 ≤ R.slots) (hro : (S.map fun v => v.category).sum ≤ 8) (d : decode cc pc = .ok (.invokevirtual index, 3)) (kk : ∀ (r : Int32) (σ' : Sg), Okg G l cc nL own rt R X Z k0 n0 (pc + 3) L (.int r :: S) σ' (F r σ')) : Okg G l cc nL own rt R X Z k0 n0 pc L (.int x2 :: .int x1 :: k_rr G 100 :: S) σ (e_cI (m_X7_stateNow x1 x2 σ) F) :=
  ok_cV (cb := ccI) (As := [.int x1, .int x2]) (ct_X7_stateNow _ _  σ) mo_X7_stateNow hi_X7_stateNow lk rfl (ci := 7) rfl rfl (by decide) ko_100 hR rfl hcs hro d (fun b => kk b.1 b.2)
/-! CoatDinnerModel.state(II)I -/
def m_X7_state (x1 : Int32) (x2 : Int32) (σ : Sg) : Option (Int32 × Sg) := e_cI (m_X7_isThere x1 σ) (fun r2 σ1 => (if r2 = 0 then some ((-1), σ1) else e_cI (m_X7_in x2 0 4 σ1) (fun r4 σ3 => (if r4 = 0 then some ((-2), σ3) else e_cV (m_X7_asNow σ3) (fun σ5 => e_cI (m_X7_stateNow x1 x2 σ5) (fun r7 σ6 => some (r7, σ6)))))))
theorem om_X7_state {G : KW} {l : Launch} (x1 : Int32) (x2 : Int32)  (σ : Sg) : Okk G l cX7_state 3 RX7 (some .int) (rmo 3 69) ccI 0 [some (k_rr G 100), some (.int x1), some (.int x2)] [] σ (m_X7_state x1 x2 σ) := by
  unfold m_X7_state
  refine ok_aload0 (dq_of td_X7_state 0 rfl) ?_
  refine ok_iload1 (dq_of td_X7_state 1 rfl) ?_
  refine call_X7_isThere ml_X7_95  ⟨Nat.le_of_ble_eq_true rfl, Nat.le_of_ble_eq_true rfl⟩ ⟨Nat.zero_le _, Nat.zero_le _⟩ (Nat.le_of_ble_eq_true rfl) (dq_of td_X7_state 2 rfl) (fun r2 σ1 => ?_)
  refine ok_if_ne (tgt := 10) (dq_of td_X7_state 3 rfl) (by decide) ?_ ?_
  · refine ok_iload2 (dq_of td_X7_state 6 rfl) ?_
    refine ok_iconst (v := 0) (dq_of td_X7_state 7 rfl) (by decide) ?_
    refine ok_iconst (v := 4) (dq_of td_X7_state 8 rfl) (by decide) ?_
    refine call_X7_in ml_X7_81  ⟨Nat.le_of_ble_eq_true rfl, Nat.le_of_ble_eq_true rfl⟩ ⟨Nat.zero_le _, Nat.zero_le _⟩ (Nat.le_of_ble_eq_true rfl) (dq_of td_X7_state 9 rfl) (fun r4 σ3 => ?_)
    refine ok_if_ne (tgt := 22) (dq_of td_X7_state 10 rfl) (by decide) ?_ ?_
    · refine ok_aload0 (dq_of td_X7_state 13 rfl) ?_
      refine call_X7_asNow ml_X7_132  ⟨Nat.le_of_ble_eq_true rfl, Nat.le_of_ble_eq_true rfl⟩ ⟨Nat.zero_le _, Nat.zero_le _⟩ (Nat.le_of_ble_eq_true rfl) (dq_of td_X7_state 14 rfl) (fun σ5 => ?_)
      refine ok_aload0 (dq_of td_X7_state 15 rfl) ?_
      refine ok_iload1 (dq_of td_X7_state 16 rfl) ?_
      refine ok_iload2 (dq_of td_X7_state 17 rfl) ?_
      refine call_X7_stateNow ml_X7_159  ⟨Nat.le_of_ble_eq_true rfl, Nat.le_of_ble_eq_true rfl⟩ ⟨Nat.zero_le _, Nat.zero_le _⟩ (Nat.le_of_ble_eq_true rfl) (dq_of td_X7_state 18 rfl) (fun r7 σ6 => ?_)
      exact ok_iret (dq_of td_X7_state 19 rfl)
    · refine ok_bipush (v := (-2)) (dq_of td_X7_state 11 rfl) (by decide) ?_
      exact ok_iret (dq_of td_X7_state 12 rfl)
  · refine ok_iconst (v := (-1)) (dq_of td_X7_state 4 rfl) (by decide) ?_
    exact ok_iret (dq_of td_X7_state 5 rfl)
theorem ct_X7_state {G : KW} {l : Launch} (x1 : Int32) (x2 : Int32)  (σ : Sg) : ∀ b, m_X7_state x1 x2 σ = some b → MetF G l yX7_state cX7_state 3 (some .int) 3 69 [k_rr G 100, .int x1, .int x2] (k_wl G σ) (ccI b).1 (k_wl G (ccI b).2) :=
  met_of (by decide) (Nat.le_of_ble_eq_true rfl) rfl (om_X7_state _ _  σ)
theorem call_X7_state {G : KW} {l : Launch} {cc : ByteArray} {nL : Nat} {own : String} {rt : Option FieldType} {R : Room} {α : Type} {X : State → Array Value → Method → Prop} {Z : α → List Frame → Array Value → State → State → Prop} {k0 n0 pc index : Nat} {L : List (Option Value)} {S : List Value} {σ : Sg} {F : Int32 → Sg → Option α} {x1 : Int32} {x2 : Int32} (lk : MLk own index yX7_state)  (hR : R.frames ≥ 3 + 1 ∧ R.locals ≥ 8 + (3 + 11) + 69) (hcs : k0 ≤ R.cells ∧ n0 ≤ R.slots) (hro : (S.map fun v => v.category).sum ≤ 8) (d : decode cc pc = .ok (.invokevirtual index, 3)) (kk : ∀ (r : Int32) (σ' : Sg), Okg G l cc nL own rt R X Z k0 n0 (pc + 3) L (.int r :: S) σ' (F r σ')) : Okg G l cc nL own rt R X Z k0 n0 pc L (.int x2 :: .int x1 :: k_rr G 100 :: S) σ (e_cI (m_X7_state x1 x2 σ) F) :=
  ok_cV (cb := ccI) (As := [.int x1, .int x2]) (ct_X7_state _ _  σ) mo_X7_state hi_X7_state lk rfl (ci := 7) rfl rfl (by decide) ko_100 hR rfl hcs hro d (fun b => kk b.1 b.2)
/-! CoatDinnerModel.behind(II)I -/
def m_X7_behind (x1 : Int32) (x2 : Int32) (σ : Sg) : Option (Int32 × Sg) := e_cI (m_X7_isThere x1 σ) (fun r2 σ1 => (if r2 = 0 then some ((-1), σ1) else e_cI (m_X7_in x2 0 4 σ1) (fun r4 σ3 => (if r4 = 0 then some ((-2), σ3) else e_cI (m_X7_barOfFeast σ3) (fun r6 σ5 => (if 0 ≤ r6 then e_cI (m_X7_stateNow x1 x2 σ5) (fun r8 σ7 => some (r8, σ7)) else some ((-5), σ5)))))))
theorem om_X7_behind {G : KW} {l : Launch} (x1 : Int32) (x2 : Int32)  (σ : Sg) : Okk G l cX7_behind 3 RX7 (some .int) (rmo 5 119) ccI 0 [some (k_rr G 100), some (.int x1), some (.int x2)] [] σ (m_X7_behind x1 x2 σ) := by
  unfold m_X7_behind
  refine ok_aload0 (dq_of td_X7_behind 0 rfl) ?_
  refine ok_iload1 (dq_of td_X7_behind 1 rfl) ?_
  refine call_X7_isThere ml_X7_95  ⟨Nat.le_of_ble_eq_true rfl, Nat.le_of_ble_eq_true rfl⟩ ⟨Nat.zero_le _, Nat.zero_le _⟩ (Nat.le_of_ble_eq_true rfl) (dq_of td_X7_behind 2 rfl) (fun r2 σ1 => ?_)
  refine ok_if_ne (tgt := 10) (dq_of td_X7_behind 3 rfl) (by decide) ?_ ?_
  · refine ok_iload2 (dq_of td_X7_behind 6 rfl) ?_
    refine ok_iconst (v := 0) (dq_of td_X7_behind 7 rfl) (by decide) ?_
    refine ok_iconst (v := 4) (dq_of td_X7_behind 8 rfl) (by decide) ?_
    refine call_X7_in ml_X7_81  ⟨Nat.le_of_ble_eq_true rfl, Nat.le_of_ble_eq_true rfl⟩ ⟨Nat.zero_le _, Nat.zero_le _⟩ (Nat.le_of_ble_eq_true rfl) (dq_of td_X7_behind 9 rfl) (fun r4 σ3 => ?_)
    refine ok_if_ne (tgt := 22) (dq_of td_X7_behind 10 rfl) (by decide) ?_ ?_
    · refine ok_aload0 (dq_of td_X7_behind 13 rfl) ?_
      refine call_X7_barOfFeast ml_X7_156  ⟨Nat.le_of_ble_eq_true rfl, Nat.le_of_ble_eq_true rfl⟩ ⟨Nat.zero_le _, Nat.zero_le _⟩ (Nat.le_of_ble_eq_true rfl) (dq_of td_X7_behind 14 rfl) (fun r6 σ5 => ?_)
      refine ok_if_ge (tgt := 34) (dq_of td_X7_behind 15 rfl) (by decide) ?_ ?_
      · refine ok_aload0 (dq_of td_X7_behind 18 rfl) ?_
        refine ok_iload1 (dq_of td_X7_behind 19 rfl) ?_
        refine ok_iload2 (dq_of td_X7_behind 20 rfl) ?_
        refine call_X7_stateNow ml_X7_159  ⟨Nat.le_of_ble_eq_true rfl, Nat.le_of_ble_eq_true rfl⟩ ⟨Nat.zero_le _, Nat.zero_le _⟩ (Nat.le_of_ble_eq_true rfl) (dq_of td_X7_behind 21 rfl) (fun r8 σ7 => ?_)
        exact ok_iret (dq_of td_X7_behind 22 rfl)
      · refine ok_bipush (v := (-5)) (dq_of td_X7_behind 16 rfl) (by decide) ?_
        refine ok_goto (tgt := 40) (dq_of td_X7_behind 17 rfl) (by decide) ?_
        exact ok_iret (dq_of td_X7_behind 22 rfl)
    · refine ok_bipush (v := (-2)) (dq_of td_X7_behind 11 rfl) (by decide) ?_
      exact ok_iret (dq_of td_X7_behind 12 rfl)
  · refine ok_iconst (v := (-1)) (dq_of td_X7_behind 4 rfl) (by decide) ?_
    exact ok_iret (dq_of td_X7_behind 5 rfl)
theorem ct_X7_behind {G : KW} {l : Launch} (x1 : Int32) (x2 : Int32)  (σ : Sg) : ∀ b, m_X7_behind x1 x2 σ = some b → MetF G l yX7_behind cX7_behind 3 (some .int) 5 119 [k_rr G 100, .int x1, .int x2] (k_wl G σ) (ccI b).1 (k_wl G (ccI b).2) :=
  met_of (by decide) (Nat.le_of_ble_eq_true rfl) rfl (om_X7_behind _ _  σ)
theorem call_X7_behind {G : KW} {l : Launch} {cc : ByteArray} {nL : Nat} {own : String} {rt : Option FieldType} {R : Room} {α : Type} {X : State → Array Value → Method → Prop} {Z : α → List Frame → Array Value → State → State → Prop} {k0 n0 pc index : Nat} {L : List (Option Value)} {S : List Value} {σ : Sg} {F : Int32 → Sg → Option α} {x1 : Int32} {x2 : Int32} (lk : MLk own index yX7_behind)  (hR : R.frames ≥ 5 + 1 ∧ R.locals ≥ 8 + (3 + 11) + 119) (hcs : k0 ≤ R.cells ∧ n0 ≤ R.slots) (hro : (S.map fun v => v.category).sum ≤ 8) (d : decode cc pc = .ok (.invokevirtual index, 3)) (kk : ∀ (r : Int32) (σ' : Sg), Okg G l cc nL own rt R X Z k0 n0 (pc + 3) L (.int r :: S) σ' (F r σ')) : Okg G l cc nL own rt R X Z k0 n0 pc L (.int x2 :: .int x1 :: k_rr G 100 :: S) σ (e_cI (m_X7_behind x1 x2 σ) F) :=
  ok_cV (cb := ccI) (As := [.int x1, .int x2]) (ct_X7_behind _ _  σ) mo_X7_behind hi_X7_behind lk rfl (ci := 7) rfl rfl (by decide) ko_100 hR rfl hcs hro d (fun b => kk b.1 b.2)
/-! CoatDinnerModel.at(I)I -/
def d_X7_at_6 (x1 : Int32) (K : Sg → Option (Int32 × Sg)) (H : Int32 → Sg → Option (Int32 × Sg)) (x2 : Int32) (σ : Sg) : Option (Int32 × Sg) := (if 5 ≤ x2 then K σ else e_cI (m_X7_has (σ 100 0) x2 σ) (fun r3 σ2 => (if r3 = 0 then H (x2 + 1) σ2 else e_cI (m_X7_seatOf x2 σ2) (fun r5 σ4 => (if r5 = x1 then some (x2, σ4) else H (x2 + 1) σ4)))))
theorem od_X7_at_6 {G : KW} {l : Launch} (x1 : Int32)  {K : Sg → Option (Int32 × Sg)} {H : Int32 → Sg → Option (Int32 × Sg)} (hK : ∀  (σ : Sg), Okk G l cX7_at 3 RX7 (some .int) (rmo 2 47) ccI 39 [none, none, none] [] σ (K  σ)) (hH : ∀ (x2 : Int32) (σ : Sg), Okk G l cX7_at 3 RX7 (some .int) (rmo 2 47) ccI 6 [some (k_rr G 100), some (.int x1), some (.int x2)] [] σ (H x2 σ)) (x2 : Int32)  (σ : Sg) : Okk G l cX7_at 3 RX7 (some .int) (rmo 2 47) ccI 6 [some (k_rr G 100), some (.int x1), some (.int x2)] [] σ (d_X7_at_6 x1 K H x2 σ) := by
  unfold d_X7_at_6
  refine ok_iload2 (dq_of td_X7_at 4 rfl) ?_
  refine ok_iconst (v := 5) (dq_of td_X7_at 5 rfl) (by decide) ?_
  refine ok_ic_ge (tgt := 39) (dq_of td_X7_at 6 rfl) (by decide) ?_ ?_
  · refine ok_wk (wk_n (wk_n (wk_n wk_0))) ?_
    exact hK _
  · refine ok_aload0 (dq_of td_X7_at 7 rfl) ?_
    refine ok_get (v := .int (σ 100 0)) fl_X7_85 (by decide) ko_100 rfl (dq_of td_X7_at 8 rfl) ?_
    refine ok_iload2 (dq_of td_X7_at 9 rfl) ?_
    refine call_X7_has ml_X7_88  ⟨Nat.le_of_ble_eq_true rfl, Nat.le_of_ble_eq_true rfl⟩ ⟨Nat.zero_le _, Nat.zero_le _⟩ (Nat.le_of_ble_eq_true rfl) (dq_of td_X7_at 10 rfl) (fun r3 σ2 => ?_)
    refine ok_if_eq (tgt := 33) (dq_of td_X7_at 11 rfl) (by decide) ?_ ?_
    · refine ok_jinc2 (w := 1) (dq_of td_X7_at 19 rfl) (by decide) rfl (by decide) ?_
      refine ok_goto (tgt := 6) (dq_of td_X7_at 20 rfl) (by decide) ?_
      refine ok_wk (wk_s (wk_s (wk_s wk_0))) ?_
      exact hH _ _
    · refine ok_aload0 (dq_of td_X7_at 12 rfl) ?_
      refine ok_iload2 (dq_of td_X7_at 13 rfl) ?_
      refine call_X7_seatOf ml_X7_126  ⟨Nat.le_of_ble_eq_true rfl, Nat.le_of_ble_eq_true rfl⟩ ⟨Nat.zero_le _, Nat.zero_le _⟩ (Nat.le_of_ble_eq_true rfl) (dq_of td_X7_at 14 rfl) (fun r5 σ4 => ?_)
      refine ok_iload1 (dq_of td_X7_at 15 rfl) ?_
      refine ok_ic_ne (tgt := 33) (dq_of td_X7_at 16 rfl) (by decide) ?_ ?_
      · refine ok_jinc2 (w := 1) (dq_of td_X7_at 19 rfl) (by decide) rfl (by decide) ?_
        refine ok_goto (tgt := 6) (dq_of td_X7_at 20 rfl) (by decide) ?_
        refine ok_wk (wk_s (wk_s (wk_s wk_0))) ?_
        exact hH _ _
      · refine ok_iload2 (dq_of td_X7_at 17 rfl) ?_
        exact ok_iret (dq_of td_X7_at 18 rfl)
theorem ld_X7_at_6 {G : KW} {l : Launch} (x1 : Int32)  {K : Sg → Option (Int32 × Sg)} (hK : ∀  (σ : Sg), Okk G l cX7_at 3 RX7 (some .int) (rmo 2 47) ccI 39 [none, none, none] [] σ (K  σ)) (n : Nat) (x2 : Int32) (σ : Sg) : Okk G l cX7_at 3 RX7 (some .int) (rmo 2 47) ccI 6 [some (k_rr G 100), some (.int x1), some (.int x2)] [] σ (e_lp1 (d_X7_at_6 x1 K) n x2 σ) :=
  ok_lp1 (Lf := fun (x2 : Int32) => [some (k_rr G 100), some (.int x1), some (.int x2)]) (fun _ hH x2 σ => od_X7_at_6 _  hK hH x2 σ) n x2 σ
def m_X7_at (x1 : Int32) (σ : Sg) : Option (Int32 × Sg) := e_cV (m_X7_asNow σ) (fun σ1 => e_lp1 (d_X7_at_6 x1 (fun σ6 => some ((-6), σ6))) e_F 0 σ1)
theorem om_X7_at {G : KW} {l : Launch} (x1 : Int32)  (σ : Sg) : Okk G l cX7_at 3 RX7 (some .int) (rmo 2 47) ccI 0 [some (k_rr G 100), some (.int x1), none] [] σ (m_X7_at x1 σ) := by
  unfold m_X7_at
  refine ok_aload0 (dq_of td_X7_at 0 rfl) ?_
  refine call_X7_asNow ml_X7_132  ⟨Nat.le_of_ble_eq_true rfl, Nat.le_of_ble_eq_true rfl⟩ ⟨Nat.zero_le _, Nat.zero_le _⟩ (Nat.le_of_ble_eq_true rfl) (dq_of td_X7_at 1 rfl) (fun σ1 => ?_)
  refine ok_iconst (v := 0) (dq_of td_X7_at 2 rfl) (by decide) ?_
  refine ok_istore2 (dq_of td_X7_at 3 rfl) rfl (by decide) ?_
  refine ok_wk (wk_s (wk_s (wk_s wk_0))) ?_
  refine ld_X7_at_6 _  (fun σ6 => ?_) _ _ _
  refine ok_bipush (v := (-6)) (dq_of td_X7_at 21 rfl) (by decide) ?_
  exact ok_iret (dq_of td_X7_at 22 rfl)
theorem ct_X7_at {G : KW} {l : Launch} (x1 : Int32)  (σ : Sg) : ∀ b, m_X7_at x1 σ = some b → MetF G l yX7_at cX7_at 3 (some .int) 2 47 [k_rr G 100, .int x1] (k_wl G σ) (ccI b).1 (k_wl G (ccI b).2) :=
  met_of (by decide) (Nat.le_of_ble_eq_true rfl) rfl (om_X7_at _  σ)
theorem call_X7_at {G : KW} {l : Launch} {cc : ByteArray} {nL : Nat} {own : String} {rt : Option FieldType} {R : Room} {α : Type} {X : State → Array Value → Method → Prop} {Z : α → List Frame → Array Value → State → State → Prop} {k0 n0 pc index : Nat} {L : List (Option Value)} {S : List Value} {σ : Sg} {F : Int32 → Sg → Option α} {x1 : Int32} (lk : MLk own index yX7_at)  (hR : R.frames ≥ 2 + 1 ∧ R.locals ≥ 8 + (3 + 11) + 47) (hcs : k0 ≤ R.cells ∧ n0 ≤ R.slots) (hro : (S.map fun v => v.category).sum ≤ 8) (d : decode cc pc = .ok (.invokevirtual index, 3)) (kk : ∀ (r : Int32) (σ' : Sg), Okg G l cc nL own rt R X Z k0 n0 (pc + 3) L (.int r :: S) σ' (F r σ')) : Okg G l cc nL own rt R X Z k0 n0 pc L (.int x1 :: k_rr G 100 :: S) σ (e_cI (m_X7_at x1 σ) F) :=
  ok_cV (cb := ccI) (As := [.int x1]) (ct_X7_at _  σ) mo_X7_at hi_X7_at lk rfl (ci := 7) rfl rfl (by decide) ko_100 hR rfl hcs hro d (fun b => kk b.1 b.2)
/-! CoatDinnerModel.codeOf()I -/
def d_X7_codeOf_4  (K : Int32 → Sg → Option (Int32 × Sg)) (H : Int32 → Int32 → Sg → Option (Int32 × Sg)) (x1 : Int32) (x2 : Int32) (σ : Sg) : Option (Int32 × Sg) := (if x2 < 0 then K x1 σ else e_gd (k_in x2 5) (e_lt ((6 * x1) + (σ 114 (Int32.toNatClampNeg x2))) (fun v1 => H v1 (x2 + (-1)) σ)))
theorem od_X7_codeOf_4 {G : KW} {l : Launch}   {K : Int32 → Sg → Option (Int32 × Sg)} {H : Int32 → Int32 → Sg → Option (Int32 × Sg)} (hK : ∀ (x1 : Int32) (σ : Sg), Okk G l cX7_codeOf 3 RX7 (some .int) (rmo 0 0) ccI 26 [none, some (.int x1), none] [] σ (K x1 σ)) (hH : ∀ (x1 : Int32) (x2 : Int32) (σ : Sg), Okk G l cX7_codeOf 3 RX7 (some .int) (rmo 0 0) ccI 4 [some (k_rr G 100), some (.int x1), some (.int x2)] [] σ (H x1 x2 σ)) (x1 : Int32) (x2 : Int32)  (σ : Sg) : Okk G l cX7_codeOf 3 RX7 (some .int) (rmo 0 0) ccI 4 [some (k_rr G 100), some (.int x1), some (.int x2)] [] σ (d_X7_codeOf_4  K H x1 x2 σ) := by
  unfold d_X7_codeOf_4
  refine ok_iload2 (dq_of td_X7_codeOf 4 rfl) ?_
  refine ok_if_lt (tgt := 26) (dq_of td_X7_codeOf 5 rfl) (by decide) ?_ ?_
  · refine ok_wk (wk_n (wk_s (wk_n wk_0))) ?_
    exact hK _ _
  · refine ok_bipush (v := 6) (dq_of td_X7_codeOf 6 rfl) (by decide) ?_
    refine ok_iload1 (dq_of td_X7_codeOf 7 rfl) ?_
    refine ok_imul (dq_of td_X7_codeOf 8 rfl) ?_
    refine ok_aload0 (dq_of td_X7_codeOf 9 rfl) ?_
    refine ok_get (v := k_rr G 114) fl_X7_53 (by decide) ko_100 rfl (dq_of td_X7_codeOf 10 rfl) ?_
    refine ok_iload2 (dq_of td_X7_codeOf 11 rfl) ?_
    refine ok_iald ka_114 (dq_of td_X7_codeOf 12 rfl) ?_
    refine ok_iadd (dq_of td_X7_codeOf 13 rfl) ?_
    refine ok_gI (fun v1 => ?_)
    refine ok_istore1 (dq_of td_X7_codeOf 14 rfl) rfl (by decide) ?_
    refine ok_jinc2 (w := (-1)) (dq_of td_X7_codeOf 15 rfl) (by decide) rfl (by decide) ?_
    refine ok_goto (tgt := 4) (dq_of td_X7_codeOf 16 rfl) (by decide) ?_
    refine ok_wk (wk_s (wk_s (wk_s wk_0))) ?_
    exact hH _ _ _
theorem ld_X7_codeOf_4 {G : KW} {l : Launch}   {K : Int32 → Sg → Option (Int32 × Sg)} (hK : ∀ (x1 : Int32) (σ : Sg), Okk G l cX7_codeOf 3 RX7 (some .int) (rmo 0 0) ccI 26 [none, some (.int x1), none] [] σ (K x1 σ)) (n : Nat) (x1 : Int32) (x2 : Int32) (σ : Sg) : Okk G l cX7_codeOf 3 RX7 (some .int) (rmo 0 0) ccI 4 [some (k_rr G 100), some (.int x1), some (.int x2)] [] σ (e_lp2 (d_X7_codeOf_4  K) n x1 x2 σ) :=
  ok_lp2 (Lf := fun (x1 : Int32) (x2 : Int32) => [some (k_rr G 100), some (.int x1), some (.int x2)]) (fun _ hH x1 x2 σ => od_X7_codeOf_4   hK hH x1 x2 σ) n x1 x2 σ
def m_X7_codeOf  (σ : Sg) : Option (Int32 × Sg) := e_lp2 (d_X7_codeOf_4  (fun x1q2 σ2 => some (x1q2, σ2))) e_F 0 4 σ
theorem om_X7_codeOf {G : KW} {l : Launch}   (σ : Sg) : Okk G l cX7_codeOf 3 RX7 (some .int) (rmo 0 0) ccI 0 [some (k_rr G 100), none, none] [] σ (m_X7_codeOf  σ) := by
  unfold m_X7_codeOf
  refine ok_iconst (v := 0) (dq_of td_X7_codeOf 0 rfl) (by decide) ?_
  refine ok_istore1 (dq_of td_X7_codeOf 1 rfl) rfl (by decide) ?_
  refine ok_iconst (v := 4) (dq_of td_X7_codeOf 2 rfl) (by decide) ?_
  refine ok_istore2 (dq_of td_X7_codeOf 3 rfl) rfl (by decide) ?_
  refine ok_wk (wk_s (wk_s (wk_s wk_0))) ?_
  refine ld_X7_codeOf_4   (fun x1q2 σ2 => ?_) _ _ _ _
  refine ok_iload1 (dq_of td_X7_codeOf 17 rfl) ?_
  exact ok_iret (dq_of td_X7_codeOf 18 rfl)
theorem ct_X7_codeOf {G : KW} {l : Launch}   (σ : Sg) : ∀ b, m_X7_codeOf  σ = some b → MetF G l yX7_codeOf cX7_codeOf 3 (some .int) 0 0 [k_rr G 100] (k_wl G σ) (ccI b).1 (k_wl G (ccI b).2) :=
  met_of (by decide) (Nat.le_of_ble_eq_true rfl) rfl (om_X7_codeOf   σ)
theorem call_X7_codeOf {G : KW} {l : Launch} {cc : ByteArray} {nL : Nat} {own : String} {rt : Option FieldType} {R : Room} {α : Type} {X : State → Array Value → Method → Prop} {Z : α → List Frame → Array Value → State → State → Prop} {k0 n0 pc index : Nat} {L : List (Option Value)} {S : List Value} {σ : Sg} {F : Int32 → Sg → Option α}  (lk : MLk own index yX7_codeOf)  (hR : R.frames ≥ 0 + 1 ∧ R.locals ≥ 8 + (3 + 11) + 0) (hcs : k0 ≤ R.cells ∧ n0 ≤ R.slots) (hro : (S.map fun v => v.category).sum ≤ 8) (d : decode cc pc = .ok (.invokevirtual index, 3)) (kk : ∀ (r : Int32) (σ' : Sg), Okg G l cc nL own rt R X Z k0 n0 (pc + 3) L (.int r :: S) σ' (F r σ')) : Okg G l cc nL own rt R X Z k0 n0 pc L (k_rr G 100 :: S) σ (e_cI (m_X7_codeOf  σ) F) :=
  ok_cV (cb := ccI) (As := []) (ct_X7_codeOf   σ) mo_X7_codeOf hi_X7_codeOf lk rfl (ci := 7) rfl rfl (by decide) ko_100 hR rfl hcs hro d (fun b => kk b.1 b.2)
/-! CoatDinnerModel.dress(I)V -/
def d_X7_dress_4 (x1 : Int32) (K : Sg → Option (Sg)) (H : Int32 → Int32 → Sg → Option (Sg)) (x2 : Int32) (x3 : Int32) (σ : Sg) : Option (Sg) := (if 5 ≤ x3 then K σ else e_wr σ 114 x3 5 (jrm x2 6) (fun σ1 => e_lt (x2 / 6) (fun v2 => H v2 (x3 + 1) σ1)))
theorem od_X7_dress_4 {G : KW} {l : Launch} (x1 : Int32)  {K : Sg → Option (Sg)} {H : Int32 → Int32 → Sg → Option (Sg)} (hK : ∀  (σ : Sg), Okk G l cX7_dress 4 RX7 none (rmo 0 0) ccV 30 [none, none, none, none] [] σ (K  σ)) (hH : ∀ (x2 : Int32) (x3 : Int32) (σ : Sg), Okk G l cX7_dress 4 RX7 none (rmo 0 0) ccV 4 [some (k_rr G 100), none, some (.int x2), some (.int x3)] [] σ (H x2 x3 σ)) (x2 : Int32) (x3 : Int32)  (σ : Sg) : Okk G l cX7_dress 4 RX7 none (rmo 0 0) ccV 4 [some (k_rr G 100), none, some (.int x2), some (.int x3)] [] σ (d_X7_dress_4 x1 K H x2 x3 σ) := by
  unfold d_X7_dress_4
  refine ok_iload3 (dq_of td_X7_dress 4 rfl) ?_
  refine ok_iconst (v := 5) (dq_of td_X7_dress 5 rfl) (by decide) ?_
  refine ok_ic_ge (tgt := 30) (dq_of td_X7_dress 6 rfl) (by decide) ?_ ?_
  · refine ok_wk (wk_n (wk_n (wk_n (wk_n wk_0)))) ?_
    exact hK _
  · refine ok_aload0 (dq_of td_X7_dress 7 rfl) ?_
    refine ok_get (v := k_rr G 114) fl_X7_53 (by decide) ko_100 rfl (dq_of td_X7_dress 8 rfl) ?_
    refine ok_iload3 (dq_of td_X7_dress 9 rfl) ?_
    refine ok_iload2 (dq_of td_X7_dress 10 rfl) ?_
    refine ok_bipush (v := 6) (dq_of td_X7_dress 11 rfl) (by decide) ?_
    refine ok_irem (dq_of td_X7_dress 12 rfl) (by decide) ?_
    refine ok_iast ka_114 (dq_of td_X7_dress 13 rfl) (fun σ1 => ?_)
    refine ok_iload2 (dq_of td_X7_dress 14 rfl) ?_
    refine ok_bipush (v := 6) (dq_of td_X7_dress 15 rfl) (by decide) ?_
    refine ok_idiv (dq_of td_X7_dress 16 rfl) (by decide) ?_
    refine ok_gI (fun v2 => ?_)
    refine ok_istore2 (dq_of td_X7_dress 17 rfl) rfl (by decide) ?_
    refine ok_jinc3 (w := 1) (dq_of td_X7_dress 18 rfl) (by decide) rfl (by decide) ?_
    refine ok_goto (tgt := 4) (dq_of td_X7_dress 19 rfl) (by decide) ?_
    refine ok_wk (wk_s (wk_n (wk_s (wk_s wk_0)))) ?_
    exact hH _ _ _
theorem ld_X7_dress_4 {G : KW} {l : Launch} (x1 : Int32)  {K : Sg → Option (Sg)} (hK : ∀  (σ : Sg), Okk G l cX7_dress 4 RX7 none (rmo 0 0) ccV 30 [none, none, none, none] [] σ (K  σ)) (n : Nat) (x2 : Int32) (x3 : Int32) (σ : Sg) : Okk G l cX7_dress 4 RX7 none (rmo 0 0) ccV 4 [some (k_rr G 100), none, some (.int x2), some (.int x3)] [] σ (e_lp2 (d_X7_dress_4 x1 K) n x2 x3 σ) :=
  ok_lp2 (Lf := fun (x2 : Int32) (x3 : Int32) => [some (k_rr G 100), none, some (.int x2), some (.int x3)]) (fun _ hH x2 x3 σ => od_X7_dress_4 _  hK hH x2 x3 σ) n x2 x3 σ
def m_X7_dress (x1 : Int32) (σ : Sg) : Option (Sg) := e_lp2 (d_X7_dress_4 x1 (fun σ3 => some σ3)) e_F x1 0 σ
theorem om_X7_dress {G : KW} {l : Launch} (x1 : Int32)  (σ : Sg) : Okk G l cX7_dress 4 RX7 none (rmo 0 0) ccV 0 [some (k_rr G 100), some (.int x1), none, none] [] σ (m_X7_dress x1 σ) := by
  unfold m_X7_dress
  refine ok_iload1 (dq_of td_X7_dress 0 rfl) ?_
  refine ok_istore2 (dq_of td_X7_dress 1 rfl) rfl (by decide) ?_
  refine ok_iconst (v := 0) (dq_of td_X7_dress 2 rfl) (by decide) ?_
  refine ok_istore3 (dq_of td_X7_dress 3 rfl) rfl (by decide) ?_
  refine ok_wk (wk_s (wk_n (wk_s (wk_s wk_0)))) ?_
  refine ld_X7_dress_4 _  (fun σ3 => ?_) _ _ _ _
  exact ok_vret (dq_of td_X7_dress 20 rfl)
theorem ct_X7_dress {G : KW} {l : Launch} (x1 : Int32)  (σ : Sg) : ∀ b, m_X7_dress x1 σ = some b → MetF G l yX7_dress cX7_dress 4 none 0 0 [k_rr G 100, .int x1] (k_wl G σ) (ccV b).1 (k_wl G (ccV b).2) :=
  met_of (by decide) (Nat.le_of_ble_eq_true rfl) rfl (om_X7_dress _  σ)
theorem call_X7_dress {G : KW} {l : Launch} {cc : ByteArray} {nL : Nat} {own : String} {rt : Option FieldType} {R : Room} {α : Type} {X : State → Array Value → Method → Prop} {Z : α → List Frame → Array Value → State → State → Prop} {k0 n0 pc index : Nat} {L : List (Option Value)} {S : List Value} {σ : Sg} {F : Sg → Option α} {x1 : Int32} (lk : MLk own index yX7_dress)  (hR : R.frames ≥ 0 + 1 ∧ R.locals ≥ 8 + (4 + 11) + 0) (hcs : k0 ≤ R.cells ∧ n0 ≤ R.slots) (hro : (S.map fun v => v.category).sum ≤ 8) (d : decode cc pc = .ok (.invokevirtual index, 3)) (kk : ∀ σ' : Sg, Okg G l cc nL own rt R X Z k0 n0 (pc + 3) L S σ' (F σ')) : Okg G l cc nL own rt R X Z k0 n0 pc L (.int x1 :: k_rr G 100 :: S) σ (e_cV (m_X7_dress x1 σ) F) :=
  ok_cV (cb := ccV) (As := [.int x1]) (ct_X7_dress _  σ) mo_X7_dress hi_X7_dress lk rfl (ci := 7) rfl rfl (by decide) ko_100 hR rfl hcs hro d (fun b => kk b)
/-! CoatDinnerModel.isSo(III)Z -/
def b_X7_isSo_54 (x1 : Int32) (x2 : Int32) (x3 : Int32)  (σ : Sg) : Option (Int32 × Sg) := e_rz 1 σ
def b_X7_isSo_19 (x1 : Int32) (x2 : Int32) (x3 : Int32) (s0 : Int32) (σ : Sg) : Option (Int32 × Sg) := (if 0 ≤ x2 then (if s0 = 1 then b_X7_isSo_54 x1 x2 x3 σ else (if s0 = ((-1)) then b_X7_isSo_54 x1 x2 x3 σ else e_rz 0 σ)) else e_cI (m_X7_seatOf x1 σ) (fun r6 σ5 => (if x3 < r6 then e_rz 0 σ5 else e_rz 1 σ5)))
theorem ob_X7_isSo_54 {G : KW} {l : Launch} (x1 : Int32) (x2 : Int32) (x3 : Int32)    (σ : Sg) : Okk G l cX7_isSo 5 RX7 (some .boolean) (rmo 2 47) ccI 54 [none, none, none, none, none] [] σ (b_X7_isSo_54 x1 x2 x3  σ) := by
  unfold b_X7_isSo_54
  refine ok_iconst (v := 1) (dq_of td_X7_isSo 29 rfl) (by decide) ?_
  refine ok_goto (tgt := 59) (dq_of td_X7_isSo 30 rfl) (by decide) ?_
  exact ok_zret (dq_of td_X7_isSo 32 rfl)
theorem ob_X7_isSo_19 {G : KW} {l : Launch} (x1 : Int32) (x2 : Int32) (x3 : Int32)  (s0 : Int32)  (σ : Sg) : Okk G l cX7_isSo 5 RX7 (some .boolean) (rmo 2 47) ccI 19 [some (k_rr G 100), some (.int x1), some (.int x2), some (.int x3), none] [.int s0] σ (b_X7_isSo_19 x1 x2 x3 s0 σ) := by
  unfold b_X7_isSo_19
  refine ok_istore4 (dq_of td_X7_isSo 11 rfl) rfl (by decide) ?_
  refine ok_iload2 (dq_of td_X7_isSo 12 rfl) ?_
  refine ok_if_ge (tgt := 42) (dq_of td_X7_isSo 13 rfl) (by decide) ?_ ?_
  · refine ok_iload4 (dq_of td_X7_isSo 23 rfl) ?_
    refine ok_iconst (v := 1) (dq_of td_X7_isSo 24 rfl) (by decide) ?_
    refine ok_ic_eq (tgt := 54) (dq_of td_X7_isSo 25 rfl) (by decide) ?_ ?_
    · refine ok_wk (wk_n (wk_n (wk_n (wk_n (wk_n wk_0))))) ?_
      exact ob_X7_isSo_54 _ _ _   _
    · refine ok_iload4 (dq_of td_X7_isSo 26 rfl) ?_
      refine ok_iconst (v := (-1)) (dq_of td_X7_isSo 27 rfl) (by decide) ?_
      refine ok_ic_ne (tgt := 58) (dq_of td_X7_isSo 28 rfl) (by decide) ?_ ?_
      · refine ok_iconst (v := 0) (dq_of td_X7_isSo 31 rfl) (by decide) ?_
        exact ok_zret (dq_of td_X7_isSo 32 rfl)
      · refine ok_wk (wk_n (wk_n (wk_n (wk_n (wk_n wk_0))))) ?_
        exact ob_X7_isSo_54 _ _ _   _
  · refine ok_aload0 (dq_of td_X7_isSo 14 rfl) ?_
    refine ok_iload1 (dq_of td_X7_isSo 15 rfl) ?_
    refine call_X7_seatOf ml_X7_126  ⟨Nat.le_of_ble_eq_true rfl, Nat.le_of_ble_eq_true rfl⟩ ⟨Nat.zero_le _, Nat.zero_le _⟩ (Nat.le_of_ble_eq_true rfl) (dq_of td_X7_isSo 16 rfl) (fun r6 σ5 => ?_)
    refine ok_iload3 (dq_of td_X7_isSo 17 rfl) ?_
    refine ok_ic_gt (tgt := 38) (dq_of td_X7_isSo 18 rfl) (by decide) ?_ ?_
    · refine ok_iconst (v := 0) (dq_of td_X7_isSo 21 rfl) (by decide) ?_
      refine ok_goto (tgt := 59) (dq_of td_X7_isSo 22 rfl) (by decide) ?_
      exact ok_zret (dq_of td_X7_isSo 32 rfl)
    · refine ok_iconst (v := 1) (dq_of td_X7_isSo 19 rfl) (by decide) ?_
      refine ok_goto (tgt := 59) (dq_of td_X7_isSo 20 rfl) (by decide) ?_
      exact ok_zret (dq_of td_X7_isSo 32 rfl)
def m_X7_isSo (x1 : Int32) (x2 : Int32) (x3 : Int32) (σ : Sg) : Option (Int32 × Sg) := (if 0 ≤ x2 then e_cI (m_X7_seatOf x1 σ) (fun r2 σ1 => e_cI (m_X7_seatOf x2 σ1) (fun r4 σ3 => b_X7_isSo_19 x1 x2 x3 (r2 - r4) σ3)) else b_X7_isSo_19 x1 x2 x3 0 σ)
theorem om_X7_isSo {G : KW} {l : Launch} (x1 : Int32) (x2 : Int32) (x3 : Int32)  (σ : Sg) : Okk G l cX7_isSo 5 RX7 (some .boolean) (rmo 2 47) ccI 0 [some (k_rr G 100), some (.int x1), some (.int x2), some (.int x3), none] [] σ (m_X7_isSo x1 x2 x3 σ) := by
  unfold m_X7_isSo
  refine ok_iload2 (dq_of td_X7_isSo 0 rfl) ?_
  refine ok_if_ge (tgt := 8) (dq_of td_X7_isSo 1 rfl) (by decide) ?_ ?_
  · refine ok_aload0 (dq_of td_X7_isSo 4 rfl) ?_
    refine ok_iload1 (dq_of td_X7_isSo 5 rfl) ?_
    refine call_X7_seatOf ml_X7_126  ⟨Nat.le_of_ble_eq_true rfl, Nat.le_of_ble_eq_true rfl⟩ ⟨Nat.zero_le _, Nat.zero_le _⟩ (Nat.le_of_ble_eq_true rfl) (dq_of td_X7_isSo 6 rfl) (fun r2 σ1 => ?_)
    refine ok_aload0 (dq_of td_X7_isSo 7 rfl) ?_
    refine ok_iload2 (dq_of td_X7_isSo 8 rfl) ?_
    refine call_X7_seatOf ml_X7_126  ⟨Nat.le_of_ble_eq_true rfl, Nat.le_of_ble_eq_true rfl⟩ ⟨Nat.zero_le _, Nat.zero_le _⟩ (Nat.le_of_ble_eq_true rfl) (dq_of td_X7_isSo 9 rfl) (fun r4 σ3 => ?_)
    refine ok_isub (dq_of td_X7_isSo 10 rfl) ?_
    refine ok_wk (wk_s (wk_s (wk_s (wk_s (wk_n wk_0))))) ?_
    exact ob_X7_isSo_19 _ _ _  _  _
  · refine ok_iconst (v := 0) (dq_of td_X7_isSo 2 rfl) (by decide) ?_
    refine ok_goto (tgt := 19) (dq_of td_X7_isSo 3 rfl) (by decide) ?_
    refine ok_wk (wk_s (wk_s (wk_s (wk_s (wk_n wk_0))))) ?_
    exact ob_X7_isSo_19 _ _ _  _  _
theorem ct_X7_isSo {G : KW} {l : Launch} (x1 : Int32) (x2 : Int32) (x3 : Int32)  (σ : Sg) : ∀ b, m_X7_isSo x1 x2 x3 σ = some b → MetF G l yX7_isSo cX7_isSo 5 (some .boolean) 2 47 [k_rr G 100, .int x1, .int x2, .int x3] (k_wl G σ) (ccI b).1 (k_wl G (ccI b).2) :=
  met_of (by decide) (Nat.le_of_ble_eq_true rfl) rfl (om_X7_isSo _ _ _  σ)
theorem call_X7_isSo {G : KW} {l : Launch} {cc : ByteArray} {nL : Nat} {own : String} {rt : Option FieldType} {R : Room} {α : Type} {X : State → Array Value → Method → Prop} {Z : α → List Frame → Array Value → State → State → Prop} {k0 n0 pc index : Nat} {L : List (Option Value)} {S : List Value} {σ : Sg} {F : Int32 → Sg → Option α} {x1 : Int32} {x2 : Int32} {x3 : Int32} (lk : MLk own index yX7_isSo)  (hR : R.frames ≥ 2 + 1 ∧ R.locals ≥ 8 + (5 + 11) + 47) (hcs : k0 ≤ R.cells ∧ n0 ≤ R.slots) (hro : (S.map fun v => v.category).sum ≤ 8) (d : decode cc pc = .ok (.invokevirtual index, 3)) (kk : ∀ (r : Int32) (σ' : Sg), Okg G l cc nL own rt R X Z k0 n0 (pc + 3) L (.int r :: S) σ' (F r σ')) : Okg G l cc nL own rt R X Z k0 n0 pc L (.int x3 :: .int x2 :: .int x1 :: k_rr G 100 :: S) σ (e_cI (m_X7_isSo x1 x2 x3 σ) F) :=
  ok_cV (cb := ccI) (As := [.int x1, .int x2, .int x3]) (ct_X7_isSo _ _ _  σ) mo_X7_isSo hi_X7_isSo lk rfl (ci := 7) rfl rfl (by decide) ko_100 hR rfl hcs hro d (fun b => kk b.1 b.2)
/-! CoatDinnerModel.reach(IIIII)V -/
def b_X7_reach_74 (x1 : Int32) (x2 : Int32) (x3 : Int32) (x4 : Int32) (x5 : Int32) (x6 : Int32) (x7 : Int32) (s0 : Int32) (s1 : Int32) (s2 : Nat) (σ : Sg) : Option (Sg) := e_gd (k_ar s2) (e_wr σ s2 s1 (k_ln s2) s0 (fun σ8 => e_wr σ8 114 x1 5 x6 (fun σ10 => e_wr σ10 114 x3 5 x7 (fun σ11 => some σ11))))
def b_X7_reach_39 (x1 : Int32) (x2 : Int32) (x3 : Int32) (x4 : Int32) (x5 : Int32) (x6 : Int32) (x7 : Int32) (s0 : Int32) (s1 : Int32) (s2 : Nat) (σ : Sg) : Option (Sg) := e_gd (k_ar s2) (e_wr σ s2 s1 (k_ln s2) s0 (fun σ4 => e_cI (m_X7_codeOf σ4) (fun r7 σ6 => e_gd (k_in r7 7776) ((if 0 ≤ (σ6 119 (Int32.toNatClampNeg r7)) then e_gd (k_in r7 7776) (b_X7_reach_74 x1 x2 x3 x4 x5 x6 x7 (σ6 119 (Int32.toNatClampNeg r7)) r7 119 σ6) else b_X7_reach_74 x1 x2 x3 x4 x5 x6 x7 x5 r7 119 σ6)))))
theorem ob_X7_reach_74 {G : KW} {l : Launch} (x1 : Int32) (x2 : Int32) (x3 : Int32) (x4 : Int32) (x5 : Int32)  (x6 : Int32) (x7 : Int32) (s0 : Int32) (s1 : Int32) (s2 : Nat)  (σ : Sg) : Okk G l cX7_reach 9 RX7 none (rmo 1 22) ccV 74 [some (k_rr G 100), some (.int x1), none, some (.int x3), none, none, some (.int x6), some (.int x7), none] [.int s0, .int s1, k_rr G s2] σ (b_X7_reach_74 x1 x2 x3 x4 x5 x6 x7 s0 s1 s2 σ) := by
  unfold b_X7_reach_74
  refine ok_gd (fun hg9 => ?_)
  refine ok_iast (k_ar_of hg9) (dq_of td_X7_reach 42 rfl) (fun σ8 => ?_)
  refine ok_aload0 (dq_of td_X7_reach 43 rfl) ?_
  refine ok_get (v := k_rr G 114) fl_X7_53 (by decide) ko_100 rfl (dq_of td_X7_reach 44 rfl) ?_
  refine ok_iload1 (dq_of td_X7_reach 45 rfl) ?_
  refine ok_iload6 (dq_of td_X7_reach 46 rfl) ?_
  refine ok_iast ka_114 (dq_of td_X7_reach 47 rfl) (fun σ10 => ?_)
  refine ok_aload0 (dq_of td_X7_reach 48 rfl) ?_
  refine ok_get (v := k_rr G 114) fl_X7_53 (by decide) ko_100 rfl (dq_of td_X7_reach 49 rfl) ?_
  refine ok_iload3 (dq_of td_X7_reach 50 rfl) ?_
  refine ok_iload7 (dq_of td_X7_reach 51 rfl) ?_
  refine ok_iast ka_114 (dq_of td_X7_reach 52 rfl) (fun σ11 => ?_)
  exact ok_vret (dq_of td_X7_reach 53 rfl)
theorem ob_X7_reach_39 {G : KW} {l : Launch} (x1 : Int32) (x2 : Int32) (x3 : Int32) (x4 : Int32) (x5 : Int32)  (x6 : Int32) (x7 : Int32) (s0 : Int32) (s1 : Int32) (s2 : Nat)  (σ : Sg) : Okk G l cX7_reach 9 RX7 none (rmo 1 22) ccV 39 [some (k_rr G 100), some (.int x1), none, some (.int x3), none, some (.int x5), some (.int x6), some (.int x7), none] [.int s0, .int s1, k_rr G s2] σ (b_X7_reach_39 x1 x2 x3 x4 x5 x6 x7 s0 s1 s2 σ) := by
  unfold b_X7_reach_39
  refine ok_gd (fun hg5 => ?_)
  refine ok_iast (k_ar_of hg5) (dq_of td_X7_reach 24 rfl) (fun σ4 => ?_)
  refine ok_aload0 (dq_of td_X7_reach 25 rfl) ?_
  refine call_X7_codeOf ml_X7_162  ⟨Nat.le_of_ble_eq_true rfl, Nat.le_of_ble_eq_true rfl⟩ ⟨Nat.zero_le _, Nat.zero_le _⟩ (Nat.le_of_ble_eq_true rfl) (dq_of td_X7_reach 26 rfl) (fun r7 σ6 => ?_)
  refine ok_istore8 (dq_of td_X7_reach 27 rfl) rfl (by decide) ?_
  refine ok_aload0 (dq_of td_X7_reach 28 rfl) ?_
  refine ok_get (v := k_rr G 119) fl_X7_68 (by decide) ko_100 rfl (dq_of td_X7_reach 29 rfl) ?_
  refine ok_iload8 (dq_of td_X7_reach 30 rfl) ?_
  refine ok_aload0 (dq_of td_X7_reach 31 rfl) ?_
  refine ok_get (v := k_rr G 119) fl_X7_68 (by decide) ko_100 rfl (dq_of td_X7_reach 32 rfl) ?_
  refine ok_iload8 (dq_of td_X7_reach 33 rfl) ?_
  refine ok_iald ka_119 (dq_of td_X7_reach 34 rfl) ?_
  refine ok_if_ge (tgt := 67) (dq_of td_X7_reach 35 rfl) (by decide) ?_ ?_
  · refine ok_aload0 (dq_of td_X7_reach 38 rfl) ?_
    refine ok_get (v := k_rr G 119) fl_X7_68 (by decide) ko_100 rfl (dq_of td_X7_reach 39 rfl) ?_
    refine ok_iload8 (dq_of td_X7_reach 40 rfl) ?_
    refine ok_iald ka_119 (dq_of td_X7_reach 41 rfl) ?_
    refine ok_wk (wk_s (wk_s (wk_n (wk_s (wk_n (wk_n (wk_s (wk_s (wk_n wk_0))))))))) ?_
    exact ob_X7_reach_74 _ _ _ _ _  _ _ _ _ _  _
  · refine ok_iload5 (dq_of td_X7_reach 36 rfl) ?_
    refine ok_goto (tgt := 74) (dq_of td_X7_reach 37 rfl) (by decide) ?_
    refine ok_wk (wk_s (wk_s (wk_n (wk_s (wk_n (wk_n (wk_s (wk_s (wk_n wk_0))))))))) ?_
    exact ob_X7_reach_74 _ _ _ _ _  _ _ _ _ _  _
def m_X7_reach (x1 : Int32) (x2 : Int32) (x3 : Int32) (x4 : Int32) (x5 : Int32) (σ : Sg) : Option (Sg) := e_gd (k_in x1 5) (e_lt (σ 114 (Int32.toNatClampNeg x1)) (fun v1 => e_gd (k_in x3 5) (e_lt (σ 114 (Int32.toNatClampNeg x3)) (fun v2 => e_wr σ 114 x1 5 x2 (fun σ3 => (if x3 = x1 then b_X7_reach_39 x1 x2 x3 x4 x5 v1 v2 x2 x3 114 σ3 else b_X7_reach_39 x1 x2 x3 x4 x5 v1 v2 x4 x3 114 σ3))))))
theorem om_X7_reach {G : KW} {l : Launch} (x1 : Int32) (x2 : Int32) (x3 : Int32) (x4 : Int32) (x5 : Int32)  (σ : Sg) : Okk G l cX7_reach 9 RX7 none (rmo 1 22) ccV 0 [some (k_rr G 100), some (.int x1), some (.int x2), some (.int x3), some (.int x4), some (.int x5), none, none, none] [] σ (m_X7_reach x1 x2 x3 x4 x5 σ) := by
  unfold m_X7_reach
  refine ok_aload0 (dq_of td_X7_reach 0 rfl) ?_
  refine ok_get (v := k_rr G 114) fl_X7_53 (by decide) ko_100 rfl (dq_of td_X7_reach 1 rfl) ?_
  refine ok_iload1 (dq_of td_X7_reach 2 rfl) ?_
  refine ok_iald ka_114 (dq_of td_X7_reach 3 rfl) ?_
  refine ok_gI (fun v1 => ?_)
  refine ok_istore6 (dq_of td_X7_reach 4 rfl) rfl (by decide) ?_
  refine ok_aload0 (dq_of td_X7_reach 5 rfl) ?_
  refine ok_get (v := k_rr G 114) fl_X7_53 (by decide) ko_100 rfl (dq_of td_X7_reach 6 rfl) ?_
  refine ok_iload3 (dq_of td_X7_reach 7 rfl) ?_
  refine ok_iald ka_114 (dq_of td_X7_reach 8 rfl) ?_
  refine ok_gI (fun v2 => ?_)
  refine ok_istore7 (dq_of td_X7_reach 9 rfl) rfl (by decide) ?_
  refine ok_aload0 (dq_of td_X7_reach 10 rfl) ?_
  refine ok_get (v := k_rr G 114) fl_X7_53 (by decide) ko_100 rfl (dq_of td_X7_reach 11 rfl) ?_
  refine ok_iload1 (dq_of td_X7_reach 12 rfl) ?_
  refine ok_iload2 (dq_of td_X7_reach 13 rfl) ?_
  refine ok_iast ka_114 (dq_of td_X7_reach 14 rfl) (fun σ3 => ?_)
  refine ok_aload0 (dq_of td_X7_reach 15 rfl) ?_
  refine ok_get (v := k_rr G 114) fl_X7_53 (by decide) ko_100 rfl (dq_of td_X7_reach 16 rfl) ?_
  refine ok_iload3 (dq_of td_X7_reach 17 rfl) ?_
  refine ok_iload3 (dq_of td_X7_reach 18 rfl) ?_
  refine ok_iload1 (dq_of td_X7_reach 19 rfl) ?_
  refine ok_ic_ne (tgt := 37) (dq_of td_X7_reach 20 rfl) (by decide) ?_ ?_
  · refine ok_iload4 (dq_of td_X7_reach 23 rfl) ?_
    refine ok_wk (wk_s (wk_s (wk_n (wk_s (wk_n (wk_s (wk_s (wk_s (wk_n wk_0))))))))) ?_
    exact ob_X7_reach_39 _ _ _ _ _  _ _ _ _ _  _
  · refine ok_iload2 (dq_of td_X7_reach 21 rfl) ?_
    refine ok_goto (tgt := 39) (dq_of td_X7_reach 22 rfl) (by decide) ?_
    refine ok_wk (wk_s (wk_s (wk_n (wk_s (wk_n (wk_s (wk_s (wk_s (wk_n wk_0))))))))) ?_
    exact ob_X7_reach_39 _ _ _ _ _  _ _ _ _ _  _
theorem ct_X7_reach {G : KW} {l : Launch} (x1 : Int32) (x2 : Int32) (x3 : Int32) (x4 : Int32) (x5 : Int32)  (σ : Sg) : ∀ b, m_X7_reach x1 x2 x3 x4 x5 σ = some b → MetF G l yX7_reach cX7_reach 9 none 1 22 [k_rr G 100, .int x1, .int x2, .int x3, .int x4, .int x5] (k_wl G σ) (ccV b).1 (k_wl G (ccV b).2) :=
  met_of (by decide) (Nat.le_of_ble_eq_true rfl) rfl (om_X7_reach _ _ _ _ _  σ)
theorem call_X7_reach {G : KW} {l : Launch} {cc : ByteArray} {nL : Nat} {own : String} {rt : Option FieldType} {R : Room} {α : Type} {X : State → Array Value → Method → Prop} {Z : α → List Frame → Array Value → State → State → Prop} {k0 n0 pc index : Nat} {L : List (Option Value)} {S : List Value} {σ : Sg} {F : Sg → Option α} {x1 : Int32} {x2 : Int32} {x3 : Int32} {x4 : Int32} {x5 : Int32} (lk : MLk own index yX7_reach)  (hR : R.frames ≥ 1 + 1 ∧ R.locals ≥ 8 + (9 + 11) + 22) (hcs : k0 ≤ R.cells ∧ n0 ≤ R.slots) (hro : (S.map fun v => v.category).sum ≤ 8) (d : decode cc pc = .ok (.invokevirtual index, 3)) (kk : ∀ σ' : Sg, Okg G l cc nL own rt R X Z k0 n0 (pc + 3) L S σ' (F σ')) : Okg G l cc nL own rt R X Z k0 n0 pc L (.int x5 :: .int x4 :: .int x3 :: .int x2 :: .int x1 :: k_rr G 100 :: S) σ (e_cV (m_X7_reach x1 x2 x3 x4 x5 σ) F) :=
  ok_cV (cb := ccV) (As := [.int x1, .int x2, .int x3, .int x4, .int x5]) (ct_X7_reach _ _ _ _ _  σ) mo_X7_reach hi_X7_reach lk rfl (ci := 7) rfl rfl (by decide) ko_100 hR rfl hcs hro d (fun b => kk b)
/-! CoatDinnerModel.spread(II)V -/
def d_X7_spread_29 (x1 : Int32) (x2 : Int32) (K : Sg → Option (Sg)) (H : Int32 → Sg → Option (Sg)) (x3 : Int32) (σ : Sg) : Option (Sg) := (if 5 ≤ x3 then K σ else e_cI (m_X7_whyNotPut x1 x3 σ) (fun r4 σ3 => (if r4 = 0 then e_cV (m_X7_reach x1 x3 x1 x3 x2 σ3) (fun σ5 => H (x3 + 1) σ5) else H (x3 + 1) σ3)))
def d_X7_spread_60 (x1 : Int32) (x2 : Int32) (K : Sg → Option (Sg)) (H : Int32 → Sg → Option (Sg)) (x3 : Int32) (σ : Sg) : Option (Sg) := (if 5 ≤ x3 then K σ else e_cI (m_X7_isThere x1 σ) (fun r8 σ7 => (if r8 = 0 then H (x3 + 1) σ7 else e_gd (k_in x1 5) ((if 5 ≤ (σ7 114 (Int32.toNatClampNeg x1)) then H (x3 + 1) σ7 else e_gd (k_in x1 5) (e_cI (m_X7_whyNotLend x1 x3 (σ7 114 (Int32.toNatClampNeg x1)) σ7) (fun r10 σ9 => (if r10 = 0 then e_gd (k_in x1 5) (e_cV (m_X7_reach x1 5 x3 (σ9 114 (Int32.toNatClampNeg x1)) x2 σ9) (fun σ11 => H (x3 + 1) σ11)) else H (x3 + 1) σ9))))))))
def b_X7_spread_27 (x1 : Int32) (x2 : Int32)  (σ : Sg) : Option (Sg) := e_lp1 (d_X7_spread_29 x1 x2 (fun σ6 => e_lp1 (d_X7_spread_60 x1 x2 (fun σ12 => some σ12)) e_F 0 σ6)) e_F 0 σ
theorem od_X7_spread_29 {G : KW} {l : Launch} (x1 : Int32) (x2 : Int32)  {K : Sg → Option (Sg)} {H : Int32 → Sg → Option (Sg)} (hK : ∀  (σ : Sg), Okk G l cX7_spread 4 RX7 none (rmo 3 66) ccV 58 [some (k_rr G 100), some (.int x1), some (.int x2), none] [] σ (K  σ)) (hH : ∀ (x3 : Int32) (σ : Sg), Okk G l cX7_spread 4 RX7 none (rmo 3 66) ccV 29 [some (k_rr G 100), some (.int x1), some (.int x2), some (.int x3)] [] σ (H x3 σ)) (x3 : Int32)  (σ : Sg) : Okk G l cX7_spread 4 RX7 none (rmo 3 66) ccV 29 [some (k_rr G 100), some (.int x1), some (.int x2), some (.int x3)] [] σ (d_X7_spread_29 x1 x2 K H x3 σ) := by
  unfold d_X7_spread_29
  refine ok_iload3 (dq_of td_X7_spread 19 rfl) ?_
  refine ok_iconst (v := 5) (dq_of td_X7_spread 20 rfl) (by decide) ?_
  refine ok_ic_ge (tgt := 58) (dq_of td_X7_spread 21 rfl) (by decide) ?_ ?_
  · refine ok_wk (wk_s (wk_s (wk_s (wk_n wk_0)))) ?_
    exact hK _
  · refine ok_aload0 (dq_of td_X7_spread 22 rfl) ?_
    refine ok_iload1 (dq_of td_X7_spread 23 rfl) ?_
    refine ok_iload3 (dq_of td_X7_spread 24 rfl) ?_
    refine call_X7_whyNotPut ml_X7_145  ⟨Nat.le_of_ble_eq_true rfl, Nat.le_of_ble_eq_true rfl⟩ ⟨Nat.zero_le _, Nat.zero_le _⟩ (Nat.le_of_ble_eq_true rfl) (dq_of td_X7_spread 25 rfl) (fun r4 σ3 => ?_)
    refine ok_if_ne (tgt := 52) (dq_of td_X7_spread 26 rfl) (by decide) ?_ ?_
    · refine ok_jinc3 (w := 1) (dq_of td_X7_spread 34 rfl) (by decide) rfl (by decide) ?_
      refine ok_goto (tgt := 29) (dq_of td_X7_spread 35 rfl) (by decide) ?_
      refine ok_wk (wk_s (wk_s (wk_s (wk_s wk_0)))) ?_
      exact hH _ _
    · refine ok_aload0 (dq_of td_X7_spread 27 rfl) ?_
      refine ok_iload1 (dq_of td_X7_spread 28 rfl) ?_
      refine ok_iload3 (dq_of td_X7_spread 29 rfl) ?_
      refine ok_iload1 (dq_of td_X7_spread 30 rfl) ?_
      refine ok_iload3 (dq_of td_X7_spread 31 rfl) ?_
      refine ok_iload2 (dq_of td_X7_spread 32 rfl) ?_
      refine call_X7_reach ml_X7_175  ⟨Nat.le_of_ble_eq_true rfl, Nat.le_of_ble_eq_true rfl⟩ ⟨Nat.zero_le _, Nat.zero_le _⟩ (Nat.le_of_ble_eq_true rfl) (dq_of td_X7_spread 33 rfl) (fun σ5 => ?_)
      refine ok_jinc3 (w := 1) (dq_of td_X7_spread 34 rfl) (by decide) rfl (by decide) ?_
      refine ok_goto (tgt := 29) (dq_of td_X7_spread 35 rfl) (by decide) ?_
      refine ok_wk (wk_s (wk_s (wk_s (wk_s wk_0)))) ?_
      exact hH _ _
theorem ld_X7_spread_29 {G : KW} {l : Launch} (x1 : Int32) (x2 : Int32)  {K : Sg → Option (Sg)} (hK : ∀  (σ : Sg), Okk G l cX7_spread 4 RX7 none (rmo 3 66) ccV 58 [some (k_rr G 100), some (.int x1), some (.int x2), none] [] σ (K  σ)) (n : Nat) (x3 : Int32) (σ : Sg) : Okk G l cX7_spread 4 RX7 none (rmo 3 66) ccV 29 [some (k_rr G 100), some (.int x1), some (.int x2), some (.int x3)] [] σ (e_lp1 (d_X7_spread_29 x1 x2 K) n x3 σ) :=
  ok_lp1 (Lf := fun (x3 : Int32) => [some (k_rr G 100), some (.int x1), some (.int x2), some (.int x3)]) (fun _ hH x3 σ => od_X7_spread_29 _ _  hK hH x3 σ) n x3 σ
theorem od_X7_spread_60 {G : KW} {l : Launch} (x1 : Int32) (x2 : Int32)  {K : Sg → Option (Sg)} {H : Int32 → Sg → Option (Sg)} (hK : ∀  (σ : Sg), Okk G l cX7_spread 4 RX7 none (rmo 3 66) ccV 118 [none, none, none, none] [] σ (K  σ)) (hH : ∀ (x3 : Int32) (σ : Sg), Okk G l cX7_spread 4 RX7 none (rmo 3 66) ccV 60 [some (k_rr G 100), some (.int x1), some (.int x2), some (.int x3)] [] σ (H x3 σ)) (x3 : Int32)  (σ : Sg) : Okk G l cX7_spread 4 RX7 none (rmo 3 66) ccV 60 [some (k_rr G 100), some (.int x1), some (.int x2), some (.int x3)] [] σ (d_X7_spread_60 x1 x2 K H x3 σ) := by
  unfold d_X7_spread_60
  refine ok_iload3 (dq_of td_X7_spread 38 rfl) ?_
  refine ok_iconst (v := 5) (dq_of td_X7_spread 39 rfl) (by decide) ?_
  refine ok_ic_ge (tgt := 118) (dq_of td_X7_spread 40 rfl) (by decide) ?_ ?_
  · refine ok_wk (wk_n (wk_n (wk_n (wk_n wk_0)))) ?_
    exact hK _
  · refine ok_aload0 (dq_of td_X7_spread 41 rfl) ?_
    refine ok_iload1 (dq_of td_X7_spread 42 rfl) ?_
    refine call_X7_isThere ml_X7_95  ⟨Nat.le_of_ble_eq_true rfl, Nat.le_of_ble_eq_true rfl⟩ ⟨Nat.zero_le _, Nat.zero_le _⟩ (Nat.le_of_ble_eq_true rfl) (dq_of td_X7_spread 43 rfl) (fun r8 σ7 => ?_)
    refine ok_if_eq (tgt := 112) (dq_of td_X7_spread 44 rfl) (by decide) ?_ ?_
    · refine ok_jinc3 (w := 1) (dq_of td_X7_spread 70 rfl) (by decide) rfl (by decide) ?_
      refine ok_goto (tgt := 60) (dq_of td_X7_spread 71 rfl) (by decide) ?_
      refine ok_wk (wk_s (wk_s (wk_s (wk_s wk_0)))) ?_
      exact hH _ _
    · refine ok_aload0 (dq_of td_X7_spread 45 rfl) ?_
      refine ok_get (v := k_rr G 114) fl_X7_53 (by decide) ko_100 rfl (dq_of td_X7_spread 46 rfl) ?_
      refine ok_iload1 (dq_of td_X7_spread 47 rfl) ?_
      refine ok_iald ka_114 (dq_of td_X7_spread 48 rfl) ?_
      refine ok_iconst (v := 5) (dq_of td_X7_spread 49 rfl) (by decide) ?_
      refine ok_ic_ge (tgt := 112) (dq_of td_X7_spread 50 rfl) (by decide) ?_ ?_
      · refine ok_jinc3 (w := 1) (dq_of td_X7_spread 70 rfl) (by decide) rfl (by decide) ?_
        refine ok_goto (tgt := 60) (dq_of td_X7_spread 71 rfl) (by decide) ?_
        refine ok_wk (wk_s (wk_s (wk_s (wk_s wk_0)))) ?_
        exact hH _ _
      · refine ok_aload0 (dq_of td_X7_spread 51 rfl) ?_
        refine ok_iload1 (dq_of td_X7_spread 52 rfl) ?_
        refine ok_iload3 (dq_of td_X7_spread 53 rfl) ?_
        refine ok_aload0 (dq_of td_X7_spread 54 rfl) ?_
        refine ok_get (v := k_rr G 114) fl_X7_53 (by decide) ko_100 rfl (dq_of td_X7_spread 55 rfl) ?_
        refine ok_iload1 (dq_of td_X7_spread 56 rfl) ?_
        refine ok_iald ka_114 (dq_of td_X7_spread 57 rfl) ?_
        refine call_X7_whyNotLend ml_X7_149  ⟨Nat.le_of_ble_eq_true rfl, Nat.le_of_ble_eq_true rfl⟩ ⟨Nat.zero_le _, Nat.zero_le _⟩ (Nat.le_of_ble_eq_true rfl) (dq_of td_X7_spread 58 rfl) (fun r10 σ9 => ?_)
        refine ok_if_ne (tgt := 112) (dq_of td_X7_spread 59 rfl) (by decide) ?_ ?_
        · refine ok_jinc3 (w := 1) (dq_of td_X7_spread 70 rfl) (by decide) rfl (by decide) ?_
          refine ok_goto (tgt := 60) (dq_of td_X7_spread 71 rfl) (by decide) ?_
          refine ok_wk (wk_s (wk_s (wk_s (wk_s wk_0)))) ?_
          exact hH _ _
        · refine ok_aload0 (dq_of td_X7_spread 60 rfl) ?_
          refine ok_iload1 (dq_of td_X7_spread 61 rfl) ?_
          refine ok_iconst (v := 5) (dq_of td_X7_spread 62 rfl) (by decide) ?_
          refine ok_iload3 (dq_of td_X7_spread 63 rfl) ?_
          refine ok_aload0 (dq_of td_X7_spread 64 rfl) ?_
          refine ok_get (v := k_rr G 114) fl_X7_53 (by decide) ko_100 rfl (dq_of td_X7_spread 65 rfl) ?_
          refine ok_iload1 (dq_of td_X7_spread 66 rfl) ?_
          refine ok_iald ka_114 (dq_of td_X7_spread 67 rfl) ?_
          refine ok_iload2 (dq_of td_X7_spread 68 rfl) ?_
          refine call_X7_reach ml_X7_175  ⟨Nat.le_of_ble_eq_true rfl, Nat.le_of_ble_eq_true rfl⟩ ⟨Nat.zero_le _, Nat.zero_le _⟩ (Nat.le_of_ble_eq_true rfl) (dq_of td_X7_spread 69 rfl) (fun σ11 => ?_)
          refine ok_jinc3 (w := 1) (dq_of td_X7_spread 70 rfl) (by decide) rfl (by decide) ?_
          refine ok_goto (tgt := 60) (dq_of td_X7_spread 71 rfl) (by decide) ?_
          refine ok_wk (wk_s (wk_s (wk_s (wk_s wk_0)))) ?_
          exact hH _ _
theorem ld_X7_spread_60 {G : KW} {l : Launch} (x1 : Int32) (x2 : Int32)  {K : Sg → Option (Sg)} (hK : ∀  (σ : Sg), Okk G l cX7_spread 4 RX7 none (rmo 3 66) ccV 118 [none, none, none, none] [] σ (K  σ)) (n : Nat) (x3 : Int32) (σ : Sg) : Okk G l cX7_spread 4 RX7 none (rmo 3 66) ccV 60 [some (k_rr G 100), some (.int x1), some (.int x2), some (.int x3)] [] σ (e_lp1 (d_X7_spread_60 x1 x2 K) n x3 σ) :=
  ok_lp1 (Lf := fun (x3 : Int32) => [some (k_rr G 100), some (.int x1), some (.int x2), some (.int x3)]) (fun _ hH x3 σ => od_X7_spread_60 _ _  hK hH x3 σ) n x3 σ
theorem ob_X7_spread_27 {G : KW} {l : Launch} (x1 : Int32) (x2 : Int32)    (σ : Sg) : Okk G l cX7_spread 4 RX7 none (rmo 3 66) ccV 27 [some (k_rr G 100), some (.int x1), some (.int x2), none] [] σ (b_X7_spread_27 x1 x2  σ) := by
  unfold b_X7_spread_27
  refine ok_iconst (v := 0) (dq_of td_X7_spread 17 rfl) (by decide) ?_
  refine ok_istore3 (dq_of td_X7_spread 18 rfl) rfl (by decide) ?_
  refine ok_wk (wk_s (wk_s (wk_s (wk_s wk_0)))) ?_
  refine ld_X7_spread_29 _ _  (fun σ6 => ?_) _ _ _
  refine ok_iconst (v := 0) (dq_of td_X7_spread 36 rfl) (by decide) ?_
  refine ok_istore3 (dq_of td_X7_spread 37 rfl) rfl (by decide) ?_
  refine ok_wk (wk_s (wk_s (wk_s (wk_s wk_0)))) ?_
  refine ld_X7_spread_60 _ _  (fun σ12 => ?_) _ _ _
  exact ok_vret (dq_of td_X7_spread 72 rfl)
def m_X7_spread (x1 : Int32) (x2 : Int32) (σ : Sg) : Option (Sg) := e_cI (m_X7_isThere x1 σ) (fun r2 σ1 => (if r2 = 0 then b_X7_spread_27 x1 x2 σ1 else e_gd (k_in x1 5) ((if 5 ≤ (σ1 114 (Int32.toNatClampNeg x1)) then b_X7_spread_27 x1 x2 σ1 else e_cV (m_X7_reach x1 5 x1 5 x2 σ1) (fun σ13 => b_X7_spread_27 x1 x2 σ13)))))
theorem om_X7_spread {G : KW} {l : Launch} (x1 : Int32) (x2 : Int32)  (σ : Sg) : Okk G l cX7_spread 4 RX7 none (rmo 3 66) ccV 0 [some (k_rr G 100), some (.int x1), some (.int x2), none] [] σ (m_X7_spread x1 x2 σ) := by
  unfold m_X7_spread
  refine ok_aload0 (dq_of td_X7_spread 0 rfl) ?_
  refine ok_iload1 (dq_of td_X7_spread 1 rfl) ?_
  refine call_X7_isThere ml_X7_95  ⟨Nat.le_of_ble_eq_true rfl, Nat.le_of_ble_eq_true rfl⟩ ⟨Nat.zero_le _, Nat.zero_le _⟩ (Nat.le_of_ble_eq_true rfl) (dq_of td_X7_spread 2 rfl) (fun r2 σ1 => ?_)
  refine ok_if_eq (tgt := 27) (dq_of td_X7_spread 3 rfl) (by decide) ?_ ?_
  · refine ok_wk (wk_s (wk_s (wk_s (wk_n wk_0)))) ?_
    exact ob_X7_spread_27 _ _   _
  · refine ok_aload0 (dq_of td_X7_spread 4 rfl) ?_
    refine ok_get (v := k_rr G 114) fl_X7_53 (by decide) ko_100 rfl (dq_of td_X7_spread 5 rfl) ?_
    refine ok_iload1 (dq_of td_X7_spread 6 rfl) ?_
    refine ok_iald ka_114 (dq_of td_X7_spread 7 rfl) ?_
    refine ok_iconst (v := 5) (dq_of td_X7_spread 8 rfl) (by decide) ?_
    refine ok_ic_ge (tgt := 27) (dq_of td_X7_spread 9 rfl) (by decide) ?_ ?_
    · refine ok_wk (wk_s (wk_s (wk_s (wk_n wk_0)))) ?_
      exact ob_X7_spread_27 _ _   _
    · refine ok_aload0 (dq_of td_X7_spread 10 rfl) ?_
      refine ok_iload1 (dq_of td_X7_spread 11 rfl) ?_
      refine ok_iconst (v := 5) (dq_of td_X7_spread 12 rfl) (by decide) ?_
      refine ok_iload1 (dq_of td_X7_spread 13 rfl) ?_
      refine ok_iconst (v := 5) (dq_of td_X7_spread 14 rfl) (by decide) ?_
      refine ok_iload2 (dq_of td_X7_spread 15 rfl) ?_
      refine call_X7_reach ml_X7_175  ⟨Nat.le_of_ble_eq_true rfl, Nat.le_of_ble_eq_true rfl⟩ ⟨Nat.zero_le _, Nat.zero_le _⟩ (Nat.le_of_ble_eq_true rfl) (dq_of td_X7_spread 16 rfl) (fun σ13 => ?_)
      refine ok_wk (wk_s (wk_s (wk_s (wk_n wk_0)))) ?_
      exact ob_X7_spread_27 _ _   _
theorem ct_X7_spread {G : KW} {l : Launch} (x1 : Int32) (x2 : Int32)  (σ : Sg) : ∀ b, m_X7_spread x1 x2 σ = some b → MetF G l yX7_spread cX7_spread 4 none 3 66 [k_rr G 100, .int x1, .int x2] (k_wl G σ) (ccV b).1 (k_wl G (ccV b).2) :=
  met_of (by decide) (Nat.le_of_ble_eq_true rfl) rfl (om_X7_spread _ _  σ)
theorem call_X7_spread {G : KW} {l : Launch} {cc : ByteArray} {nL : Nat} {own : String} {rt : Option FieldType} {R : Room} {α : Type} {X : State → Array Value → Method → Prop} {Z : α → List Frame → Array Value → State → State → Prop} {k0 n0 pc index : Nat} {L : List (Option Value)} {S : List Value} {σ : Sg} {F : Sg → Option α} {x1 : Int32} {x2 : Int32} (lk : MLk own index yX7_spread)  (hR : R.frames ≥ 3 + 1 ∧ R.locals ≥ 8 + (4 + 11) + 66) (hcs : k0 ≤ R.cells ∧ n0 ≤ R.slots) (hro : (S.map fun v => v.category).sum ≤ 8) (d : decode cc pc = .ok (.invokevirtual index, 3)) (kk : ∀ σ' : Sg, Okg G l cc nL own rt R X Z k0 n0 (pc + 3) L S σ' (F σ')) : Okg G l cc nL own rt R X Z k0 n0 pc L (.int x2 :: .int x1 :: k_rr G 100 :: S) σ (e_cV (m_X7_spread x1 x2 σ) F) :=
  ok_cV (cb := ccV) (As := [.int x1, .int x2]) (ct_X7_spread _ _  σ) mo_X7_spread hi_X7_spread lk rfl (ci := 7) rfl rfl (by decide) ko_100 hR rfl hcs hro d (fun b => kk b)
/-! CoatDinnerModel.stepsTo(III)I -/
def d_X7_stepsTo_3 (x1 : Int32) (x2 : Int32) (x3 : Int32) (K : Sg → Option (Int32 × Sg)) (H : Int32 → Sg → Option (Int32 × Sg)) (x4 : Int32) (σ : Sg) : Option (Int32 × Sg) := (if 7776 ≤ x4 then K σ else e_wr σ 119 x4 7776 ((-1)) (fun σ1 => H (x4 + 1) σ1))
def d_X7_stepsTo_94 (x1 : Int32) (x2 : Int32) (x3 : Int32) (K : Int32 → Int32 → Sg → Option (Int32 × Sg)) (H : Int32 → Int32 → Int32 → Sg → Option (Int32 × Sg)) (x4 : Int32) (x5 : Int32) (x6 : Int32) (σ : Sg) : Option (Int32 × Sg) := (if 5 ≤ x6 then K x4 x5 σ else e_cV (m_X7_spread x6 (x4 + 1) σ) (fun σ10 => H x4 x5 (x6 + 1) σ10))
def d_X7_stepsTo_52 (x1 : Int32) (x2 : Int32) (x3 : Int32) (K : Int32 → Sg → Option (Int32 × Sg)) (H : Int32 → Int32 → Sg → Option (Int32 × Sg)) (x4 : Int32) (x5 : Int32) (σ : Sg) : Option (Int32 × Sg) := (if 7776 ≤ x5 then K x4 σ else e_gd (k_in x5 7776) ((if (σ 119 (Int32.toNatClampNeg x5)) = x4 then e_cV (m_X7_dress x5 σ) (fun σ7 => e_cI (m_X7_isSo x1 x2 x3 σ7) (fun r9 σ8 => (if r9 = 0 then e_lp3 (d_X7_stepsTo_94 x1 x2 x3 (fun x4q11 x5q11 σ11 => H x4q11 (x5q11 + 1) σ11)) e_F x4 x5 0 σ8 else some (x4, σ8)))) else H x4 (x5 + 1) σ)))
def d_X7_stepsTo_42 (x1 : Int32) (x2 : Int32) (x3 : Int32) (K : Sg → Option (Int32 × Sg)) (H : Int32 → Sg → Option (Int32 × Sg)) (x4 : Int32) (σ : Sg) : Option (Int32 × Sg) := (if 7 ≤ x4 then K σ else e_lp2 (d_X7_stepsTo_52 x1 x2 x3 (fun x4q12 σ12 => H (x4q12 + 1) σ12)) e_F x4 0 σ)
theorem od_X7_stepsTo_3 {G : KW} {l : Launch} (x1 : Int32) (x2 : Int32) (x3 : Int32)  {K : Sg → Option (Int32 × Sg)} {H : Int32 → Sg → Option (Int32 × Sg)} (hK : ∀  (σ : Sg), Okk G l cX7_stepsTo 7 RX7 (some .int) (rmo 4 89) ccI 25 [some (k_rr G 100), some (.int x1), some (.int x2), some (.int x3), none, none, none] [] σ (K  σ)) (hH : ∀ (x4 : Int32) (σ : Sg), Okk G l cX7_stepsTo 7 RX7 (some .int) (rmo 4 89) ccI 3 [some (k_rr G 100), some (.int x1), some (.int x2), some (.int x3), some (.int x4), none, none] [] σ (H x4 σ)) (x4 : Int32)  (σ : Sg) : Okk G l cX7_stepsTo 7 RX7 (some .int) (rmo 4 89) ccI 3 [some (k_rr G 100), some (.int x1), some (.int x2), some (.int x3), some (.int x4), none, none] [] σ (d_X7_stepsTo_3 x1 x2 x3 K H x4 σ) := by
  unfold d_X7_stepsTo_3
  refine ok_iload4 (dq_of td_X7_stepsTo 2 rfl) ?_
  refine ok_sipush (v := 7776) (dq_of td_X7_stepsTo 3 rfl) (by decide) ?_
  refine ok_ic_ge (tgt := 25) (dq_of td_X7_stepsTo 4 rfl) (by decide) ?_ ?_
  · refine ok_wk (wk_s (wk_s (wk_s (wk_s (wk_n (wk_n (wk_n wk_0))))))) ?_
    exact hK _
  · refine ok_aload0 (dq_of td_X7_stepsTo 5 rfl) ?_
    refine ok_get (v := k_rr G 119) fl_X7_68 (by decide) ko_100 rfl (dq_of td_X7_stepsTo 6 rfl) ?_
    refine ok_iload4 (dq_of td_X7_stepsTo 7 rfl) ?_
    refine ok_iconst (v := (-1)) (dq_of td_X7_stepsTo 8 rfl) (by decide) ?_
    refine ok_iast ka_119 (dq_of td_X7_stepsTo 9 rfl) (fun σ1 => ?_)
    refine ok_jinc4 (w := 1) (dq_of td_X7_stepsTo 10 rfl) (by decide) rfl (by decide) ?_
    refine ok_goto (tgt := 3) (dq_of td_X7_stepsTo 11 rfl) (by decide) ?_
    refine ok_wk (wk_s (wk_s (wk_s (wk_s (wk_s (wk_n (wk_n wk_0))))))) ?_
    exact hH _ _
theorem ld_X7_stepsTo_3 {G : KW} {l : Launch} (x1 : Int32) (x2 : Int32) (x3 : Int32)  {K : Sg → Option (Int32 × Sg)} (hK : ∀  (σ : Sg), Okk G l cX7_stepsTo 7 RX7 (some .int) (rmo 4 89) ccI 25 [some (k_rr G 100), some (.int x1), some (.int x2), some (.int x3), none, none, none] [] σ (K  σ)) (n : Nat) (x4 : Int32) (σ : Sg) : Okk G l cX7_stepsTo 7 RX7 (some .int) (rmo 4 89) ccI 3 [some (k_rr G 100), some (.int x1), some (.int x2), some (.int x3), some (.int x4), none, none] [] σ (e_lp1 (d_X7_stepsTo_3 x1 x2 x3 K) n x4 σ) :=
  ok_lp1 (Lf := fun (x4 : Int32) => [some (k_rr G 100), some (.int x1), some (.int x2), some (.int x3), some (.int x4), none, none]) (fun _ hH x4 σ => od_X7_stepsTo_3 _ _ _  hK hH x4 σ) n x4 σ
theorem od_X7_stepsTo_94 {G : KW} {l : Launch} (x1 : Int32) (x2 : Int32) (x3 : Int32)  {K : Int32 → Int32 → Sg → Option (Int32 × Sg)} {H : Int32 → Int32 → Int32 → Sg → Option (Int32 × Sg)} (hK : ∀ (x4 : Int32) (x5 : Int32) (σ : Sg), Okk G l cX7_stepsTo 7 RX7 (some .int) (rmo 4 89) ccI 116 [some (k_rr G 100), some (.int x1), some (.int x2), some (.int x3), some (.int x4), some (.int x5), none] [] σ (K x4 x5 σ)) (hH : ∀ (x4 : Int32) (x5 : Int32) (x6 : Int32) (σ : Sg), Okk G l cX7_stepsTo 7 RX7 (some .int) (rmo 4 89) ccI 94 [some (k_rr G 100), some (.int x1), some (.int x2), some (.int x3), some (.int x4), some (.int x5), some (.int x6)] [] σ (H x4 x5 x6 σ)) (x4 : Int32) (x5 : Int32) (x6 : Int32)  (σ : Sg) : Okk G l cX7_stepsTo 7 RX7 (some .int) (rmo 4 89) ccI 94 [some (k_rr G 100), some (.int x1), some (.int x2), some (.int x3), some (.int x4), some (.int x5), some (.int x6)] [] σ (d_X7_stepsTo_94 x1 x2 x3 K H x4 x5 x6 σ) := by
  unfold d_X7_stepsTo_94
  refine ok_iload6 (dq_of td_X7_stepsTo 49 rfl) ?_
  refine ok_iconst (v := 5) (dq_of td_X7_stepsTo 50 rfl) (by decide) ?_
  refine ok_ic_ge (tgt := 116) (dq_of td_X7_stepsTo 51 rfl) (by decide) ?_ ?_
  · refine ok_wk (wk_s (wk_s (wk_s (wk_s (wk_s (wk_s (wk_n wk_0))))))) ?_
    exact hK _ _ _
  · refine ok_aload0 (dq_of td_X7_stepsTo 52 rfl) ?_
    refine ok_iload6 (dq_of td_X7_stepsTo 53 rfl) ?_
    refine ok_iload4 (dq_of td_X7_stepsTo 54 rfl) ?_
    refine ok_iconst (v := 1) (dq_of td_X7_stepsTo 55 rfl) (by decide) ?_
    refine ok_iadd (dq_of td_X7_stepsTo 56 rfl) ?_
    refine call_X7_spread ml_X7_171  ⟨Nat.le_of_ble_eq_true rfl, Nat.le_of_ble_eq_true rfl⟩ ⟨Nat.zero_le _, Nat.zero_le _⟩ (Nat.le_of_ble_eq_true rfl) (dq_of td_X7_stepsTo 57 rfl) (fun σ10 => ?_)
    refine ok_jinc6 (w := 1) (dq_of td_X7_stepsTo 58 rfl) (by decide) rfl (by decide) ?_
    refine ok_goto (tgt := 94) (dq_of td_X7_stepsTo 59 rfl) (by decide) ?_
    refine ok_wk (wk_s (wk_s (wk_s (wk_s (wk_s (wk_s (wk_s wk_0))))))) ?_
    exact hH _ _ _ _
theorem ld_X7_stepsTo_94 {G : KW} {l : Launch} (x1 : Int32) (x2 : Int32) (x3 : Int32)  {K : Int32 → Int32 → Sg → Option (Int32 × Sg)} (hK : ∀ (x4 : Int32) (x5 : Int32) (σ : Sg), Okk G l cX7_stepsTo 7 RX7 (some .int) (rmo 4 89) ccI 116 [some (k_rr G 100), some (.int x1), some (.int x2), some (.int x3), some (.int x4), some (.int x5), none] [] σ (K x4 x5 σ)) (n : Nat) (x4 : Int32) (x5 : Int32) (x6 : Int32) (σ : Sg) : Okk G l cX7_stepsTo 7 RX7 (some .int) (rmo 4 89) ccI 94 [some (k_rr G 100), some (.int x1), some (.int x2), some (.int x3), some (.int x4), some (.int x5), some (.int x6)] [] σ (e_lp3 (d_X7_stepsTo_94 x1 x2 x3 K) n x4 x5 x6 σ) :=
  ok_lp3 (Lf := fun (x4 : Int32) (x5 : Int32) (x6 : Int32) => [some (k_rr G 100), some (.int x1), some (.int x2), some (.int x3), some (.int x4), some (.int x5), some (.int x6)]) (fun _ hH x4 x5 x6 σ => od_X7_stepsTo_94 _ _ _  hK hH x4 x5 x6 σ) n x4 x5 x6 σ
theorem od_X7_stepsTo_52 {G : KW} {l : Launch} (x1 : Int32) (x2 : Int32) (x3 : Int32)  {K : Int32 → Sg → Option (Int32 × Sg)} {H : Int32 → Int32 → Sg → Option (Int32 × Sg)} (hK : ∀ (x4 : Int32) (σ : Sg), Okk G l cX7_stepsTo 7 RX7 (some .int) (rmo 4 89) ccI 122 [some (k_rr G 100), some (.int x1), some (.int x2), some (.int x3), some (.int x4), none, none] [] σ (K x4 σ)) (hH : ∀ (x4 : Int32) (x5 : Int32) (σ : Sg), Okk G l cX7_stepsTo 7 RX7 (some .int) (rmo 4 89) ccI 52 [some (k_rr G 100), some (.int x1), some (.int x2), some (.int x3), some (.int x4), some (.int x5), none] [] σ (H x4 x5 σ)) (x4 : Int32) (x5 : Int32)  (σ : Sg) : Okk G l cX7_stepsTo 7 RX7 (some .int) (rmo 4 89) ccI 52 [some (k_rr G 100), some (.int x1), some (.int x2), some (.int x3), some (.int x4), some (.int x5), none] [] σ (d_X7_stepsTo_52 x1 x2 x3 K H x4 x5 σ) := by
  unfold d_X7_stepsTo_52
  refine ok_iload5 (dq_of td_X7_stepsTo 27 rfl) ?_
  refine ok_sipush (v := 7776) (dq_of td_X7_stepsTo 28 rfl) (by decide) ?_
  refine ok_ic_ge (tgt := 122) (dq_of td_X7_stepsTo 29 rfl) (by decide) ?_ ?_
  · refine ok_wk (wk_s (wk_s (wk_s (wk_s (wk_s (wk_n (wk_n wk_0))))))) ?_
    exact hK _ _
  · refine ok_aload0 (dq_of td_X7_stepsTo 30 rfl) ?_
    refine ok_get (v := k_rr G 119) fl_X7_68 (by decide) ko_100 rfl (dq_of td_X7_stepsTo 31 rfl) ?_
    refine ok_iload5 (dq_of td_X7_stepsTo 32 rfl) ?_
    refine ok_iald ka_119 (dq_of td_X7_stepsTo 33 rfl) ?_
    refine ok_iload4 (dq_of td_X7_stepsTo 34 rfl) ?_
    refine ok_ic_ne (tgt := 116) (dq_of td_X7_stepsTo 35 rfl) (by decide) ?_ ?_
    · refine ok_jinc5 (w := 1) (dq_of td_X7_stepsTo 60 rfl) (by decide) rfl (by decide) ?_
      refine ok_goto (tgt := 52) (dq_of td_X7_stepsTo 61 rfl) (by decide) ?_
      refine ok_wk (wk_s (wk_s (wk_s (wk_s (wk_s (wk_s (wk_n wk_0))))))) ?_
      exact hH _ _ _
    · refine ok_aload0 (dq_of td_X7_stepsTo 36 rfl) ?_
      refine ok_iload5 (dq_of td_X7_stepsTo 37 rfl) ?_
      refine call_X7_dress ml_X7_165  ⟨Nat.le_of_ble_eq_true rfl, Nat.le_of_ble_eq_true rfl⟩ ⟨Nat.zero_le _, Nat.zero_le _⟩ (Nat.le_of_ble_eq_true rfl) (dq_of td_X7_stepsTo 38 rfl) (fun σ7 => ?_)
      refine ok_aload0 (dq_of td_X7_stepsTo 39 rfl) ?_
      refine ok_iload1 (dq_of td_X7_stepsTo 40 rfl) ?_
      refine ok_iload2 (dq_of td_X7_stepsTo 41 rfl) ?_
      refine ok_iload3 (dq_of td_X7_stepsTo 42 rfl) ?_
      refine call_X7_isSo ml_X7_168  ⟨Nat.le_of_ble_eq_true rfl, Nat.le_of_ble_eq_true rfl⟩ ⟨Nat.zero_le _, Nat.zero_le _⟩ (Nat.le_of_ble_eq_true rfl) (dq_of td_X7_stepsTo 43 rfl) (fun r9 σ8 => ?_)
      refine ok_if_eq (tgt := 91) (dq_of td_X7_stepsTo 44 rfl) (by decide) ?_ ?_
      · refine ok_iconst (v := 0) (dq_of td_X7_stepsTo 47 rfl) (by decide) ?_
        refine ok_istore6 (dq_of td_X7_stepsTo 48 rfl) rfl (by decide) ?_
        refine ok_wk (wk_s (wk_s (wk_s (wk_s (wk_s (wk_s (wk_s wk_0))))))) ?_
        refine ld_X7_stepsTo_94 _ _ _  (fun x4q11 x5q11 σ11 => ?_) _ _ _ _ _
        refine ok_jinc5 (w := 1) (dq_of td_X7_stepsTo 60 rfl) (by decide) rfl (by decide) ?_
        refine ok_goto (tgt := 52) (dq_of td_X7_stepsTo 61 rfl) (by decide) ?_
        refine ok_wk (wk_s (wk_s (wk_s (wk_s (wk_s (wk_s (wk_n wk_0))))))) ?_
        exact hH _ _ _
      · refine ok_iload4 (dq_of td_X7_stepsTo 45 rfl) ?_
        exact ok_iret (dq_of td_X7_stepsTo 46 rfl)
theorem ld_X7_stepsTo_52 {G : KW} {l : Launch} (x1 : Int32) (x2 : Int32) (x3 : Int32)  {K : Int32 → Sg → Option (Int32 × Sg)} (hK : ∀ (x4 : Int32) (σ : Sg), Okk G l cX7_stepsTo 7 RX7 (some .int) (rmo 4 89) ccI 122 [some (k_rr G 100), some (.int x1), some (.int x2), some (.int x3), some (.int x4), none, none] [] σ (K x4 σ)) (n : Nat) (x4 : Int32) (x5 : Int32) (σ : Sg) : Okk G l cX7_stepsTo 7 RX7 (some .int) (rmo 4 89) ccI 52 [some (k_rr G 100), some (.int x1), some (.int x2), some (.int x3), some (.int x4), some (.int x5), none] [] σ (e_lp2 (d_X7_stepsTo_52 x1 x2 x3 K) n x4 x5 σ) :=
  ok_lp2 (Lf := fun (x4 : Int32) (x5 : Int32) => [some (k_rr G 100), some (.int x1), some (.int x2), some (.int x3), some (.int x4), some (.int x5), none]) (fun _ hH x4 x5 σ => od_X7_stepsTo_52 _ _ _  hK hH x4 x5 σ) n x4 x5 σ
theorem od_X7_stepsTo_42 {G : KW} {l : Launch} (x1 : Int32) (x2 : Int32) (x3 : Int32)  {K : Sg → Option (Int32 × Sg)} {H : Int32 → Sg → Option (Int32 × Sg)} (hK : ∀  (σ : Sg), Okk G l cX7_stepsTo 7 RX7 (some .int) (rmo 4 89) ccI 128 [none, none, none, none, none, none, none] [] σ (K  σ)) (hH : ∀ (x4 : Int32) (σ : Sg), Okk G l cX7_stepsTo 7 RX7 (some .int) (rmo 4 89) ccI 42 [some (k_rr G 100), some (.int x1), some (.int x2), some (.int x3), some (.int x4), none, none] [] σ (H x4 σ)) (x4 : Int32)  (σ : Sg) : Okk G l cX7_stepsTo 7 RX7 (some .int) (rmo 4 89) ccI 42 [some (k_rr G 100), some (.int x1), some (.int x2), some (.int x3), some (.int x4), none, none] [] σ (d_X7_stepsTo_42 x1 x2 x3 K H x4 σ) := by
  unfold d_X7_stepsTo_42
  refine ok_iload4 (dq_of td_X7_stepsTo 22 rfl) ?_
  refine ok_bipush (v := 7) (dq_of td_X7_stepsTo 23 rfl) (by decide) ?_
  refine ok_ic_ge (tgt := 128) (dq_of td_X7_stepsTo 24 rfl) (by decide) ?_ ?_
  · refine ok_wk (wk_n (wk_n (wk_n (wk_n (wk_n (wk_n (wk_n wk_0))))))) ?_
    exact hK _
  · refine ok_iconst (v := 0) (dq_of td_X7_stepsTo 25 rfl) (by decide) ?_
    refine ok_istore5 (dq_of td_X7_stepsTo 26 rfl) rfl (by decide) ?_
    refine ok_wk (wk_s (wk_s (wk_s (wk_s (wk_s (wk_s (wk_n wk_0))))))) ?_
    refine ld_X7_stepsTo_52 _ _ _  (fun x4q12 σ12 => ?_) _ _ _ _
    refine ok_jinc4 (w := 1) (dq_of td_X7_stepsTo 62 rfl) (by decide) rfl (by decide) ?_
    refine ok_goto (tgt := 42) (dq_of td_X7_stepsTo 63 rfl) (by decide) ?_
    refine ok_wk (wk_s (wk_s (wk_s (wk_s (wk_s (wk_n (wk_n wk_0))))))) ?_
    exact hH _ _
theorem ld_X7_stepsTo_42 {G : KW} {l : Launch} (x1 : Int32) (x2 : Int32) (x3 : Int32)  {K : Sg → Option (Int32 × Sg)} (hK : ∀  (σ : Sg), Okk G l cX7_stepsTo 7 RX7 (some .int) (rmo 4 89) ccI 128 [none, none, none, none, none, none, none] [] σ (K  σ)) (n : Nat) (x4 : Int32) (σ : Sg) : Okk G l cX7_stepsTo 7 RX7 (some .int) (rmo 4 89) ccI 42 [some (k_rr G 100), some (.int x1), some (.int x2), some (.int x3), some (.int x4), none, none] [] σ (e_lp1 (d_X7_stepsTo_42 x1 x2 x3 K) n x4 σ) :=
  ok_lp1 (Lf := fun (x4 : Int32) => [some (k_rr G 100), some (.int x1), some (.int x2), some (.int x3), some (.int x4), none, none]) (fun _ hH x4 σ => od_X7_stepsTo_42 _ _ _  hK hH x4 σ) n x4 σ
def m_X7_stepsTo (x1 : Int32) (x2 : Int32) (x3 : Int32) (σ : Sg) : Option (Int32 × Sg) := e_lp1 (d_X7_stepsTo_3 x1 x2 x3 (fun σ2 => e_cV (m_X7_asNow σ2) (fun σ3 => e_cI (m_X7_codeOf σ3) (fun r5 σ4 => e_wr σ4 119 r5 7776 0 (fun σ6 => e_lp1 (d_X7_stepsTo_42 x1 x2 x3 (fun σ13 => some ((-6), σ13))) e_F 0 σ6))))) e_F 0 σ
theorem om_X7_stepsTo {G : KW} {l : Launch} (x1 : Int32) (x2 : Int32) (x3 : Int32)  (σ : Sg) : Okk G l cX7_stepsTo 7 RX7 (some .int) (rmo 4 89) ccI 0 [some (k_rr G 100), some (.int x1), some (.int x2), some (.int x3), none, none, none] [] σ (m_X7_stepsTo x1 x2 x3 σ) := by
  unfold m_X7_stepsTo
  refine ok_iconst (v := 0) (dq_of td_X7_stepsTo 0 rfl) (by decide) ?_
  refine ok_istore4 (dq_of td_X7_stepsTo 1 rfl) rfl (by decide) ?_
  refine ok_wk (wk_s (wk_s (wk_s (wk_s (wk_s (wk_n (wk_n wk_0))))))) ?_
  refine ld_X7_stepsTo_3 _ _ _  (fun σ2 => ?_) _ _ _
  refine ok_aload0 (dq_of td_X7_stepsTo 12 rfl) ?_
  refine call_X7_asNow ml_X7_132  ⟨Nat.le_of_ble_eq_true rfl, Nat.le_of_ble_eq_true rfl⟩ ⟨Nat.zero_le _, Nat.zero_le _⟩ (Nat.le_of_ble_eq_true rfl) (dq_of td_X7_stepsTo 13 rfl) (fun σ3 => ?_)
  refine ok_aload0 (dq_of td_X7_stepsTo 14 rfl) ?_
  refine ok_get (v := k_rr G 119) fl_X7_68 (by decide) ko_100 rfl (dq_of td_X7_stepsTo 15 rfl) ?_
  refine ok_aload0 (dq_of td_X7_stepsTo 16 rfl) ?_
  refine call_X7_codeOf ml_X7_162  ⟨Nat.le_of_ble_eq_true rfl, Nat.le_of_ble_eq_true rfl⟩ ⟨Nat.zero_le _, Nat.zero_le _⟩ (Nat.le_of_ble_eq_true rfl) (dq_of td_X7_stepsTo 17 rfl) (fun r5 σ4 => ?_)
  refine ok_iconst (v := 0) (dq_of td_X7_stepsTo 18 rfl) (by decide) ?_
  refine ok_iast ka_119 (dq_of td_X7_stepsTo 19 rfl) (fun σ6 => ?_)
  refine ok_iconst (v := 0) (dq_of td_X7_stepsTo 20 rfl) (by decide) ?_
  refine ok_istore4 (dq_of td_X7_stepsTo 21 rfl) rfl (by decide) ?_
  refine ok_wk (wk_s (wk_s (wk_s (wk_s (wk_s (wk_n (wk_n wk_0))))))) ?_
  refine ld_X7_stepsTo_42 _ _ _  (fun σ13 => ?_) _ _ _
  refine ok_bipush (v := (-6)) (dq_of td_X7_stepsTo 64 rfl) (by decide) ?_
  exact ok_iret (dq_of td_X7_stepsTo 65 rfl)
theorem ct_X7_stepsTo {G : KW} {l : Launch} (x1 : Int32) (x2 : Int32) (x3 : Int32)  (σ : Sg) : ∀ b, m_X7_stepsTo x1 x2 x3 σ = some b → MetF G l yX7_stepsTo cX7_stepsTo 7 (some .int) 4 89 [k_rr G 100, .int x1, .int x2, .int x3] (k_wl G σ) (ccI b).1 (k_wl G (ccI b).2) :=
  met_of (by decide) (Nat.le_of_ble_eq_true rfl) rfl (om_X7_stepsTo _ _ _  σ)
theorem call_X7_stepsTo {G : KW} {l : Launch} {cc : ByteArray} {nL : Nat} {own : String} {rt : Option FieldType} {R : Room} {α : Type} {X : State → Array Value → Method → Prop} {Z : α → List Frame → Array Value → State → State → Prop} {k0 n0 pc index : Nat} {L : List (Option Value)} {S : List Value} {σ : Sg} {F : Int32 → Sg → Option α} {x1 : Int32} {x2 : Int32} {x3 : Int32} (lk : MLk own index yX7_stepsTo)  (hR : R.frames ≥ 4 + 1 ∧ R.locals ≥ 8 + (7 + 11) + 89) (hcs : k0 ≤ R.cells ∧ n0 ≤ R.slots) (hro : (S.map fun v => v.category).sum ≤ 8) (d : decode cc pc = .ok (.invokevirtual index, 3)) (kk : ∀ (r : Int32) (σ' : Sg), Okg G l cc nL own rt R X Z k0 n0 (pc + 3) L (.int r :: S) σ' (F r σ')) : Okg G l cc nL own rt R X Z k0 n0 pc L (.int x3 :: .int x2 :: .int x1 :: k_rr G 100 :: S) σ (e_cI (m_X7_stepsTo x1 x2 x3 σ) F) :=
  ok_cV (cb := ccI) (As := [.int x1, .int x2, .int x3]) (ct_X7_stepsTo _ _ _  σ) mo_X7_stepsTo hi_X7_stepsTo lk rfl (ci := 7) rfl rfl (by decide) ko_100 hR rfl hcs hro d (fun b => kk b.1 b.2)
/-! CoatDinnerModel.beside(II)I -/
def m_X7_beside (x1 : Int32) (x2 : Int32) (σ : Sg) : Option (Int32 × Sg) := e_cI (m_X7_isThere x1 σ) (fun r2 σ1 => (if r2 = 0 then some ((-1), σ1) else e_cI (m_X7_isThere x2 σ1) (fun r4 σ3 => (if r4 = 0 then some ((-1), σ3) else (if x1 = x2 then some ((-1), σ3) else e_cI (m_X7_stepsTo x1 x2 0 σ3) (fun r6 σ5 => some (r6, σ5)))))))
theorem om_X7_beside {G : KW} {l : Launch} (x1 : Int32) (x2 : Int32)  (σ : Sg) : Okk G l cX7_beside 3 RX7 (some .int) (rmo 5 115) ccI 0 [some (k_rr G 100), some (.int x1), some (.int x2)] [] σ (m_X7_beside x1 x2 σ) := by
  unfold m_X7_beside
  refine ok_aload0 (dq_of td_X7_beside 0 rfl) ?_
  refine ok_iload1 (dq_of td_X7_beside 1 rfl) ?_
  refine call_X7_isThere ml_X7_95  ⟨Nat.le_of_ble_eq_true rfl, Nat.le_of_ble_eq_true rfl⟩ ⟨Nat.zero_le _, Nat.zero_le _⟩ (Nat.le_of_ble_eq_true rfl) (dq_of td_X7_beside 2 rfl) (fun r2 σ1 => ?_)
  refine ok_if_eq (tgt := 31) (dq_of td_X7_beside 3 rfl) (by decide) ?_ ?_
  · refine ok_iconst (v := (-1)) (dq_of td_X7_beside 17 rfl) (by decide) ?_
    exact ok_iret (dq_of td_X7_beside 18 rfl)
  · refine ok_aload0 (dq_of td_X7_beside 4 rfl) ?_
    refine ok_iload2 (dq_of td_X7_beside 5 rfl) ?_
    refine call_X7_isThere ml_X7_95  ⟨Nat.le_of_ble_eq_true rfl, Nat.le_of_ble_eq_true rfl⟩ ⟨Nat.zero_le _, Nat.zero_le _⟩ (Nat.le_of_ble_eq_true rfl) (dq_of td_X7_beside 6 rfl) (fun r4 σ3 => ?_)
    refine ok_if_eq (tgt := 31) (dq_of td_X7_beside 7 rfl) (by decide) ?_ ?_
    · refine ok_iconst (v := (-1)) (dq_of td_X7_beside 17 rfl) (by decide) ?_
      exact ok_iret (dq_of td_X7_beside 18 rfl)
    · refine ok_iload1 (dq_of td_X7_beside 8 rfl) ?_
      refine ok_iload2 (dq_of td_X7_beside 9 rfl) ?_
      refine ok_ic_eq (tgt := 31) (dq_of td_X7_beside 10 rfl) (by decide) ?_ ?_
      · refine ok_iconst (v := (-1)) (dq_of td_X7_beside 17 rfl) (by decide) ?_
        exact ok_iret (dq_of td_X7_beside 18 rfl)
      · refine ok_aload0 (dq_of td_X7_beside 11 rfl) ?_
        refine ok_iload1 (dq_of td_X7_beside 12 rfl) ?_
        refine ok_iload2 (dq_of td_X7_beside 13 rfl) ?_
        refine ok_iconst (v := 0) (dq_of td_X7_beside 14 rfl) (by decide) ?_
        refine call_X7_stepsTo ml_X7_179  ⟨Nat.le_of_ble_eq_true rfl, Nat.le_of_ble_eq_true rfl⟩ ⟨Nat.zero_le _, Nat.zero_le _⟩ (Nat.le_of_ble_eq_true rfl) (dq_of td_X7_beside 15 rfl) (fun r6 σ5 => ?_)
        refine ok_goto (tgt := 32) (dq_of td_X7_beside 16 rfl) (by decide) ?_
        exact ok_iret (dq_of td_X7_beside 18 rfl)
theorem ct_X7_beside {G : KW} {l : Launch} (x1 : Int32) (x2 : Int32)  (σ : Sg) : ∀ b, m_X7_beside x1 x2 σ = some b → MetF G l yX7_beside cX7_beside 3 (some .int) 5 115 [k_rr G 100, .int x1, .int x2] (k_wl G σ) (ccI b).1 (k_wl G (ccI b).2) :=
  met_of (by decide) (Nat.le_of_ble_eq_true rfl) rfl (om_X7_beside _ _  σ)
theorem call_X7_beside {G : KW} {l : Launch} {cc : ByteArray} {nL : Nat} {own : String} {rt : Option FieldType} {R : Room} {α : Type} {X : State → Array Value → Method → Prop} {Z : α → List Frame → Array Value → State → State → Prop} {k0 n0 pc index : Nat} {L : List (Option Value)} {S : List Value} {σ : Sg} {F : Int32 → Sg → Option α} {x1 : Int32} {x2 : Int32} (lk : MLk own index yX7_beside)  (hR : R.frames ≥ 5 + 1 ∧ R.locals ≥ 8 + (3 + 11) + 115) (hcs : k0 ≤ R.cells ∧ n0 ≤ R.slots) (hro : (S.map fun v => v.category).sum ≤ 8) (d : decode cc pc = .ok (.invokevirtual index, 3)) (kk : ∀ (r : Int32) (σ' : Sg), Okg G l cc nL own rt R X Z k0 n0 (pc + 3) L (.int r :: S) σ' (F r σ')) : Okg G l cc nL own rt R X Z k0 n0 pc L (.int x2 :: .int x1 :: k_rr G 100 :: S) σ (e_cI (m_X7_beside x1 x2 σ) F) :=
  ok_cV (cb := ccI) (As := [.int x1, .int x2]) (ct_X7_beside _ _  σ) mo_X7_beside hi_X7_beside lk rfl (ci := 7) rfl rfl (by decide) ko_100 hR rfl hcs hro d (fun b => kk b.1 b.2)
/-! CoatDinnerModel.head(II)I -/
def m_X7_head (x1 : Int32) (x2 : Int32) (σ : Sg) : Option (Int32 × Sg) := e_cI (m_X7_isThere x1 σ) (fun r2 σ1 => (if r2 = 0 then some ((-1), σ1) else e_cI (m_X7_in x2 0 4 σ1) (fun r4 σ3 => (if r4 = 0 then some ((-2), σ3) else e_cI (m_X7_stepsTo x1 ((-6)) x2 σ3) (fun r6 σ5 => some (r6, σ5))))))
theorem om_X7_head {G : KW} {l : Launch} (x1 : Int32) (x2 : Int32)  (σ : Sg) : Okk G l cX7_head 3 RX7 (some .int) (rmo 5 115) ccI 0 [some (k_rr G 100), some (.int x1), some (.int x2)] [] σ (m_X7_head x1 x2 σ) := by
  unfold m_X7_head
  refine ok_aload0 (dq_of td_X7_head 0 rfl) ?_
  refine ok_iload1 (dq_of td_X7_head 1 rfl) ?_
  refine call_X7_isThere ml_X7_95  ⟨Nat.le_of_ble_eq_true rfl, Nat.le_of_ble_eq_true rfl⟩ ⟨Nat.zero_le _, Nat.zero_le _⟩ (Nat.le_of_ble_eq_true rfl) (dq_of td_X7_head 2 rfl) (fun r2 σ1 => ?_)
  refine ok_if_ne (tgt := 10) (dq_of td_X7_head 3 rfl) (by decide) ?_ ?_
  · refine ok_iload2 (dq_of td_X7_head 6 rfl) ?_
    refine ok_iconst (v := 0) (dq_of td_X7_head 7 rfl) (by decide) ?_
    refine ok_iconst (v := 4) (dq_of td_X7_head 8 rfl) (by decide) ?_
    refine call_X7_in ml_X7_81  ⟨Nat.le_of_ble_eq_true rfl, Nat.le_of_ble_eq_true rfl⟩ ⟨Nat.zero_le _, Nat.zero_le _⟩ (Nat.le_of_ble_eq_true rfl) (dq_of td_X7_head 9 rfl) (fun r4 σ3 => ?_)
    refine ok_if_eq (tgt := 30) (dq_of td_X7_head 10 rfl) (by decide) ?_ ?_
    · refine ok_bipush (v := (-2)) (dq_of td_X7_head 17 rfl) (by decide) ?_
      exact ok_iret (dq_of td_X7_head 18 rfl)
    · refine ok_aload0 (dq_of td_X7_head 11 rfl) ?_
      refine ok_iload1 (dq_of td_X7_head 12 rfl) ?_
      refine ok_bipush (v := (-6)) (dq_of td_X7_head 13 rfl) (by decide) ?_
      refine ok_iload2 (dq_of td_X7_head 14 rfl) ?_
      refine call_X7_stepsTo ml_X7_179  ⟨Nat.le_of_ble_eq_true rfl, Nat.le_of_ble_eq_true rfl⟩ ⟨Nat.zero_le _, Nat.zero_le _⟩ (Nat.le_of_ble_eq_true rfl) (dq_of td_X7_head 15 rfl) (fun r6 σ5 => ?_)
      refine ok_goto (tgt := 32) (dq_of td_X7_head 16 rfl) (by decide) ?_
      exact ok_iret (dq_of td_X7_head 18 rfl)
  · refine ok_iconst (v := (-1)) (dq_of td_X7_head 4 rfl) (by decide) ?_
    exact ok_iret (dq_of td_X7_head 5 rfl)
theorem ct_X7_head {G : KW} {l : Launch} (x1 : Int32) (x2 : Int32)  (σ : Sg) : ∀ b, m_X7_head x1 x2 σ = some b → MetF G l yX7_head cX7_head 3 (some .int) 5 115 [k_rr G 100, .int x1, .int x2] (k_wl G σ) (ccI b).1 (k_wl G (ccI b).2) :=
  met_of (by decide) (Nat.le_of_ble_eq_true rfl) rfl (om_X7_head _ _  σ)
theorem call_X7_head {G : KW} {l : Launch} {cc : ByteArray} {nL : Nat} {own : String} {rt : Option FieldType} {R : Room} {α : Type} {X : State → Array Value → Method → Prop} {Z : α → List Frame → Array Value → State → State → Prop} {k0 n0 pc index : Nat} {L : List (Option Value)} {S : List Value} {σ : Sg} {F : Int32 → Sg → Option α} {x1 : Int32} {x2 : Int32} (lk : MLk own index yX7_head)  (hR : R.frames ≥ 5 + 1 ∧ R.locals ≥ 8 + (3 + 11) + 115) (hcs : k0 ≤ R.cells ∧ n0 ≤ R.slots) (hro : (S.map fun v => v.category).sum ≤ 8) (d : decode cc pc = .ok (.invokevirtual index, 3)) (kk : ∀ (r : Int32) (σ' : Sg), Okg G l cc nL own rt R X Z k0 n0 (pc + 3) L (.int r :: S) σ' (F r σ')) : Okg G l cc nL own rt R X Z k0 n0 pc L (.int x2 :: .int x1 :: k_rr G 100 :: S) σ (e_cI (m_X7_head x1 x2 σ) F) :=
  ok_cV (cb := ccI) (As := [.int x1, .int x2]) (ct_X7_head _ _  σ) mo_X7_head hi_X7_head lk rfl (ci := 7) rfl rfl (by decide) ko_100 hR rfl hcs hro d (fun b => kk b.1 b.2)
/-! CoatDinnerModel.isWay()Z -/
def b_X7_isWay_55  (K : Int32 → Sg → Option (Int32 × Sg)) (H : Int32 → Int32 → Sg → Option (Int32 × Sg)) (x2 : Int32) (s0 : Int32) (σ : Sg) : Option (Int32 × Sg) := H s0 (x2 + 1) σ
def b_X7_isWay_54  (K : Int32 → Sg → Option (Int32 × Sg)) (H : Int32 → Int32 → Sg → Option (Int32 × Sg)) (x2 : Int32) (σ : Sg) : Option (Int32 × Sg) := b_X7_isWay_55  K H x2 0 σ
def b_X7_isWay_50  (K : Int32 → Sg → Option (Int32 × Sg)) (H : Int32 → Int32 → Sg → Option (Int32 × Sg)) (x2 : Int32) (σ : Sg) : Option (Int32 × Sg) := b_X7_isWay_55  K H x2 1 σ
def d_X7_isWay_4  (K : Int32 → Sg → Option (Int32 × Sg)) (H : Int32 → Int32 → Sg → Option (Int32 × Sg)) (x1 : Int32) (x2 : Int32) (σ : Sg) : Option (Int32 × Sg) := (if 5 ≤ x2 then K x1 σ else (if x1 = 0 then b_X7_isWay_54  K H x2 σ else e_gd (k_in x2 5) ((if (σ 114 (Int32.toNatClampNeg x2)) = 5 then b_X7_isWay_50  K H x2 σ else e_cI (m_X7_has (σ 100 0) x2 σ) (fun r2 σ1 => (if r2 = 0 then b_X7_isWay_54  K H x2 σ1 else e_gd (k_in x2 5) (e_cI (m_X7_has (σ1 100 1) (σ1 114 (Int32.toNatClampNeg x2)) σ1) (fun r4 σ3 => (if r4 = 0 then b_X7_isWay_54  K H x2 σ3 else b_X7_isWay_50  K H x2 σ3)))))))))
def b_X7_isWay_94  (K : Int32 → Sg → Option (Int32 × Sg)) (H : Int32 → Int32 → Sg → Option (Int32 × Sg)) (x2 : Int32) (s0 : Int32) (σ : Sg) : Option (Int32 × Sg) := H s0 (x2 + 1) σ
def d_X7_isWay_64  (K : Int32 → Sg → Option (Int32 × Sg)) (H : Int32 → Int32 → Sg → Option (Int32 × Sg)) (x1 : Int32) (x2 : Int32) (σ : Sg) : Option (Int32 × Sg) := (if 5 ≤ x2 then K x1 σ else (if x1 = 0 then K x1 σ else e_cI (m_X7_many x2 σ) (fun r7 σ6 => e_gd (k_in x2 5) ((if (1 + (σ6 105 (Int32.toNatClampNeg x2))) < r7 then b_X7_isWay_94  K H x2 0 σ6 else b_X7_isWay_94  K H x2 1 σ6)))))
theorem ob_X7_isWay_55 {G : KW} {l : Launch}   {K : Int32 → Sg → Option (Int32 × Sg)} {H : Int32 → Int32 → Sg → Option (Int32 × Sg)} (hK : ∀ (x1 : Int32) (σ : Sg), Okk G l cX7_isWay 3 RX7 (some .boolean) (rmo 2 44) ccI 62 [some (k_rr G 100), some (.int x1), none] [] σ (K x1 σ)) (hH : ∀ (x1 : Int32) (x2 : Int32) (σ : Sg), Okk G l cX7_isWay 3 RX7 (some .boolean) (rmo 2 44) ccI 4 [some (k_rr G 100), some (.int x1), some (.int x2)] [] σ (H x1 x2 σ)) (x2 : Int32) (s0 : Int32)  (σ : Sg) : Okk G l cX7_isWay 3 RX7 (some .boolean) (rmo 2 44) ccI 55 [some (k_rr G 100), none, some (.int x2)] [.int s0] σ (b_X7_isWay_55  K H x2 s0 σ) := by
  unfold b_X7_isWay_55
  refine ok_istore1 (dq_of td_X7_isWay 31 rfl) rfl (by decide) ?_
  refine ok_jinc2 (w := 1) (dq_of td_X7_isWay 32 rfl) (by decide) rfl (by decide) ?_
  refine ok_goto (tgt := 4) (dq_of td_X7_isWay 33 rfl) (by decide) ?_
  refine ok_wk (wk_s (wk_s (wk_s wk_0))) ?_
  exact hH _ _ _
theorem ob_X7_isWay_54 {G : KW} {l : Launch}   {K : Int32 → Sg → Option (Int32 × Sg)} {H : Int32 → Int32 → Sg → Option (Int32 × Sg)} (hK : ∀ (x1 : Int32) (σ : Sg), Okk G l cX7_isWay 3 RX7 (some .boolean) (rmo 2 44) ccI 62 [some (k_rr G 100), some (.int x1), none] [] σ (K x1 σ)) (hH : ∀ (x1 : Int32) (x2 : Int32) (σ : Sg), Okk G l cX7_isWay 3 RX7 (some .boolean) (rmo 2 44) ccI 4 [some (k_rr G 100), some (.int x1), some (.int x2)] [] σ (H x1 x2 σ)) (x2 : Int32)  (σ : Sg) : Okk G l cX7_isWay 3 RX7 (some .boolean) (rmo 2 44) ccI 54 [some (k_rr G 100), none, some (.int x2)] [] σ (b_X7_isWay_54  K H x2 σ) := by
  unfold b_X7_isWay_54
  refine ok_iconst (v := 0) (dq_of td_X7_isWay 30 rfl) (by decide) ?_
  refine ok_wk (wk_s (wk_n (wk_s wk_0))) ?_
  exact ob_X7_isWay_55   hK hH _ _  _
theorem ob_X7_isWay_50 {G : KW} {l : Launch}   {K : Int32 → Sg → Option (Int32 × Sg)} {H : Int32 → Int32 → Sg → Option (Int32 × Sg)} (hK : ∀ (x1 : Int32) (σ : Sg), Okk G l cX7_isWay 3 RX7 (some .boolean) (rmo 2 44) ccI 62 [some (k_rr G 100), some (.int x1), none] [] σ (K x1 σ)) (hH : ∀ (x1 : Int32) (x2 : Int32) (σ : Sg), Okk G l cX7_isWay 3 RX7 (some .boolean) (rmo 2 44) ccI 4 [some (k_rr G 100), some (.int x1), some (.int x2)] [] σ (H x1 x2 σ)) (x2 : Int32)  (σ : Sg) : Okk G l cX7_isWay 3 RX7 (some .boolean) (rmo 2 44) ccI 50 [some (k_rr G 100), none, some (.int x2)] [] σ (b_X7_isWay_50  K H x2 σ) := by
  unfold b_X7_isWay_50
  refine ok_iconst (v := 1) (dq_of td_X7_isWay 28 rfl) (by decide) ?_
  refine ok_goto (tgt := 55) (dq_of td_X7_isWay 29 rfl) (by decide) ?_
  refine ok_wk (wk_s (wk_n (wk_s wk_0))) ?_
  exact ob_X7_isWay_55   hK hH _ _  _
theorem od_X7_isWay_4 {G : KW} {l : Launch}   {K : Int32 → Sg → Option (Int32 × Sg)} {H : Int32 → Int32 → Sg → Option (Int32 × Sg)} (hK : ∀ (x1 : Int32) (σ : Sg), Okk G l cX7_isWay 3 RX7 (some .boolean) (rmo 2 44) ccI 62 [some (k_rr G 100), some (.int x1), none] [] σ (K x1 σ)) (hH : ∀ (x1 : Int32) (x2 : Int32) (σ : Sg), Okk G l cX7_isWay 3 RX7 (some .boolean) (rmo 2 44) ccI 4 [some (k_rr G 100), some (.int x1), some (.int x2)] [] σ (H x1 x2 σ)) (x1 : Int32) (x2 : Int32)  (σ : Sg) : Okk G l cX7_isWay 3 RX7 (some .boolean) (rmo 2 44) ccI 4 [some (k_rr G 100), some (.int x1), some (.int x2)] [] σ (d_X7_isWay_4  K H x1 x2 σ) := by
  unfold d_X7_isWay_4
  refine ok_iload2 (dq_of td_X7_isWay 4 rfl) ?_
  refine ok_iconst (v := 5) (dq_of td_X7_isWay 5 rfl) (by decide) ?_
  refine ok_ic_ge (tgt := 62) (dq_of td_X7_isWay 6 rfl) (by decide) ?_ ?_
  · refine ok_wk (wk_s (wk_s (wk_n wk_0))) ?_
    exact hK _ _
  · refine ok_iload1 (dq_of td_X7_isWay 7 rfl) ?_
    refine ok_if_eq (tgt := 54) (dq_of td_X7_isWay 8 rfl) (by decide) ?_ ?_
    · refine ok_wk (wk_s (wk_n (wk_s wk_0))) ?_
      exact ob_X7_isWay_54   hK hH _  _
    · refine ok_aload0 (dq_of td_X7_isWay 9 rfl) ?_
      refine ok_get (v := k_rr G 114) fl_X7_53 (by decide) ko_100 rfl (dq_of td_X7_isWay 10 rfl) ?_
      refine ok_iload2 (dq_of td_X7_isWay 11 rfl) ?_
      refine ok_iald ka_114 (dq_of td_X7_isWay 12 rfl) ?_
      refine ok_iconst (v := 5) (dq_of td_X7_isWay 13 rfl) (by decide) ?_
      refine ok_ic_eq (tgt := 50) (dq_of td_X7_isWay 14 rfl) (by decide) ?_ ?_
      · refine ok_wk (wk_s (wk_n (wk_s wk_0))) ?_
        exact ob_X7_isWay_50   hK hH _  _
      · refine ok_aload0 (dq_of td_X7_isWay 15 rfl) ?_
        refine ok_get (v := .int (σ 100 0)) fl_X7_85 (by decide) ko_100 rfl (dq_of td_X7_isWay 16 rfl) ?_
        refine ok_iload2 (dq_of td_X7_isWay 17 rfl) ?_
        refine call_X7_has ml_X7_88  ⟨Nat.le_of_ble_eq_true rfl, Nat.le_of_ble_eq_true rfl⟩ ⟨Nat.zero_le _, Nat.zero_le _⟩ (Nat.le_of_ble_eq_true rfl) (dq_of td_X7_isWay 18 rfl) (fun r2 σ1 => ?_)
        refine ok_if_eq (tgt := 54) (dq_of td_X7_isWay 19 rfl) (by decide) ?_ ?_
        · refine ok_wk (wk_s (wk_n (wk_s wk_0))) ?_
          exact ob_X7_isWay_54   hK hH _  _
        · refine ok_aload0 (dq_of td_X7_isWay 20 rfl) ?_
          refine ok_get (v := .int (σ1 100 1)) fl_X7_92 (by decide) ko_100 rfl (dq_of td_X7_isWay 21 rfl) ?_
          refine ok_aload0 (dq_of td_X7_isWay 22 rfl) ?_
          refine ok_get (v := k_rr G 114) fl_X7_53 (by decide) ko_100 rfl (dq_of td_X7_isWay 23 rfl) ?_
          refine ok_iload2 (dq_of td_X7_isWay 24 rfl) ?_
          refine ok_iald ka_114 (dq_of td_X7_isWay 25 rfl) ?_
          refine call_X7_has ml_X7_88  ⟨Nat.le_of_ble_eq_true rfl, Nat.le_of_ble_eq_true rfl⟩ ⟨Nat.zero_le _, Nat.zero_le _⟩ (Nat.le_of_ble_eq_true rfl) (dq_of td_X7_isWay 26 rfl) (fun r4 σ3 => ?_)
          refine ok_if_eq (tgt := 54) (dq_of td_X7_isWay 27 rfl) (by decide) ?_ ?_
          · refine ok_wk (wk_s (wk_n (wk_s wk_0))) ?_
            exact ob_X7_isWay_54   hK hH _  _
          · refine ok_wk (wk_s (wk_n (wk_s wk_0))) ?_
            exact ob_X7_isWay_50   hK hH _  _
theorem ld_X7_isWay_4 {G : KW} {l : Launch}   {K : Int32 → Sg → Option (Int32 × Sg)} (hK : ∀ (x1 : Int32) (σ : Sg), Okk G l cX7_isWay 3 RX7 (some .boolean) (rmo 2 44) ccI 62 [some (k_rr G 100), some (.int x1), none] [] σ (K x1 σ)) (n : Nat) (x1 : Int32) (x2 : Int32) (σ : Sg) : Okk G l cX7_isWay 3 RX7 (some .boolean) (rmo 2 44) ccI 4 [some (k_rr G 100), some (.int x1), some (.int x2)] [] σ (e_lp2 (d_X7_isWay_4  K) n x1 x2 σ) :=
  ok_lp2 (Lf := fun (x1 : Int32) (x2 : Int32) => [some (k_rr G 100), some (.int x1), some (.int x2)]) (fun _ hH x1 x2 σ => od_X7_isWay_4   hK hH x1 x2 σ) n x1 x2 σ
theorem ob_X7_isWay_94 {G : KW} {l : Launch}   {K : Int32 → Sg → Option (Int32 × Sg)} {H : Int32 → Int32 → Sg → Option (Int32 × Sg)} (hK : ∀ (x1 : Int32) (σ : Sg), Okk G l cX7_isWay 3 RX7 (some .boolean) (rmo 2 44) ccI 101 [none, some (.int x1), none] [] σ (K x1 σ)) (hH : ∀ (x1 : Int32) (x2 : Int32) (σ : Sg), Okk G l cX7_isWay 3 RX7 (some .boolean) (rmo 2 44) ccI 64 [some (k_rr G 100), some (.int x1), some (.int x2)] [] σ (H x1 x2 σ)) (x2 : Int32) (s0 : Int32)  (σ : Sg) : Okk G l cX7_isWay 3 RX7 (some .boolean) (rmo 2 44) ccI 94 [some (k_rr G 100), none, some (.int x2)] [.int s0] σ (b_X7_isWay_94  K H x2 s0 σ) := by
  unfold b_X7_isWay_94
  refine ok_istore1 (dq_of td_X7_isWay 54 rfl) rfl (by decide) ?_
  refine ok_jinc2 (w := 1) (dq_of td_X7_isWay 55 rfl) (by decide) rfl (by decide) ?_
  refine ok_goto (tgt := 64) (dq_of td_X7_isWay 56 rfl) (by decide) ?_
  refine ok_wk (wk_s (wk_s (wk_s wk_0))) ?_
  exact hH _ _ _
theorem od_X7_isWay_64 {G : KW} {l : Launch}   {K : Int32 → Sg → Option (Int32 × Sg)} {H : Int32 → Int32 → Sg → Option (Int32 × Sg)} (hK : ∀ (x1 : Int32) (σ : Sg), Okk G l cX7_isWay 3 RX7 (some .boolean) (rmo 2 44) ccI 101 [none, some (.int x1), none] [] σ (K x1 σ)) (hH : ∀ (x1 : Int32) (x2 : Int32) (σ : Sg), Okk G l cX7_isWay 3 RX7 (some .boolean) (rmo 2 44) ccI 64 [some (k_rr G 100), some (.int x1), some (.int x2)] [] σ (H x1 x2 σ)) (x1 : Int32) (x2 : Int32)  (σ : Sg) : Okk G l cX7_isWay 3 RX7 (some .boolean) (rmo 2 44) ccI 64 [some (k_rr G 100), some (.int x1), some (.int x2)] [] σ (d_X7_isWay_64  K H x1 x2 σ) := by
  unfold d_X7_isWay_64
  refine ok_iload2 (dq_of td_X7_isWay 36 rfl) ?_
  refine ok_iconst (v := 5) (dq_of td_X7_isWay 37 rfl) (by decide) ?_
  refine ok_ic_ge (tgt := 101) (dq_of td_X7_isWay 38 rfl) (by decide) ?_ ?_
  · refine ok_wk (wk_n (wk_s (wk_n wk_0))) ?_
    exact hK _ _
  · refine ok_iload1 (dq_of td_X7_isWay 39 rfl) ?_
    refine ok_if_eq (tgt := 101) (dq_of td_X7_isWay 40 rfl) (by decide) ?_ ?_
    · refine ok_wk (wk_n (wk_s (wk_n wk_0))) ?_
      exact hK _ _
    · refine ok_aload0 (dq_of td_X7_isWay 41 rfl) ?_
      refine ok_iload2 (dq_of td_X7_isWay 42 rfl) ?_
      refine call_X7_many ml_X7_129  ⟨Nat.le_of_ble_eq_true rfl, Nat.le_of_ble_eq_true rfl⟩ ⟨Nat.zero_le _, Nat.zero_le _⟩ (Nat.le_of_ble_eq_true rfl) (dq_of td_X7_isWay 43 rfl) (fun r7 σ6 => ?_)
      refine ok_iconst (v := 1) (dq_of td_X7_isWay 44 rfl) (by decide) ?_
      refine ok_aload0 (dq_of td_X7_isWay 45 rfl) ?_
      refine ok_get (v := k_rr G 105) fl_X7_22 (by decide) ko_100 rfl (dq_of td_X7_isWay 46 rfl) ?_
      refine ok_iload2 (dq_of td_X7_isWay 47 rfl) ?_
      refine ok_iald ka_105 (dq_of td_X7_isWay 48 rfl) ?_
      refine ok_iadd (dq_of td_X7_isWay 49 rfl) ?_
      refine ok_ic_gt (tgt := 93) (dq_of td_X7_isWay 50 rfl) (by decide) ?_ ?_
      · refine ok_iconst (v := 0) (dq_of td_X7_isWay 53 rfl) (by decide) ?_
        refine ok_wk (wk_s (wk_n (wk_s wk_0))) ?_
        exact ob_X7_isWay_94   hK hH _ _  _
      · refine ok_iconst (v := 1) (dq_of td_X7_isWay 51 rfl) (by decide) ?_
        refine ok_goto (tgt := 94) (dq_of td_X7_isWay 52 rfl) (by decide) ?_
        refine ok_wk (wk_s (wk_n (wk_s wk_0))) ?_
        exact ob_X7_isWay_94   hK hH _ _  _
theorem ld_X7_isWay_64 {G : KW} {l : Launch}   {K : Int32 → Sg → Option (Int32 × Sg)} (hK : ∀ (x1 : Int32) (σ : Sg), Okk G l cX7_isWay 3 RX7 (some .boolean) (rmo 2 44) ccI 101 [none, some (.int x1), none] [] σ (K x1 σ)) (n : Nat) (x1 : Int32) (x2 : Int32) (σ : Sg) : Okk G l cX7_isWay 3 RX7 (some .boolean) (rmo 2 44) ccI 64 [some (k_rr G 100), some (.int x1), some (.int x2)] [] σ (e_lp2 (d_X7_isWay_64  K) n x1 x2 σ) :=
  ok_lp2 (Lf := fun (x1 : Int32) (x2 : Int32) => [some (k_rr G 100), some (.int x1), some (.int x2)]) (fun _ hH x1 x2 σ => od_X7_isWay_64   hK hH x1 x2 σ) n x1 x2 σ
def m_X7_isWay  (σ : Sg) : Option (Int32 × Sg) := e_lp2 (d_X7_isWay_4  (fun x1q5 σ5 => e_lp2 (d_X7_isWay_64  (fun x1q8 σ8 => e_rz x1q8 σ8)) e_F x1q5 0 σ5)) e_F 1 0 σ
theorem om_X7_isWay {G : KW} {l : Launch}   (σ : Sg) : Okk G l cX7_isWay 3 RX7 (some .boolean) (rmo 2 44) ccI 0 [some (k_rr G 100), none, none] [] σ (m_X7_isWay  σ) := by
  unfold m_X7_isWay
  refine ok_iconst (v := 1) (dq_of td_X7_isWay 0 rfl) (by decide) ?_
  refine ok_istore1 (dq_of td_X7_isWay 1 rfl) rfl (by decide) ?_
  refine ok_iconst (v := 0) (dq_of td_X7_isWay 2 rfl) (by decide) ?_
  refine ok_istore2 (dq_of td_X7_isWay 3 rfl) rfl (by decide) ?_
  refine ok_wk (wk_s (wk_s (wk_s wk_0))) ?_
  refine ld_X7_isWay_4   (fun x1q5 σ5 => ?_) _ _ _ _
  refine ok_iconst (v := 0) (dq_of td_X7_isWay 34 rfl) (by decide) ?_
  refine ok_istore2 (dq_of td_X7_isWay 35 rfl) rfl (by decide) ?_
  refine ok_wk (wk_s (wk_s (wk_s wk_0))) ?_
  refine ld_X7_isWay_64   (fun x1q8 σ8 => ?_) _ _ _ _
  refine ok_iload1 (dq_of td_X7_isWay 57 rfl) ?_
  exact ok_zret (dq_of td_X7_isWay 58 rfl)
theorem ct_X7_isWay {G : KW} {l : Launch}   (σ : Sg) : ∀ b, m_X7_isWay  σ = some b → MetF G l yX7_isWay cX7_isWay 3 (some .boolean) 2 44 [k_rr G 100] (k_wl G σ) (ccI b).1 (k_wl G (ccI b).2) :=
  met_of (by decide) (Nat.le_of_ble_eq_true rfl) rfl (om_X7_isWay   σ)
theorem call_X7_isWay {G : KW} {l : Launch} {cc : ByteArray} {nL : Nat} {own : String} {rt : Option FieldType} {R : Room} {α : Type} {X : State → Array Value → Method → Prop} {Z : α → List Frame → Array Value → State → State → Prop} {k0 n0 pc index : Nat} {L : List (Option Value)} {S : List Value} {σ : Sg} {F : Int32 → Sg → Option α}  (lk : MLk own index yX7_isWay)  (hR : R.frames ≥ 2 + 1 ∧ R.locals ≥ 8 + (3 + 11) + 44) (hcs : k0 ≤ R.cells ∧ n0 ≤ R.slots) (hro : (S.map fun v => v.category).sum ≤ 8) (d : decode cc pc = .ok (.invokevirtual index, 3)) (kk : ∀ (r : Int32) (σ' : Sg), Okg G l cc nL own rt R X Z k0 n0 (pc + 3) L (.int r :: S) σ' (F r σ')) : Okg G l cc nL own rt R X Z k0 n0 pc L (k_rr G 100 :: S) σ (e_cI (m_X7_isWay  σ) F) :=
  ok_cV (cb := ccI) (As := []) (ct_X7_isWay   σ) mo_X7_isWay hi_X7_isWay lk rfl (ci := 7) rfl rfl (by decide) ko_100 hR rfl hcs hro d (fun b => kk b.1 b.2)
/-! CoatDinnerModel.ways(II)I -/
def b_X7_ways_76 (x1 : Int32) (x2 : Int32) (K : Int32 → Sg → Option (Int32 × Sg)) (H : Int32 → Int32 → Sg → Option (Int32 × Sg)) (x4 : Int32) (s0 : Int32) (s1 : Int32) (σ : Sg) : Option (Int32 × Sg) := e_lt (s1 + s0) (fun v7 => H v7 (x4 + 1) σ)
def b_X7_ways_75 (x1 : Int32) (x2 : Int32) (K : Int32 → Sg → Option (Int32 × Sg)) (H : Int32 → Int32 → Sg → Option (Int32 × Sg)) (x4 : Int32) (s0 : Int32) (σ : Sg) : Option (Int32 × Sg) := b_X7_ways_76 x1 x2 K H x4 0 s0 σ
def b_X7_ways_71 (x1 : Int32) (x2 : Int32) (K : Int32 → Sg → Option (Int32 × Sg)) (H : Int32 → Int32 → Sg → Option (Int32 × Sg)) (x4 : Int32) (s0 : Int32) (σ : Sg) : Option (Int32 × Sg) := b_X7_ways_76 x1 x2 K H x4 1 s0 σ
def d_X7_ways_36 (x1 : Int32) (x2 : Int32) (K : Int32 → Sg → Option (Int32 × Sg)) (H : Int32 → Int32 → Sg → Option (Int32 × Sg)) (x3 : Int32) (x4 : Int32) (σ : Sg) : Option (Int32 × Sg) := (if 7776 ≤ x4 then K x3 σ else e_cV (m_X7_dress x4 σ) (fun σ4 => e_cI (m_X7_isWay σ4) (fun r6 σ5 => (if r6 = 0 then b_X7_ways_75 x1 x2 K H x4 x3 σ5 else (if x1 < 0 then b_X7_ways_71 x1 x2 K H x4 x3 σ5 else e_cI (m_X7_seatOf x1 σ5) (fun r9 σ8 => (if r9 = x2 then b_X7_ways_71 x1 x2 K H x4 x3 σ8 else b_X7_ways_75 x1 x2 K H x4 x3 σ8)))))))
def b_X7_ways_15 (x1 : Int32) (x2 : Int32)  (σ : Sg) : Option (Int32 × Sg) := e_cI (m_X7_in x2 0 4 σ) (fun r2 σ1 => (if r2 = 0 then some ((-2), σ1) else e_cV (m_X7_asNow σ1) (fun σ3 => e_lp2 (d_X7_ways_36 x1 x2 (fun x3q10 σ10 => some (x3q10, σ10))) e_F 0 0 σ3)))
theorem ob_X7_ways_76 {G : KW} {l : Launch} (x1 : Int32) (x2 : Int32)  {K : Int32 → Sg → Option (Int32 × Sg)} {H : Int32 → Int32 → Sg → Option (Int32 × Sg)} (hK : ∀ (x3 : Int32) (σ : Sg), Okk G l cX7_ways 5 RX7 (some .int) (rmo 3 66) ccI 84 [none, none, none, some (.int x3), none] [] σ (K x3 σ)) (hH : ∀ (x3 : Int32) (x4 : Int32) (σ : Sg), Okk G l cX7_ways 5 RX7 (some .int) (rmo 3 66) ccI 36 [some (k_rr G 100), some (.int x1), some (.int x2), some (.int x3), some (.int x4)] [] σ (H x3 x4 σ)) (x4 : Int32) (s0 : Int32) (s1 : Int32)  (σ : Sg) : Okk G l cX7_ways 5 RX7 (some .int) (rmo 3 66) ccI 76 [some (k_rr G 100), some (.int x1), some (.int x2), none, some (.int x4)] [.int s0, .int s1] σ (b_X7_ways_76 x1 x2 K H x4 s0 s1 σ) := by
  unfold b_X7_ways_76
  refine ok_iadd (dq_of td_X7_ways 42 rfl) ?_
  refine ok_gI (fun v7 => ?_)
  refine ok_istore3 (dq_of td_X7_ways 43 rfl) rfl (by decide) ?_
  refine ok_jinc4 (w := 1) (dq_of td_X7_ways 44 rfl) (by decide) rfl (by decide) ?_
  refine ok_goto (tgt := 36) (dq_of td_X7_ways 45 rfl) (by decide) ?_
  refine ok_wk (wk_s (wk_s (wk_s (wk_s (wk_s wk_0))))) ?_
  exact hH _ _ _
theorem ob_X7_ways_75 {G : KW} {l : Launch} (x1 : Int32) (x2 : Int32)  {K : Int32 → Sg → Option (Int32 × Sg)} {H : Int32 → Int32 → Sg → Option (Int32 × Sg)} (hK : ∀ (x3 : Int32) (σ : Sg), Okk G l cX7_ways 5 RX7 (some .int) (rmo 3 66) ccI 84 [none, none, none, some (.int x3), none] [] σ (K x3 σ)) (hH : ∀ (x3 : Int32) (x4 : Int32) (σ : Sg), Okk G l cX7_ways 5 RX7 (some .int) (rmo 3 66) ccI 36 [some (k_rr G 100), some (.int x1), some (.int x2), some (.int x3), some (.int x4)] [] σ (H x3 x4 σ)) (x4 : Int32) (s0 : Int32)  (σ : Sg) : Okk G l cX7_ways 5 RX7 (some .int) (rmo 3 66) ccI 75 [some (k_rr G 100), some (.int x1), some (.int x2), none, some (.int x4)] [.int s0] σ (b_X7_ways_75 x1 x2 K H x4 s0 σ) := by
  unfold b_X7_ways_75
  refine ok_iconst (v := 0) (dq_of td_X7_ways 41 rfl) (by decide) ?_
  refine ok_wk (wk_s (wk_s (wk_s (wk_n (wk_s wk_0))))) ?_
  exact ob_X7_ways_76 _ _  hK hH _ _ _  _
theorem ob_X7_ways_71 {G : KW} {l : Launch} (x1 : Int32) (x2 : Int32)  {K : Int32 → Sg → Option (Int32 × Sg)} {H : Int32 → Int32 → Sg → Option (Int32 × Sg)} (hK : ∀ (x3 : Int32) (σ : Sg), Okk G l cX7_ways 5 RX7 (some .int) (rmo 3 66) ccI 84 [none, none, none, some (.int x3), none] [] σ (K x3 σ)) (hH : ∀ (x3 : Int32) (x4 : Int32) (σ : Sg), Okk G l cX7_ways 5 RX7 (some .int) (rmo 3 66) ccI 36 [some (k_rr G 100), some (.int x1), some (.int x2), some (.int x3), some (.int x4)] [] σ (H x3 x4 σ)) (x4 : Int32) (s0 : Int32)  (σ : Sg) : Okk G l cX7_ways 5 RX7 (some .int) (rmo 3 66) ccI 71 [some (k_rr G 100), some (.int x1), some (.int x2), none, some (.int x4)] [.int s0] σ (b_X7_ways_71 x1 x2 K H x4 s0 σ) := by
  unfold b_X7_ways_71
  refine ok_iconst (v := 1) (dq_of td_X7_ways 39 rfl) (by decide) ?_
  refine ok_goto (tgt := 76) (dq_of td_X7_ways 40 rfl) (by decide) ?_
  refine ok_wk (wk_s (wk_s (wk_s (wk_n (wk_s wk_0))))) ?_
  exact ob_X7_ways_76 _ _  hK hH _ _ _  _
theorem od_X7_ways_36 {G : KW} {l : Launch} (x1 : Int32) (x2 : Int32)  {K : Int32 → Sg → Option (Int32 × Sg)} {H : Int32 → Int32 → Sg → Option (Int32 × Sg)} (hK : ∀ (x3 : Int32) (σ : Sg), Okk G l cX7_ways 5 RX7 (some .int) (rmo 3 66) ccI 84 [none, none, none, some (.int x3), none] [] σ (K x3 σ)) (hH : ∀ (x3 : Int32) (x4 : Int32) (σ : Sg), Okk G l cX7_ways 5 RX7 (some .int) (rmo 3 66) ccI 36 [some (k_rr G 100), some (.int x1), some (.int x2), some (.int x3), some (.int x4)] [] σ (H x3 x4 σ)) (x3 : Int32) (x4 : Int32)  (σ : Sg) : Okk G l cX7_ways 5 RX7 (some .int) (rmo 3 66) ccI 36 [some (k_rr G 100), some (.int x1), some (.int x2), some (.int x3), some (.int x4)] [] σ (d_X7_ways_36 x1 x2 K H x3 x4 σ) := by
  unfold d_X7_ways_36
  refine ok_iload4 (dq_of td_X7_ways 22 rfl) ?_
  refine ok_sipush (v := 7776) (dq_of td_X7_ways 23 rfl) (by decide) ?_
  refine ok_ic_ge (tgt := 84) (dq_of td_X7_ways 24 rfl) (by decide) ?_ ?_
  · refine ok_wk (wk_n (wk_n (wk_n (wk_s (wk_n wk_0))))) ?_
    exact hK _ _
  · refine ok_aload0 (dq_of td_X7_ways 25 rfl) ?_
    refine ok_iload4 (dq_of td_X7_ways 26 rfl) ?_
    refine call_X7_dress ml_X7_165  ⟨Nat.le_of_ble_eq_true rfl, Nat.le_of_ble_eq_true rfl⟩ ⟨Nat.zero_le _, Nat.zero_le _⟩ (Nat.le_of_ble_eq_true rfl) (dq_of td_X7_ways 27 rfl) (fun σ4 => ?_)
    refine ok_iload3 (dq_of td_X7_ways 28 rfl) ?_
    refine ok_aload0 (dq_of td_X7_ways 29 rfl) ?_
    refine call_X7_isWay ml_X7_182  ⟨Nat.le_of_ble_eq_true rfl, Nat.le_of_ble_eq_true rfl⟩ ⟨Nat.zero_le _, Nat.zero_le _⟩ (Nat.le_of_ble_eq_true rfl) (dq_of td_X7_ways 30 rfl) (fun r6 σ5 => ?_)
    refine ok_if_eq (tgt := 75) (dq_of td_X7_ways 31 rfl) (by decide) ?_ ?_
    · refine ok_wk (wk_s (wk_s (wk_s (wk_n (wk_s wk_0))))) ?_
      exact ob_X7_ways_75 _ _  hK hH _ _  _
    · refine ok_iload1 (dq_of td_X7_ways 32 rfl) ?_
      refine ok_if_lt (tgt := 71) (dq_of td_X7_ways 33 rfl) (by decide) ?_ ?_
      · refine ok_wk (wk_s (wk_s (wk_s (wk_n (wk_s wk_0))))) ?_
        exact ob_X7_ways_71 _ _  hK hH _ _  _
      · refine ok_aload0 (dq_of td_X7_ways 34 rfl) ?_
        refine ok_iload1 (dq_of td_X7_ways 35 rfl) ?_
        refine call_X7_seatOf ml_X7_126  ⟨Nat.le_of_ble_eq_true rfl, Nat.le_of_ble_eq_true rfl⟩ ⟨Nat.zero_le _, Nat.zero_le _⟩ (Nat.le_of_ble_eq_true rfl) (dq_of td_X7_ways 36 rfl) (fun r9 σ8 => ?_)
        refine ok_iload2 (dq_of td_X7_ways 37 rfl) ?_
        refine ok_ic_ne (tgt := 75) (dq_of td_X7_ways 38 rfl) (by decide) ?_ ?_
        · refine ok_wk (wk_s (wk_s (wk_s (wk_n (wk_s wk_0))))) ?_
          exact ob_X7_ways_75 _ _  hK hH _ _  _
        · refine ok_wk (wk_s (wk_s (wk_s (wk_n (wk_s wk_0))))) ?_
          exact ob_X7_ways_71 _ _  hK hH _ _  _
theorem ld_X7_ways_36 {G : KW} {l : Launch} (x1 : Int32) (x2 : Int32)  {K : Int32 → Sg → Option (Int32 × Sg)} (hK : ∀ (x3 : Int32) (σ : Sg), Okk G l cX7_ways 5 RX7 (some .int) (rmo 3 66) ccI 84 [none, none, none, some (.int x3), none] [] σ (K x3 σ)) (n : Nat) (x3 : Int32) (x4 : Int32) (σ : Sg) : Okk G l cX7_ways 5 RX7 (some .int) (rmo 3 66) ccI 36 [some (k_rr G 100), some (.int x1), some (.int x2), some (.int x3), some (.int x4)] [] σ (e_lp2 (d_X7_ways_36 x1 x2 K) n x3 x4 σ) :=
  ok_lp2 (Lf := fun (x3 : Int32) (x4 : Int32) => [some (k_rr G 100), some (.int x1), some (.int x2), some (.int x3), some (.int x4)]) (fun _ hH x3 x4 σ => od_X7_ways_36 _ _  hK hH x3 x4 σ) n x3 x4 σ
theorem ob_X7_ways_15 {G : KW} {l : Launch} (x1 : Int32) (x2 : Int32)    (σ : Sg) : Okk G l cX7_ways 5 RX7 (some .int) (rmo 3 66) ccI 15 [some (k_rr G 100), some (.int x1), some (.int x2), none, none] [] σ (b_X7_ways_15 x1 x2  σ) := by
  unfold b_X7_ways_15
  refine ok_iload2 (dq_of td_X7_ways 9 rfl) ?_
  refine ok_iconst (v := 0) (dq_of td_X7_ways 10 rfl) (by decide) ?_
  refine ok_iconst (v := 4) (dq_of td_X7_ways 11 rfl) (by decide) ?_
  refine call_X7_in ml_X7_81  ⟨Nat.le_of_ble_eq_true rfl, Nat.le_of_ble_eq_true rfl⟩ ⟨Nat.zero_le _, Nat.zero_le _⟩ (Nat.le_of_ble_eq_true rfl) (dq_of td_X7_ways 12 rfl) (fun r2 σ1 => ?_)
  refine ok_if_ne (tgt := 27) (dq_of td_X7_ways 13 rfl) (by decide) ?_ ?_
  · refine ok_aload0 (dq_of td_X7_ways 16 rfl) ?_
    refine call_X7_asNow ml_X7_132  ⟨Nat.le_of_ble_eq_true rfl, Nat.le_of_ble_eq_true rfl⟩ ⟨Nat.zero_le _, Nat.zero_le _⟩ (Nat.le_of_ble_eq_true rfl) (dq_of td_X7_ways 17 rfl) (fun σ3 => ?_)
    refine ok_iconst (v := 0) (dq_of td_X7_ways 18 rfl) (by decide) ?_
    refine ok_istore3 (dq_of td_X7_ways 19 rfl) rfl (by decide) ?_
    refine ok_iconst (v := 0) (dq_of td_X7_ways 20 rfl) (by decide) ?_
    refine ok_istore4 (dq_of td_X7_ways 21 rfl) rfl (by decide) ?_
    refine ok_wk (wk_s (wk_s (wk_s (wk_s (wk_s wk_0))))) ?_
    refine ld_X7_ways_36 _ _  (fun x3q10 σ10 => ?_) _ _ _ _
    refine ok_iload3 (dq_of td_X7_ways 46 rfl) ?_
    exact ok_iret (dq_of td_X7_ways 47 rfl)
  · refine ok_bipush (v := (-2)) (dq_of td_X7_ways 14 rfl) (by decide) ?_
    exact ok_iret (dq_of td_X7_ways 15 rfl)
def m_X7_ways (x1 : Int32) (x2 : Int32) (σ : Sg) : Option (Int32 × Sg) := (if x1 = ((-1)) then b_X7_ways_15 x1 x2 σ else e_cI (m_X7_isThere x1 σ) (fun r12 σ11 => (if r12 = 0 then some ((-1), σ11) else b_X7_ways_15 x1 x2 σ11)))
theorem om_X7_ways {G : KW} {l : Launch} (x1 : Int32) (x2 : Int32)  (σ : Sg) : Okk G l cX7_ways 5 RX7 (some .int) (rmo 3 66) ccI 0 [some (k_rr G 100), some (.int x1), some (.int x2), none, none] [] σ (m_X7_ways x1 x2 σ) := by
  unfold m_X7_ways
  refine ok_iload1 (dq_of td_X7_ways 0 rfl) ?_
  refine ok_iconst (v := (-1)) (dq_of td_X7_ways 1 rfl) (by decide) ?_
  refine ok_ic_eq (tgt := 15) (dq_of td_X7_ways 2 rfl) (by decide) ?_ ?_
  · refine ok_wk (wk_s (wk_s (wk_s (wk_n (wk_n wk_0))))) ?_
    exact ob_X7_ways_15 _ _   _
  · refine ok_aload0 (dq_of td_X7_ways 3 rfl) ?_
    refine ok_iload1 (dq_of td_X7_ways 4 rfl) ?_
    refine call_X7_isThere ml_X7_95  ⟨Nat.le_of_ble_eq_true rfl, Nat.le_of_ble_eq_true rfl⟩ ⟨Nat.zero_le _, Nat.zero_le _⟩ (Nat.le_of_ble_eq_true rfl) (dq_of td_X7_ways 5 rfl) (fun r12 σ11 => ?_)
    refine ok_if_ne (tgt := 15) (dq_of td_X7_ways 6 rfl) (by decide) ?_ ?_
    · refine ok_wk (wk_s (wk_s (wk_s (wk_n (wk_n wk_0))))) ?_
      exact ob_X7_ways_15 _ _   _
    · refine ok_iconst (v := (-1)) (dq_of td_X7_ways 7 rfl) (by decide) ?_
      exact ok_iret (dq_of td_X7_ways 8 rfl)
theorem ct_X7_ways {G : KW} {l : Launch} (x1 : Int32) (x2 : Int32)  (σ : Sg) : ∀ b, m_X7_ways x1 x2 σ = some b → MetF G l yX7_ways cX7_ways 5 (some .int) 3 66 [k_rr G 100, .int x1, .int x2] (k_wl G σ) (ccI b).1 (k_wl G (ccI b).2) :=
  met_of (by decide) (Nat.le_of_ble_eq_true rfl) rfl (om_X7_ways _ _  σ)
theorem call_X7_ways {G : KW} {l : Launch} {cc : ByteArray} {nL : Nat} {own : String} {rt : Option FieldType} {R : Room} {α : Type} {X : State → Array Value → Method → Prop} {Z : α → List Frame → Array Value → State → State → Prop} {k0 n0 pc index : Nat} {L : List (Option Value)} {S : List Value} {σ : Sg} {F : Int32 → Sg → Option α} {x1 : Int32} {x2 : Int32} (lk : MLk own index yX7_ways)  (hR : R.frames ≥ 3 + 1 ∧ R.locals ≥ 8 + (5 + 11) + 66) (hcs : k0 ≤ R.cells ∧ n0 ≤ R.slots) (hro : (S.map fun v => v.category).sum ≤ 8) (d : decode cc pc = .ok (.invokevirtual index, 3)) (kk : ∀ (r : Int32) (σ' : Sg), Okg G l cc nL own rt R X Z k0 n0 (pc + 3) L (.int r :: S) σ' (F r σ')) : Okg G l cc nL own rt R X Z k0 n0 pc L (.int x2 :: .int x1 :: k_rr G 100 :: S) σ (e_cI (m_X7_ways x1 x2 σ) F) :=
  ok_cV (cb := ccI) (As := [.int x1, .int x2]) (ct_X7_ways _ _  σ) mo_X7_ways hi_X7_ways lk rfl (ci := 7) rfl rfl (by decide) ko_100 hR rfl hcs hro d (fun b => kk b.1 b.2)
/-! CoatDinnerModel.seatings()I -/
def d_X7_seatings_6  (K : Sg → Option (Int32 × Sg)) (H : Int32 → Sg → Option (Int32 × Sg)) (x1 : Int32) (σ : Sg) : Option (Int32 × Sg) := (if 3125 ≤ x1 then K σ else e_wr σ 120 x1 3125 0 (fun σ2 => H (x1 + 1) σ2))
def b_X7_seatings_79  (K : Int32 → Int32 → Sg → Option (Int32 × Sg)) (H : Int32 → Int32 → Int32 → Sg → Option (Int32 × Sg)) (x1 : Int32) (x3 : Int32) (s0 : Int32) (s1 : Int32) (σ : Sg) : Option (Int32 × Sg) := e_lt (s1 + s0) (fun v9 => H x1 v9 (x3 + 1) σ)
def d_X7_seatings_51  (K : Int32 → Int32 → Sg → Option (Int32 × Sg)) (H : Int32 → Int32 → Int32 → Sg → Option (Int32 × Sg)) (x1 : Int32) (x2 : Int32) (x3 : Int32) (σ : Sg) : Option (Int32 × Sg) := (if 5 ≤ x3 then K x1 x2 σ else e_cI (m_X7_has (σ 100 0) x3 σ) (fun r8 σ7 => (if r8 = 0 then b_X7_seatings_79  K H x1 x3 0 (5 * x2) σ7 else e_cI (m_X7_seatOf x3 σ7) (fun r11 σ10 => b_X7_seatings_79  K H x1 x3 r11 (5 * x2) σ10))))
def d_X7_seatings_28  (K : Sg → Option (Int32 × Sg)) (H : Int32 → Sg → Option (Int32 × Sg)) (x1 : Int32) (σ : Sg) : Option (Int32 × Sg) := (if 7776 ≤ x1 then K σ else e_cV (m_X7_dress x1 σ) (fun σ4 => e_cI (m_X7_isWay σ4) (fun r6 σ5 => (if r6 = 0 then H (x1 + 1) σ5 else e_lp3 (d_X7_seatings_51  (fun x1q12 x2q12 σ12 => e_wr σ12 120 x2q12 3125 1 (fun σ13 => H (x1q12 + 1) σ13))) e_F x1 0 0 σ5))))
def b_X7_seatings_126  (K : Int32 → Sg → Option (Int32 × Sg)) (H : Int32 → Int32 → Sg → Option (Int32 × Sg)) (x2 : Int32) (s0 : Int32) (s1 : Int32) (σ : Sg) : Option (Int32 × Sg) := e_lt (s1 + s0) (fun v15 => H v15 (x2 + 1) σ)
def d_X7_seatings_104  (K : Int32 → Sg → Option (Int32 × Sg)) (H : Int32 → Int32 → Sg → Option (Int32 × Sg)) (x1 : Int32) (x2 : Int32) (σ : Sg) : Option (Int32 × Sg) := (if 3125 ≤ x2 then K x1 σ else e_gd (k_in x2 3125) ((if (σ 120 (Int32.toNatClampNeg x2)) = 0 then b_X7_seatings_126  K H x2 0 x1 σ else b_X7_seatings_126  K H x2 1 x1 σ)))
theorem od_X7_seatings_6 {G : KW} {l : Launch}   {K : Sg → Option (Int32 × Sg)} {H : Int32 → Sg → Option (Int32 × Sg)} (hK : ∀  (σ : Sg), Okk G l cX7_seatings 4 RX7 (some .int) (rmo 3 66) ccI 26 [some (k_rr G 100), none, none, none] [] σ (K  σ)) (hH : ∀ (x1 : Int32) (σ : Sg), Okk G l cX7_seatings 4 RX7 (some .int) (rmo 3 66) ccI 6 [some (k_rr G 100), some (.int x1), none, none] [] σ (H x1 σ)) (x1 : Int32)  (σ : Sg) : Okk G l cX7_seatings 4 RX7 (some .int) (rmo 3 66) ccI 6 [some (k_rr G 100), some (.int x1), none, none] [] σ (d_X7_seatings_6  K H x1 σ) := by
  unfold d_X7_seatings_6
  refine ok_iload1 (dq_of td_X7_seatings 4 rfl) ?_
  refine ok_sipush (v := 3125) (dq_of td_X7_seatings 5 rfl) (by decide) ?_
  refine ok_ic_ge (tgt := 26) (dq_of td_X7_seatings 6 rfl) (by decide) ?_ ?_
  · refine ok_wk (wk_s (wk_n (wk_n (wk_n wk_0)))) ?_
    exact hK _
  · refine ok_aload0 (dq_of td_X7_seatings 7 rfl) ?_
    refine ok_get (v := k_rr G 120) fl_X7_71 (by decide) ko_100 rfl (dq_of td_X7_seatings 8 rfl) ?_
    refine ok_iload1 (dq_of td_X7_seatings 9 rfl) ?_
    refine ok_iconst (v := 0) (dq_of td_X7_seatings 10 rfl) (by decide) ?_
    refine ok_zast ka_120 (by decide) (dq_of td_X7_seatings 11 rfl) (fun σ2 => ?_)
    refine ok_jinc1 (w := 1) (dq_of td_X7_seatings 12 rfl) (by decide) rfl (by decide) ?_
    refine ok_goto (tgt := 6) (dq_of td_X7_seatings 13 rfl) (by decide) ?_
    refine ok_wk (wk_s (wk_s (wk_n (wk_n wk_0)))) ?_
    exact hH _ _
theorem ld_X7_seatings_6 {G : KW} {l : Launch}   {K : Sg → Option (Int32 × Sg)} (hK : ∀  (σ : Sg), Okk G l cX7_seatings 4 RX7 (some .int) (rmo 3 66) ccI 26 [some (k_rr G 100), none, none, none] [] σ (K  σ)) (n : Nat) (x1 : Int32) (σ : Sg) : Okk G l cX7_seatings 4 RX7 (some .int) (rmo 3 66) ccI 6 [some (k_rr G 100), some (.int x1), none, none] [] σ (e_lp1 (d_X7_seatings_6  K) n x1 σ) :=
  ok_lp1 (Lf := fun (x1 : Int32) => [some (k_rr G 100), some (.int x1), none, none]) (fun _ hH x1 σ => od_X7_seatings_6   hK hH x1 σ) n x1 σ
theorem ob_X7_seatings_79 {G : KW} {l : Launch}   {K : Int32 → Int32 → Sg → Option (Int32 × Sg)} {H : Int32 → Int32 → Int32 → Sg → Option (Int32 × Sg)} (hK : ∀ (x1 : Int32) (x2 : Int32) (σ : Sg), Okk G l cX7_seatings 4 RX7 (some .int) (rmo 3 66) ccI 87 [some (k_rr G 100), some (.int x1), some (.int x2), none] [] σ (K x1 x2 σ)) (hH : ∀ (x1 : Int32) (x2 : Int32) (x3 : Int32) (σ : Sg), Okk G l cX7_seatings 4 RX7 (some .int) (rmo 3 66) ccI 51 [some (k_rr G 100), some (.int x1), some (.int x2), some (.int x3)] [] σ (H x1 x2 x3 σ)) (x1 : Int32) (x3 : Int32) (s0 : Int32) (s1 : Int32)  (σ : Sg) : Okk G l cX7_seatings 4 RX7 (some .int) (rmo 3 66) ccI 79 [some (k_rr G 100), some (.int x1), none, some (.int x3)] [.int s0, .int s1] σ (b_X7_seatings_79  K H x1 x3 s0 s1 σ) := by
  unfold b_X7_seatings_79
  refine ok_iadd (dq_of td_X7_seatings 45 rfl) ?_
  refine ok_gI (fun v9 => ?_)
  refine ok_istore2 (dq_of td_X7_seatings 46 rfl) rfl (by decide) ?_
  refine ok_jinc3 (w := 1) (dq_of td_X7_seatings 47 rfl) (by decide) rfl (by decide) ?_
  refine ok_goto (tgt := 51) (dq_of td_X7_seatings 48 rfl) (by decide) ?_
  refine ok_wk (wk_s (wk_s (wk_s (wk_s wk_0)))) ?_
  exact hH _ _ _ _
theorem od_X7_seatings_51 {G : KW} {l : Launch}   {K : Int32 → Int32 → Sg → Option (Int32 × Sg)} {H : Int32 → Int32 → Int32 → Sg → Option (Int32 × Sg)} (hK : ∀ (x1 : Int32) (x2 : Int32) (σ : Sg), Okk G l cX7_seatings 4 RX7 (some .int) (rmo 3 66) ccI 87 [some (k_rr G 100), some (.int x1), some (.int x2), none] [] σ (K x1 x2 σ)) (hH : ∀ (x1 : Int32) (x2 : Int32) (x3 : Int32) (σ : Sg), Okk G l cX7_seatings 4 RX7 (some .int) (rmo 3 66) ccI 51 [some (k_rr G 100), some (.int x1), some (.int x2), some (.int x3)] [] σ (H x1 x2 x3 σ)) (x1 : Int32) (x2 : Int32) (x3 : Int32)  (σ : Sg) : Okk G l cX7_seatings 4 RX7 (some .int) (rmo 3 66) ccI 51 [some (k_rr G 100), some (.int x1), some (.int x2), some (.int x3)] [] σ (d_X7_seatings_51  K H x1 x2 x3 σ) := by
  unfold d_X7_seatings_51
  refine ok_iload3 (dq_of td_X7_seatings 29 rfl) ?_
  refine ok_iconst (v := 5) (dq_of td_X7_seatings 30 rfl) (by decide) ?_
  refine ok_ic_ge (tgt := 87) (dq_of td_X7_seatings 31 rfl) (by decide) ?_ ?_
  · refine ok_wk (wk_s (wk_s (wk_s (wk_n wk_0)))) ?_
    exact hK _ _ _
  · refine ok_iconst (v := 5) (dq_of td_X7_seatings 32 rfl) (by decide) ?_
    refine ok_iload2 (dq_of td_X7_seatings 33 rfl) ?_
    refine ok_imul (dq_of td_X7_seatings 34 rfl) ?_
    refine ok_aload0 (dq_of td_X7_seatings 35 rfl) ?_
    refine ok_get (v := .int (σ 100 0)) fl_X7_85 (by decide) ko_100 rfl (dq_of td_X7_seatings 36 rfl) ?_
    refine ok_iload3 (dq_of td_X7_seatings 37 rfl) ?_
    refine call_X7_has ml_X7_88  ⟨Nat.le_of_ble_eq_true rfl, Nat.le_of_ble_eq_true rfl⟩ ⟨Nat.zero_le _, Nat.zero_le _⟩ (Nat.le_of_ble_eq_true rfl) (dq_of td_X7_seatings 38 rfl) (fun r8 σ7 => ?_)
    refine ok_if_eq (tgt := 78) (dq_of td_X7_seatings 39 rfl) (by decide) ?_ ?_
    · refine ok_iconst (v := 0) (dq_of td_X7_seatings 44 rfl) (by decide) ?_
      refine ok_wk (wk_s (wk_s (wk_n (wk_s wk_0)))) ?_
      exact ob_X7_seatings_79   hK hH _ _ _ _  _
    · refine ok_aload0 (dq_of td_X7_seatings 40 rfl) ?_
      refine ok_iload3 (dq_of td_X7_seatings 41 rfl) ?_
      refine call_X7_seatOf ml_X7_126  ⟨Nat.le_of_ble_eq_true rfl, Nat.le_of_ble_eq_true rfl⟩ ⟨Nat.zero_le _, Nat.zero_le _⟩ (Nat.le_of_ble_eq_true rfl) (dq_of td_X7_seatings 42 rfl) (fun r11 σ10 => ?_)
      refine ok_goto (tgt := 79) (dq_of td_X7_seatings 43 rfl) (by decide) ?_
      refine ok_wk (wk_s (wk_s (wk_n (wk_s wk_0)))) ?_
      exact ob_X7_seatings_79   hK hH _ _ _ _  _
theorem ld_X7_seatings_51 {G : KW} {l : Launch}   {K : Int32 → Int32 → Sg → Option (Int32 × Sg)} (hK : ∀ (x1 : Int32) (x2 : Int32) (σ : Sg), Okk G l cX7_seatings 4 RX7 (some .int) (rmo 3 66) ccI 87 [some (k_rr G 100), some (.int x1), some (.int x2), none] [] σ (K x1 x2 σ)) (n : Nat) (x1 : Int32) (x2 : Int32) (x3 : Int32) (σ : Sg) : Okk G l cX7_seatings 4 RX7 (some .int) (rmo 3 66) ccI 51 [some (k_rr G 100), some (.int x1), some (.int x2), some (.int x3)] [] σ (e_lp3 (d_X7_seatings_51  K) n x1 x2 x3 σ) :=
  ok_lp3 (Lf := fun (x1 : Int32) (x2 : Int32) (x3 : Int32) => [some (k_rr G 100), some (.int x1), some (.int x2), some (.int x3)]) (fun _ hH x1 x2 x3 σ => od_X7_seatings_51   hK hH x1 x2 x3 σ) n x1 x2 x3 σ
theorem od_X7_seatings_28 {G : KW} {l : Launch}   {K : Sg → Option (Int32 × Sg)} {H : Int32 → Sg → Option (Int32 × Sg)} (hK : ∀  (σ : Sg), Okk G l cX7_seatings 4 RX7 (some .int) (rmo 3 66) ccI 100 [some (k_rr G 100), none, none, none] [] σ (K  σ)) (hH : ∀ (x1 : Int32) (σ : Sg), Okk G l cX7_seatings 4 RX7 (some .int) (rmo 3 66) ccI 28 [some (k_rr G 100), some (.int x1), none, none] [] σ (H x1 σ)) (x1 : Int32)  (σ : Sg) : Okk G l cX7_seatings 4 RX7 (some .int) (rmo 3 66) ccI 28 [some (k_rr G 100), some (.int x1), none, none] [] σ (d_X7_seatings_28  K H x1 σ) := by
  unfold d_X7_seatings_28
  refine ok_iload1 (dq_of td_X7_seatings 16 rfl) ?_
  refine ok_sipush (v := 7776) (dq_of td_X7_seatings 17 rfl) (by decide) ?_
  refine ok_ic_ge (tgt := 100) (dq_of td_X7_seatings 18 rfl) (by decide) ?_ ?_
  · refine ok_wk (wk_s (wk_n (wk_n (wk_n wk_0)))) ?_
    exact hK _
  · refine ok_aload0 (dq_of td_X7_seatings 19 rfl) ?_
    refine ok_iload1 (dq_of td_X7_seatings 20 rfl) ?_
    refine call_X7_dress ml_X7_165  ⟨Nat.le_of_ble_eq_true rfl, Nat.le_of_ble_eq_true rfl⟩ ⟨Nat.zero_le _, Nat.zero_le _⟩ (Nat.le_of_ble_eq_true rfl) (dq_of td_X7_seatings 21 rfl) (fun σ4 => ?_)
    refine ok_aload0 (dq_of td_X7_seatings 22 rfl) ?_
    refine call_X7_isWay ml_X7_182  ⟨Nat.le_of_ble_eq_true rfl, Nat.le_of_ble_eq_true rfl⟩ ⟨Nat.zero_le _, Nat.zero_le _⟩ (Nat.le_of_ble_eq_true rfl) (dq_of td_X7_seatings 23 rfl) (fun r6 σ5 => ?_)
    refine ok_if_eq (tgt := 94) (dq_of td_X7_seatings 24 rfl) (by decide) ?_ ?_
    · refine ok_jinc1 (w := 1) (dq_of td_X7_seatings 54 rfl) (by decide) rfl (by decide) ?_
      refine ok_goto (tgt := 28) (dq_of td_X7_seatings 55 rfl) (by decide) ?_
      refine ok_wk (wk_s (wk_s (wk_n (wk_n wk_0)))) ?_
      exact hH _ _
    · refine ok_iconst (v := 0) (dq_of td_X7_seatings 25 rfl) (by decide) ?_
      refine ok_istore2 (dq_of td_X7_seatings 26 rfl) rfl (by decide) ?_
      refine ok_iconst (v := 0) (dq_of td_X7_seatings 27 rfl) (by decide) ?_
      refine ok_istore3 (dq_of td_X7_seatings 28 rfl) rfl (by decide) ?_
      refine ok_wk (wk_s (wk_s (wk_s (wk_s wk_0)))) ?_
      refine ld_X7_seatings_51   (fun x1q12 x2q12 σ12 => ?_) _ _ _ _ _
      refine ok_aload0 (dq_of td_X7_seatings 49 rfl) ?_
      refine ok_get (v := k_rr G 120) fl_X7_71 (by decide) ko_100 rfl (dq_of td_X7_seatings 50 rfl) ?_
      refine ok_iload2 (dq_of td_X7_seatings 51 rfl) ?_
      refine ok_iconst (v := 1) (dq_of td_X7_seatings 52 rfl) (by decide) ?_
      refine ok_zast ka_120 (by decide) (dq_of td_X7_seatings 53 rfl) (fun σ13 => ?_)
      refine ok_jinc1 (w := 1) (dq_of td_X7_seatings 54 rfl) (by decide) rfl (by decide) ?_
      refine ok_goto (tgt := 28) (dq_of td_X7_seatings 55 rfl) (by decide) ?_
      refine ok_wk (wk_s (wk_s (wk_n (wk_n wk_0)))) ?_
      exact hH _ _
theorem ld_X7_seatings_28 {G : KW} {l : Launch}   {K : Sg → Option (Int32 × Sg)} (hK : ∀  (σ : Sg), Okk G l cX7_seatings 4 RX7 (some .int) (rmo 3 66) ccI 100 [some (k_rr G 100), none, none, none] [] σ (K  σ)) (n : Nat) (x1 : Int32) (σ : Sg) : Okk G l cX7_seatings 4 RX7 (some .int) (rmo 3 66) ccI 28 [some (k_rr G 100), some (.int x1), none, none] [] σ (e_lp1 (d_X7_seatings_28  K) n x1 σ) :=
  ok_lp1 (Lf := fun (x1 : Int32) => [some (k_rr G 100), some (.int x1), none, none]) (fun _ hH x1 σ => od_X7_seatings_28   hK hH x1 σ) n x1 σ
theorem ob_X7_seatings_126 {G : KW} {l : Launch}   {K : Int32 → Sg → Option (Int32 × Sg)} {H : Int32 → Int32 → Sg → Option (Int32 × Sg)} (hK : ∀ (x1 : Int32) (σ : Sg), Okk G l cX7_seatings 4 RX7 (some .int) (rmo 3 66) ccI 134 [none, some (.int x1), none, none] [] σ (K x1 σ)) (hH : ∀ (x1 : Int32) (x2 : Int32) (σ : Sg), Okk G l cX7_seatings 4 RX7 (some .int) (rmo 3 66) ccI 104 [some (k_rr G 100), some (.int x1), some (.int x2), none] [] σ (H x1 x2 σ)) (x2 : Int32) (s0 : Int32) (s1 : Int32)  (σ : Sg) : Okk G l cX7_seatings 4 RX7 (some .int) (rmo 3 66) ccI 126 [some (k_rr G 100), none, some (.int x2), none] [.int s0, .int s1] σ (b_X7_seatings_126  K H x2 s0 s1 σ) := by
  unfold b_X7_seatings_126
  refine ok_iadd (dq_of td_X7_seatings 72 rfl) ?_
  refine ok_gI (fun v15 => ?_)
  refine ok_istore1 (dq_of td_X7_seatings 73 rfl) rfl (by decide) ?_
  refine ok_jinc2 (w := 1) (dq_of td_X7_seatings 74 rfl) (by decide) rfl (by decide) ?_
  refine ok_goto (tgt := 104) (dq_of td_X7_seatings 75 rfl) (by decide) ?_
  refine ok_wk (wk_s (wk_s (wk_s (wk_n wk_0)))) ?_
  exact hH _ _ _
theorem od_X7_seatings_104 {G : KW} {l : Launch}   {K : Int32 → Sg → Option (Int32 × Sg)} {H : Int32 → Int32 → Sg → Option (Int32 × Sg)} (hK : ∀ (x1 : Int32) (σ : Sg), Okk G l cX7_seatings 4 RX7 (some .int) (rmo 3 66) ccI 134 [none, some (.int x1), none, none] [] σ (K x1 σ)) (hH : ∀ (x1 : Int32) (x2 : Int32) (σ : Sg), Okk G l cX7_seatings 4 RX7 (some .int) (rmo 3 66) ccI 104 [some (k_rr G 100), some (.int x1), some (.int x2), none] [] σ (H x1 x2 σ)) (x1 : Int32) (x2 : Int32)  (σ : Sg) : Okk G l cX7_seatings 4 RX7 (some .int) (rmo 3 66) ccI 104 [some (k_rr G 100), some (.int x1), some (.int x2), none] [] σ (d_X7_seatings_104  K H x1 x2 σ) := by
  unfold d_X7_seatings_104
  refine ok_iload2 (dq_of td_X7_seatings 60 rfl) ?_
  refine ok_sipush (v := 3125) (dq_of td_X7_seatings 61 rfl) (by decide) ?_
  refine ok_ic_ge (tgt := 134) (dq_of td_X7_seatings 62 rfl) (by decide) ?_ ?_
  · refine ok_wk (wk_n (wk_s (wk_n (wk_n wk_0)))) ?_
    exact hK _ _
  · refine ok_iload1 (dq_of td_X7_seatings 63 rfl) ?_
    refine ok_aload0 (dq_of td_X7_seatings 64 rfl) ?_
    refine ok_get (v := k_rr G 120) fl_X7_71 (by decide) ko_100 rfl (dq_of td_X7_seatings 65 rfl) ?_
    refine ok_iload2 (dq_of td_X7_seatings 66 rfl) ?_
    refine ok_zald ka_120 (dq_of td_X7_seatings 67 rfl) ?_
    refine ok_if_eq (tgt := 125) (dq_of td_X7_seatings 68 rfl) (by decide) ?_ ?_
    · refine ok_iconst (v := 0) (dq_of td_X7_seatings 71 rfl) (by decide) ?_
      refine ok_wk (wk_s (wk_n (wk_s (wk_n wk_0)))) ?_
      exact ob_X7_seatings_126   hK hH _ _ _  _
    · refine ok_iconst (v := 1) (dq_of td_X7_seatings 69 rfl) (by decide) ?_
      refine ok_goto (tgt := 126) (dq_of td_X7_seatings 70 rfl) (by decide) ?_
      refine ok_wk (wk_s (wk_n (wk_s (wk_n wk_0)))) ?_
      exact ob_X7_seatings_126   hK hH _ _ _  _
theorem ld_X7_seatings_104 {G : KW} {l : Launch}   {K : Int32 → Sg → Option (Int32 × Sg)} (hK : ∀ (x1 : Int32) (σ : Sg), Okk G l cX7_seatings 4 RX7 (some .int) (rmo 3 66) ccI 134 [none, some (.int x1), none, none] [] σ (K x1 σ)) (n : Nat) (x1 : Int32) (x2 : Int32) (σ : Sg) : Okk G l cX7_seatings 4 RX7 (some .int) (rmo 3 66) ccI 104 [some (k_rr G 100), some (.int x1), some (.int x2), none] [] σ (e_lp2 (d_X7_seatings_104  K) n x1 x2 σ) :=
  ok_lp2 (Lf := fun (x1 : Int32) (x2 : Int32) => [some (k_rr G 100), some (.int x1), some (.int x2), none]) (fun _ hH x1 x2 σ => od_X7_seatings_104   hK hH x1 x2 σ) n x1 x2 σ
def m_X7_seatings  (σ : Sg) : Option (Int32 × Sg) := e_cV (m_X7_asNow σ) (fun σ1 => e_lp1 (d_X7_seatings_6  (fun σ3 => e_lp1 (d_X7_seatings_28  (fun σ14 => e_lp2 (d_X7_seatings_104  (fun x1q16 σ16 => some (x1q16, σ16))) e_F 0 0 σ14)) e_F 0 σ3)) e_F 0 σ1)
theorem om_X7_seatings {G : KW} {l : Launch}   (σ : Sg) : Okk G l cX7_seatings 4 RX7 (some .int) (rmo 3 66) ccI 0 [some (k_rr G 100), none, none, none] [] σ (m_X7_seatings  σ) := by
  unfold m_X7_seatings
  refine ok_aload0 (dq_of td_X7_seatings 0 rfl) ?_
  refine call_X7_asNow ml_X7_132  ⟨Nat.le_of_ble_eq_true rfl, Nat.le_of_ble_eq_true rfl⟩ ⟨Nat.zero_le _, Nat.zero_le _⟩ (Nat.le_of_ble_eq_true rfl) (dq_of td_X7_seatings 1 rfl) (fun σ1 => ?_)
  refine ok_iconst (v := 0) (dq_of td_X7_seatings 2 rfl) (by decide) ?_
  refine ok_istore1 (dq_of td_X7_seatings 3 rfl) rfl (by decide) ?_
  refine ok_wk (wk_s (wk_s (wk_n (wk_n wk_0)))) ?_
  refine ld_X7_seatings_6   (fun σ3 => ?_) _ _ _
  refine ok_iconst (v := 0) (dq_of td_X7_seatings 14 rfl) (by decide) ?_
  refine ok_istore1 (dq_of td_X7_seatings 15 rfl) rfl (by decide) ?_
  refine ok_wk (wk_s (wk_s (wk_n (wk_n wk_0)))) ?_
  refine ld_X7_seatings_28   (fun σ14 => ?_) _ _ _
  refine ok_iconst (v := 0) (dq_of td_X7_seatings 56 rfl) (by decide) ?_
  refine ok_istore1 (dq_of td_X7_seatings 57 rfl) rfl (by decide) ?_
  refine ok_iconst (v := 0) (dq_of td_X7_seatings 58 rfl) (by decide) ?_
  refine ok_istore2 (dq_of td_X7_seatings 59 rfl) rfl (by decide) ?_
  refine ok_wk (wk_s (wk_s (wk_s (wk_n wk_0)))) ?_
  refine ld_X7_seatings_104   (fun x1q16 σ16 => ?_) _ _ _ _
  refine ok_iload1 (dq_of td_X7_seatings 76 rfl) ?_
  exact ok_iret (dq_of td_X7_seatings 77 rfl)
theorem ct_X7_seatings {G : KW} {l : Launch}   (σ : Sg) : ∀ b, m_X7_seatings  σ = some b → MetF G l yX7_seatings cX7_seatings 4 (some .int) 3 66 [k_rr G 100] (k_wl G σ) (ccI b).1 (k_wl G (ccI b).2) :=
  met_of (by decide) (Nat.le_of_ble_eq_true rfl) rfl (om_X7_seatings   σ)
theorem call_X7_seatings {G : KW} {l : Launch} {cc : ByteArray} {nL : Nat} {own : String} {rt : Option FieldType} {R : Room} {α : Type} {X : State → Array Value → Method → Prop} {Z : α → List Frame → Array Value → State → State → Prop} {k0 n0 pc index : Nat} {L : List (Option Value)} {S : List Value} {σ : Sg} {F : Int32 → Sg → Option α}  (lk : MLk own index yX7_seatings)  (hR : R.frames ≥ 3 + 1 ∧ R.locals ≥ 8 + (4 + 11) + 66) (hcs : k0 ≤ R.cells ∧ n0 ≤ R.slots) (hro : (S.map fun v => v.category).sum ≤ 8) (d : decode cc pc = .ok (.invokevirtual index, 3)) (kk : ∀ (r : Int32) (σ' : Sg), Okg G l cc nL own rt R X Z k0 n0 (pc + 3) L (.int r :: S) σ' (F r σ')) : Okg G l cc nL own rt R X Z k0 n0 pc L (k_rr G 100 :: S) σ (e_cI (m_X7_seatings  σ) F) :=
  ok_cV (cb := ccI) (As := []) (ct_X7_seatings   σ) mo_X7_seatings hi_X7_seatings lk rfl (ci := 7) rfl rfl (by decide) ko_100 hR rfl hcs hro d (fun b => kk b.1 b.2)
/-! CoatDinnerModel.isFreeFor(II)Z -/
def m_X7_isFreeFor (x1 : Int32) (x2 : Int32) (σ : Sg) : Option (Int32 × Sg) := e_cI (m_X7_has (σ 100 1) x1 σ) (fun r2 σ1 => (if r2 = 0 then e_rz 0 σ1 else e_cI (m_X7_wearers x1 σ1) (fun r4 σ3 => (if (r4 &&& ((jsl 1 x2) ^^^ ((-1)))) = 0 then e_rz 1 σ3 else e_rz 0 σ3))))
theorem om_X7_isFreeFor {G : KW} {l : Launch} (x1 : Int32) (x2 : Int32)  (σ : Sg) : Okk G l cX7_isFreeFor 3 RX7 (some .boolean) (rmo 2 44) ccI 0 [some (k_rr G 100), some (.int x1), some (.int x2)] [] σ (m_X7_isFreeFor x1 x2 σ) := by
  unfold m_X7_isFreeFor
  refine ok_aload0 (dq_of td_X7_isFreeFor 0 rfl) ?_
  refine ok_get (v := .int (σ 100 1)) fl_X7_92 (by decide) ko_100 rfl (dq_of td_X7_isFreeFor 1 rfl) ?_
  refine ok_iload1 (dq_of td_X7_isFreeFor 2 rfl) ?_
  refine call_X7_has ml_X7_88  ⟨Nat.le_of_ble_eq_true rfl, Nat.le_of_ble_eq_true rfl⟩ ⟨Nat.zero_le _, Nat.zero_le _⟩ (Nat.le_of_ble_eq_true rfl) (dq_of td_X7_isFreeFor 3 rfl) (fun r2 σ1 => ?_)
  refine ok_if_eq (tgt := 29) (dq_of td_X7_isFreeFor 4 rfl) (by decide) ?_ ?_
  · refine ok_iconst (v := 0) (dq_of td_X7_isFreeFor 17 rfl) (by decide) ?_
    exact ok_zret (dq_of td_X7_isFreeFor 18 rfl)
  · refine ok_aload0 (dq_of td_X7_isFreeFor 5 rfl) ?_
    refine ok_iload1 (dq_of td_X7_isFreeFor 6 rfl) ?_
    refine call_X7_wearers ml_X7_110  ⟨Nat.le_of_ble_eq_true rfl, Nat.le_of_ble_eq_true rfl⟩ ⟨Nat.zero_le _, Nat.zero_le _⟩ (Nat.le_of_ble_eq_true rfl) (dq_of td_X7_isFreeFor 7 rfl) (fun r4 σ3 => ?_)
    refine ok_iconst (v := 1) (dq_of td_X7_isFreeFor 8 rfl) (by decide) ?_
    refine ok_iload2 (dq_of td_X7_isFreeFor 9 rfl) ?_
    refine ok_ishl (dq_of td_X7_isFreeFor 10 rfl) ?_
    refine ok_iconst (v := (-1)) (dq_of td_X7_isFreeFor 11 rfl) (by decide) ?_
    refine ok_ixor (dq_of td_X7_isFreeFor 12 rfl) ?_
    refine ok_iand (dq_of td_X7_isFreeFor 13 rfl) ?_
    refine ok_if_ne (tgt := 29) (dq_of td_X7_isFreeFor 14 rfl) (by decide) ?_ ?_
    · refine ok_iconst (v := 0) (dq_of td_X7_isFreeFor 17 rfl) (by decide) ?_
      exact ok_zret (dq_of td_X7_isFreeFor 18 rfl)
    · refine ok_iconst (v := 1) (dq_of td_X7_isFreeFor 15 rfl) (by decide) ?_
      refine ok_goto (tgt := 30) (dq_of td_X7_isFreeFor 16 rfl) (by decide) ?_
      exact ok_zret (dq_of td_X7_isFreeFor 18 rfl)
theorem ct_X7_isFreeFor {G : KW} {l : Launch} (x1 : Int32) (x2 : Int32)  (σ : Sg) : ∀ b, m_X7_isFreeFor x1 x2 σ = some b → MetF G l yX7_isFreeFor cX7_isFreeFor 3 (some .boolean) 2 44 [k_rr G 100, .int x1, .int x2] (k_wl G σ) (ccI b).1 (k_wl G (ccI b).2) :=
  met_of (by decide) (Nat.le_of_ble_eq_true rfl) rfl (om_X7_isFreeFor _ _  σ)
theorem call_X7_isFreeFor {G : KW} {l : Launch} {cc : ByteArray} {nL : Nat} {own : String} {rt : Option FieldType} {R : Room} {α : Type} {X : State → Array Value → Method → Prop} {Z : α → List Frame → Array Value → State → State → Prop} {k0 n0 pc index : Nat} {L : List (Option Value)} {S : List Value} {σ : Sg} {F : Int32 → Sg → Option α} {x1 : Int32} {x2 : Int32} (lk : MLk own index yX7_isFreeFor)  (hR : R.frames ≥ 2 + 1 ∧ R.locals ≥ 8 + (3 + 11) + 44) (hcs : k0 ≤ R.cells ∧ n0 ≤ R.slots) (hro : (S.map fun v => v.category).sum ≤ 8) (d : decode cc pc = .ok (.invokevirtual index, 3)) (kk : ∀ (r : Int32) (σ' : Sg), Okg G l cc nL own rt R X Z k0 n0 (pc + 3) L (.int r :: S) σ' (F r σ')) : Okg G l cc nL own rt R X Z k0 n0 pc L (.int x2 :: .int x1 :: k_rr G 100 :: S) σ (e_cI (m_X7_isFreeFor x1 x2 σ) F) :=
  ok_cV (cb := ccI) (As := [.int x1, .int x2]) (ct_X7_isFreeFor _ _  σ) mo_X7_isFreeFor hi_X7_isFreeFor lk rfl (ci := 7) rfl rfl (by decide) ko_100 hR rfl hcs hro d (fun b => kk b.1 b.2)
/-! CoatDinnerModel.decides(I)I -/
def b_X7_decides_75 (x1 : Int32) (K : Int32 → Sg → Option (Int32 × Sg)) (H : Int32 → Int32 → Sg → Option (Int32 × Sg)) (x3 : Int32) (s0 : Int32) (s1 : Int32) (σ : Sg) : Option (Int32 × Sg) := e_lt (s1 ||| s0) (fun v13 => H v13 (x3 + 1) σ)
def d_X7_decides_14 (x1 : Int32) (K : Int32 → Sg → Option (Int32 × Sg)) (H : Int32 → Int32 → Sg → Option (Int32 × Sg)) (x2 : Int32) (x3 : Int32) (σ : Sg) : Option (Int32 × Sg) := (if 5 ≤ x3 then K x2 σ else e_cI (m_X7_has (σ 100 0) x3 σ) (fun r4 σ3 => (if r4 = 0 then H x2 (x3 + 1) σ3 else e_cI (m_X7_isFreeFor x1 x3 σ3) (fun r6 σ5 => (if r6 = 0 then H x2 (x3 + 1) σ5 else e_cV (m_X7_asNow σ5) (fun σ7 => e_cI (m_X7_seatOf x3 σ7) (fun r9 σ8 => e_wr σ8 114 x3 5 x1 (fun σ10 => e_cI (m_X7_seatOf x3 σ10) (fun r12 σ11 => (if r12 = r9 then b_X7_decides_75 x1 K H x3 0 x2 σ11 else b_X7_decides_75 x1 K H x3 (jsl 1 x3) x2 σ11))))))))))
theorem ob_X7_decides_75 {G : KW} {l : Launch} (x1 : Int32)  {K : Int32 → Sg → Option (Int32 × Sg)} {H : Int32 → Int32 → Sg → Option (Int32 × Sg)} (hK : ∀ (x2 : Int32) (σ : Sg), Okk G l cX7_decides 5 RX7 (some .int) (rmo 3 66) ccI 83 [none, none, some (.int x2), none, none] [] σ (K x2 σ)) (hH : ∀ (x2 : Int32) (x3 : Int32) (σ : Sg), Okk G l cX7_decides 5 RX7 (some .int) (rmo 3 66) ccI 14 [some (k_rr G 100), some (.int x1), some (.int x2), some (.int x3), none] [] σ (H x2 x3 σ)) (x3 : Int32) (s0 : Int32) (s1 : Int32)  (σ : Sg) : Okk G l cX7_decides 5 RX7 (some .int) (rmo 3 66) ccI 75 [some (k_rr G 100), some (.int x1), none, some (.int x3), none] [.int s0, .int s1] σ (b_X7_decides_75 x1 K H x3 s0 s1 σ) := by
  unfold b_X7_decides_75
  refine ok_ior (dq_of td_X7_decides 45 rfl) ?_
  refine ok_gI (fun v13 => ?_)
  refine ok_istore2 (dq_of td_X7_decides 46 rfl) rfl (by decide) ?_
  refine ok_jinc3 (w := 1) (dq_of td_X7_decides 47 rfl) (by decide) rfl (by decide) ?_
  refine ok_goto (tgt := 14) (dq_of td_X7_decides 48 rfl) (by decide) ?_
  refine ok_wk (wk_s (wk_s (wk_s (wk_s (wk_n wk_0))))) ?_
  exact hH _ _ _
theorem od_X7_decides_14 {G : KW} {l : Launch} (x1 : Int32)  {K : Int32 → Sg → Option (Int32 × Sg)} {H : Int32 → Int32 → Sg → Option (Int32 × Sg)} (hK : ∀ (x2 : Int32) (σ : Sg), Okk G l cX7_decides 5 RX7 (some .int) (rmo 3 66) ccI 83 [none, none, some (.int x2), none, none] [] σ (K x2 σ)) (hH : ∀ (x2 : Int32) (x3 : Int32) (σ : Sg), Okk G l cX7_decides 5 RX7 (some .int) (rmo 3 66) ccI 14 [some (k_rr G 100), some (.int x1), some (.int x2), some (.int x3), none] [] σ (H x2 x3 σ)) (x2 : Int32) (x3 : Int32)  (σ : Sg) : Okk G l cX7_decides 5 RX7 (some .int) (rmo 3 66) ccI 14 [some (k_rr G 100), some (.int x1), some (.int x2), some (.int x3), none] [] σ (d_X7_decides_14 x1 K H x2 x3 σ) := by
  unfold d_X7_decides_14
  refine ok_iload3 (dq_of td_X7_decides 10 rfl) ?_
  refine ok_iconst (v := 5) (dq_of td_X7_decides 11 rfl) (by decide) ?_
  refine ok_ic_ge (tgt := 83) (dq_of td_X7_decides 12 rfl) (by decide) ?_ ?_
  · refine ok_wk (wk_n (wk_n (wk_s (wk_n (wk_n wk_0))))) ?_
    exact hK _ _
  · refine ok_aload0 (dq_of td_X7_decides 13 rfl) ?_
    refine ok_get (v := .int (σ 100 0)) fl_X7_85 (by decide) ko_100 rfl (dq_of td_X7_decides 14 rfl) ?_
    refine ok_iload3 (dq_of td_X7_decides 15 rfl) ?_
    refine call_X7_has ml_X7_88  ⟨Nat.le_of_ble_eq_true rfl, Nat.le_of_ble_eq_true rfl⟩ ⟨Nat.zero_le _, Nat.zero_le _⟩ (Nat.le_of_ble_eq_true rfl) (dq_of td_X7_decides 16 rfl) (fun r4 σ3 => ?_)
    refine ok_if_eq (tgt := 77) (dq_of td_X7_decides 17 rfl) (by decide) ?_ ?_
    · refine ok_jinc3 (w := 1) (dq_of td_X7_decides 47 rfl) (by decide) rfl (by decide) ?_
      refine ok_goto (tgt := 14) (dq_of td_X7_decides 48 rfl) (by decide) ?_
      refine ok_wk (wk_s (wk_s (wk_s (wk_s (wk_n wk_0))))) ?_
      exact hH _ _ _
    · refine ok_aload0 (dq_of td_X7_decides 18 rfl) ?_
      refine ok_iload1 (dq_of td_X7_decides 19 rfl) ?_
      refine ok_iload3 (dq_of td_X7_decides 20 rfl) ?_
      refine call_X7_isFreeFor ml_X7_186  ⟨Nat.le_of_ble_eq_true rfl, Nat.le_of_ble_eq_true rfl⟩ ⟨Nat.zero_le _, Nat.zero_le _⟩ (Nat.le_of_ble_eq_true rfl) (dq_of td_X7_decides 21 rfl) (fun r6 σ5 => ?_)
      refine ok_if_eq (tgt := 77) (dq_of td_X7_decides 22 rfl) (by decide) ?_ ?_
      · refine ok_jinc3 (w := 1) (dq_of td_X7_decides 47 rfl) (by decide) rfl (by decide) ?_
        refine ok_goto (tgt := 14) (dq_of td_X7_decides 48 rfl) (by decide) ?_
        refine ok_wk (wk_s (wk_s (wk_s (wk_s (wk_n wk_0))))) ?_
        exact hH _ _ _
      · refine ok_aload0 (dq_of td_X7_decides 23 rfl) ?_
        refine call_X7_asNow ml_X7_132  ⟨Nat.le_of_ble_eq_true rfl, Nat.le_of_ble_eq_true rfl⟩ ⟨Nat.zero_le _, Nat.zero_le _⟩ (Nat.le_of_ble_eq_true rfl) (dq_of td_X7_decides 24 rfl) (fun σ7 => ?_)
        refine ok_aload0 (dq_of td_X7_decides 25 rfl) ?_
        refine ok_iload3 (dq_of td_X7_decides 26 rfl) ?_
        refine call_X7_seatOf ml_X7_126  ⟨Nat.le_of_ble_eq_true rfl, Nat.le_of_ble_eq_true rfl⟩ ⟨Nat.zero_le _, Nat.zero_le _⟩ (Nat.le_of_ble_eq_true rfl) (dq_of td_X7_decides 27 rfl) (fun r9 σ8 => ?_)
        refine ok_istore4 (dq_of td_X7_decides 28 rfl) rfl (by decide) ?_
        refine ok_aload0 (dq_of td_X7_decides 29 rfl) ?_
        refine ok_get (v := k_rr G 114) fl_X7_53 (by decide) ko_100 rfl (dq_of td_X7_decides 30 rfl) ?_
        refine ok_iload3 (dq_of td_X7_decides 31 rfl) ?_
        refine ok_iload1 (dq_of td_X7_decides 32 rfl) ?_
        refine ok_iast ka_114 (dq_of td_X7_decides 33 rfl) (fun σ10 => ?_)
        refine ok_iload2 (dq_of td_X7_decides 34 rfl) ?_
        refine ok_aload0 (dq_of td_X7_decides 35 rfl) ?_
        refine ok_iload3 (dq_of td_X7_decides 36 rfl) ?_
        refine call_X7_seatOf ml_X7_126  ⟨Nat.le_of_ble_eq_true rfl, Nat.le_of_ble_eq_true rfl⟩ ⟨Nat.zero_le _, Nat.zero_le _⟩ (Nat.le_of_ble_eq_true rfl) (dq_of td_X7_decides 37 rfl) (fun r12 σ11 => ?_)
        refine ok_iload4 (dq_of td_X7_decides 38 rfl) ?_
        refine ok_ic_ne (tgt := 72) (dq_of td_X7_decides 39 rfl) (by decide) ?_ ?_
        · refine ok_iconst (v := 1) (dq_of td_X7_decides 42 rfl) (by decide) ?_
          refine ok_iload3 (dq_of td_X7_decides 43 rfl) ?_
          refine ok_ishl (dq_of td_X7_decides 44 rfl) ?_
          refine ok_wk (wk_s (wk_s (wk_n (wk_s (wk_n wk_0))))) ?_
          exact ob_X7_decides_75 _  hK hH _ _ _  _
        · refine ok_iconst (v := 0) (dq_of td_X7_decides 40 rfl) (by decide) ?_
          refine ok_goto (tgt := 75) (dq_of td_X7_decides 41 rfl) (by decide) ?_
          refine ok_wk (wk_s (wk_s (wk_n (wk_s (wk_n wk_0))))) ?_
          exact ob_X7_decides_75 _  hK hH _ _ _  _
theorem ld_X7_decides_14 {G : KW} {l : Launch} (x1 : Int32)  {K : Int32 → Sg → Option (Int32 × Sg)} (hK : ∀ (x2 : Int32) (σ : Sg), Okk G l cX7_decides 5 RX7 (some .int) (rmo 3 66) ccI 83 [none, none, some (.int x2), none, none] [] σ (K x2 σ)) (n : Nat) (x2 : Int32) (x3 : Int32) (σ : Sg) : Okk G l cX7_decides 5 RX7 (some .int) (rmo 3 66) ccI 14 [some (k_rr G 100), some (.int x1), some (.int x2), some (.int x3), none] [] σ (e_lp2 (d_X7_decides_14 x1 K) n x2 x3 σ) :=
  ok_lp2 (Lf := fun (x2 : Int32) (x3 : Int32) => [some (k_rr G 100), some (.int x1), some (.int x2), some (.int x3), none]) (fun _ hH x2 x3 σ => od_X7_decides_14 _  hK hH x2 x3 σ) n x2 x3 σ
def m_X7_decides (x1 : Int32) (σ : Sg) : Option (Int32 × Sg) := e_cI (m_X7_isCoat x1 σ) (fun r2 σ1 => (if r2 = 0 then some ((-1), σ1) else e_lp2 (d_X7_decides_14 x1 (fun x2q14 σ14 => some (x2q14, σ14))) e_F 0 0 σ1))
theorem om_X7_decides {G : KW} {l : Launch} (x1 : Int32)  (σ : Sg) : Okk G l cX7_decides 5 RX7 (some .int) (rmo 3 66) ccI 0 [some (k_rr G 100), some (.int x1), none, none, none] [] σ (m_X7_decides x1 σ) := by
  unfold m_X7_decides
  refine ok_aload0 (dq_of td_X7_decides 0 rfl) ?_
  refine ok_iload1 (dq_of td_X7_decides 1 rfl) ?_
  refine call_X7_isCoat ml_X7_107  ⟨Nat.le_of_ble_eq_true rfl, Nat.le_of_ble_eq_true rfl⟩ ⟨Nat.zero_le _, Nat.zero_le _⟩ (Nat.le_of_ble_eq_true rfl) (dq_of td_X7_decides 2 rfl) (fun r2 σ1 => ?_)
  refine ok_if_ne (tgt := 10) (dq_of td_X7_decides 3 rfl) (by decide) ?_ ?_
  · refine ok_iconst (v := 0) (dq_of td_X7_decides 6 rfl) (by decide) ?_
    refine ok_istore2 (dq_of td_X7_decides 7 rfl) rfl (by decide) ?_
    refine ok_iconst (v := 0) (dq_of td_X7_decides 8 rfl) (by decide) ?_
    refine ok_istore3 (dq_of td_X7_decides 9 rfl) rfl (by decide) ?_
    refine ok_wk (wk_s (wk_s (wk_s (wk_s (wk_n wk_0))))) ?_
    refine ld_X7_decides_14 _  (fun x2q14 σ14 => ?_) _ _ _ _
    refine ok_iload2 (dq_of td_X7_decides 49 rfl) ?_
    exact ok_iret (dq_of td_X7_decides 50 rfl)
  · refine ok_iconst (v := (-1)) (dq_of td_X7_decides 4 rfl) (by decide) ?_
    exact ok_iret (dq_of td_X7_decides 5 rfl)
theorem ct_X7_decides {G : KW} {l : Launch} (x1 : Int32)  (σ : Sg) : ∀ b, m_X7_decides x1 σ = some b → MetF G l yX7_decides cX7_decides 5 (some .int) 3 66 [k_rr G 100, .int x1] (k_wl G σ) (ccI b).1 (k_wl G (ccI b).2) :=
  met_of (by decide) (Nat.le_of_ble_eq_true rfl) rfl (om_X7_decides _  σ)
theorem call_X7_decides {G : KW} {l : Launch} {cc : ByteArray} {nL : Nat} {own : String} {rt : Option FieldType} {R : Room} {α : Type} {X : State → Array Value → Method → Prop} {Z : α → List Frame → Array Value → State → State → Prop} {k0 n0 pc index : Nat} {L : List (Option Value)} {S : List Value} {σ : Sg} {F : Int32 → Sg → Option α} {x1 : Int32} (lk : MLk own index yX7_decides)  (hR : R.frames ≥ 3 + 1 ∧ R.locals ≥ 8 + (5 + 11) + 66) (hcs : k0 ≤ R.cells ∧ n0 ≤ R.slots) (hro : (S.map fun v => v.category).sum ≤ 8) (d : decode cc pc = .ok (.invokevirtual index, 3)) (kk : ∀ (r : Int32) (σ' : Sg), Okg G l cc nL own rt R X Z k0 n0 (pc + 3) L (.int r :: S) σ' (F r σ')) : Okg G l cc nL own rt R X Z k0 n0 pc L (.int x1 :: k_rr G 100 :: S) σ (e_cI (m_X7_decides x1 σ) F) :=
  ok_cV (cb := ccI) (As := [.int x1]) (ct_X7_decides _  σ) mo_X7_decides hi_X7_decides lk rfl (ci := 7) rfl rfl (by decide) ko_100 hR rfl hcs hro d (fun b => kk b.1 b.2)
/-! CoatDinnerModel.sewn(II)I -/
def d_X7_sewn_44 (x1 : Int32) (x2 : Int32) (K : Sg → Option (Int32 × Sg)) (H : Int32 → Int32 → Sg → Option (Int32 × Sg)) (x3 : Int32) (x4 : Int32) (σ : Sg) : Option (Int32 × Sg) := e_gd (k_in x3 5) ((if 100 ≤ ((σ 101 (Int32.toNatClampNeg x3)) + x4) then K σ else e_gd (k_in x3 5) (e_wr σ 118 x3 5 ((σ 101 (Int32.toNatClampNeg x3)) + x4) (fun σ7 => e_cI (m_X7_seatOf x1 σ7) (fun r9 σ8 => (if x2 < r9 then H x3 (x4 + 1) σ8 else some (x4, σ8)))))))
theorem od_X7_sewn_44 {G : KW} {l : Launch} (x1 : Int32) (x2 : Int32)  {K : Sg → Option (Int32 × Sg)} {H : Int32 → Int32 → Sg → Option (Int32 × Sg)} (hK : ∀  (σ : Sg), Okk G l cX7_sewn 5 RX7 (some .int) (rmo 2 47) ccI 91 [none, none, none, none, none] [] σ (K  σ)) (hH : ∀ (x3 : Int32) (x4 : Int32) (σ : Sg), Okk G l cX7_sewn 5 RX7 (some .int) (rmo 2 47) ccI 44 [some (k_rr G 100), some (.int x1), some (.int x2), some (.int x3), some (.int x4)] [] σ (H x3 x4 σ)) (x3 : Int32) (x4 : Int32)  (σ : Sg) : Okk G l cX7_sewn 5 RX7 (some .int) (rmo 2 47) ccI 44 [some (k_rr G 100), some (.int x1), some (.int x2), some (.int x3), some (.int x4)] [] σ (d_X7_sewn_44 x1 x2 K H x3 x4 σ) := by
  unfold d_X7_sewn_44
  refine ok_aload0 (dq_of td_X7_sewn 27 rfl) ?_
  refine ok_get (v := k_rr G 101) fl_X7_7 (by decide) ko_100 rfl (dq_of td_X7_sewn 28 rfl) ?_
  refine ok_iload3 (dq_of td_X7_sewn 29 rfl) ?_
  refine ok_iald ka_101 (dq_of td_X7_sewn 30 rfl) ?_
  refine ok_iload4 (dq_of td_X7_sewn 31 rfl) ?_
  refine ok_iadd (dq_of td_X7_sewn 32 rfl) ?_
  refine ok_bipush (v := 100) (dq_of td_X7_sewn 33 rfl) (by decide) ?_
  refine ok_ic_ge (tgt := 91) (dq_of td_X7_sewn 34 rfl) (by decide) ?_ ?_
  · refine ok_wk (wk_n (wk_n (wk_n (wk_n (wk_n wk_0))))) ?_
    exact hK _
  · refine ok_aload0 (dq_of td_X7_sewn 35 rfl) ?_
    refine ok_get (v := k_rr G 118) fl_X7_65 (by decide) ko_100 rfl (dq_of td_X7_sewn 36 rfl) ?_
    refine ok_iload3 (dq_of td_X7_sewn 37 rfl) ?_
    refine ok_aload0 (dq_of td_X7_sewn 38 rfl) ?_
    refine ok_get (v := k_rr G 101) fl_X7_7 (by decide) ko_100 rfl (dq_of td_X7_sewn 39 rfl) ?_
    refine ok_iload3 (dq_of td_X7_sewn 40 rfl) ?_
    refine ok_iald ka_101 (dq_of td_X7_sewn 41 rfl) ?_
    refine ok_iload4 (dq_of td_X7_sewn 42 rfl) ?_
    refine ok_iadd (dq_of td_X7_sewn 43 rfl) ?_
    refine ok_iast ka_118 (dq_of td_X7_sewn 44 rfl) (fun σ7 => ?_)
    refine ok_aload0 (dq_of td_X7_sewn 45 rfl) ?_
    refine ok_iload1 (dq_of td_X7_sewn 46 rfl) ?_
    refine call_X7_seatOf ml_X7_126  ⟨Nat.le_of_ble_eq_true rfl, Nat.le_of_ble_eq_true rfl⟩ ⟨Nat.zero_le _, Nat.zero_le _⟩ (Nat.le_of_ble_eq_true rfl) (dq_of td_X7_sewn 47 rfl) (fun r9 σ8 => ?_)
    refine ok_iload2 (dq_of td_X7_sewn 48 rfl) ?_
    refine ok_ic_gt (tgt := 85) (dq_of td_X7_sewn 49 rfl) (by decide) ?_ ?_
    · refine ok_jinc4 (w := 1) (dq_of td_X7_sewn 52 rfl) (by decide) rfl (by decide) ?_
      refine ok_goto (tgt := 44) (dq_of td_X7_sewn 53 rfl) (by decide) ?_
      refine ok_wk (wk_s (wk_s (wk_s (wk_s (wk_s wk_0))))) ?_
      exact hH _ _ _
    · refine ok_iload4 (dq_of td_X7_sewn 50 rfl) ?_
      exact ok_iret (dq_of td_X7_sewn 51 rfl)
theorem ld_X7_sewn_44 {G : KW} {l : Launch} (x1 : Int32) (x2 : Int32)  {K : Sg → Option (Int32 × Sg)} (hK : ∀  (σ : Sg), Okk G l cX7_sewn 5 RX7 (some .int) (rmo 2 47) ccI 91 [none, none, none, none, none] [] σ (K  σ)) (n : Nat) (x3 : Int32) (x4 : Int32) (σ : Sg) : Okk G l cX7_sewn 5 RX7 (some .int) (rmo 2 47) ccI 44 [some (k_rr G 100), some (.int x1), some (.int x2), some (.int x3), some (.int x4)] [] σ (e_lp2 (d_X7_sewn_44 x1 x2 K) n x3 x4 σ) :=
  ok_lp2 (Lf := fun (x3 : Int32) (x4 : Int32) => [some (k_rr G 100), some (.int x1), some (.int x2), some (.int x3), some (.int x4)]) (fun _ hH x3 x4 σ => od_X7_sewn_44 _ _  hK hH x3 x4 σ) n x3 x4 σ
def m_X7_sewn (x1 : Int32) (x2 : Int32) (σ : Sg) : Option (Int32 × Sg) := e_cI (m_X7_isThere x1 σ) (fun r2 σ1 => (if r2 = 0 then some ((-1), σ1) else e_cI (m_X7_in x2 0 4 σ1) (fun r4 σ3 => (if r4 = 0 then some ((-2), σ3) else e_cV (m_X7_asNow σ3) (fun σ5 => e_gd (k_in x1 5) (e_lt (σ5 106 (Int32.toNatClampNeg x1)) (fun v6 => (if v6 = 5 then some ((-6), σ5) else e_lp2 (d_X7_sewn_44 x1 x2 (fun σ10 => some ((-6), σ10))) e_F v6 0 σ5))))))))
theorem om_X7_sewn {G : KW} {l : Launch} (x1 : Int32) (x2 : Int32)  (σ : Sg) : Okk G l cX7_sewn 5 RX7 (some .int) (rmo 2 47) ccI 0 [some (k_rr G 100), some (.int x1), some (.int x2), none, none] [] σ (m_X7_sewn x1 x2 σ) := by
  unfold m_X7_sewn
  refine ok_aload0 (dq_of td_X7_sewn 0 rfl) ?_
  refine ok_iload1 (dq_of td_X7_sewn 1 rfl) ?_
  refine call_X7_isThere ml_X7_95  ⟨Nat.le_of_ble_eq_true rfl, Nat.le_of_ble_eq_true rfl⟩ ⟨Nat.zero_le _, Nat.zero_le _⟩ (Nat.le_of_ble_eq_true rfl) (dq_of td_X7_sewn 2 rfl) (fun r2 σ1 => ?_)
  refine ok_if_ne (tgt := 10) (dq_of td_X7_sewn 3 rfl) (by decide) ?_ ?_
  · refine ok_iload2 (dq_of td_X7_sewn 6 rfl) ?_
    refine ok_iconst (v := 0) (dq_of td_X7_sewn 7 rfl) (by decide) ?_
    refine ok_iconst (v := 4) (dq_of td_X7_sewn 8 rfl) (by decide) ?_
    refine call_X7_in ml_X7_81  ⟨Nat.le_of_ble_eq_true rfl, Nat.le_of_ble_eq_true rfl⟩ ⟨Nat.zero_le _, Nat.zero_le _⟩ (Nat.le_of_ble_eq_true rfl) (dq_of td_X7_sewn 9 rfl) (fun r4 σ3 => ?_)
    refine ok_if_ne (tgt := 22) (dq_of td_X7_sewn 10 rfl) (by decide) ?_ ?_
    · refine ok_aload0 (dq_of td_X7_sewn 13 rfl) ?_
      refine call_X7_asNow ml_X7_132  ⟨Nat.le_of_ble_eq_true rfl, Nat.le_of_ble_eq_true rfl⟩ ⟨Nat.zero_le _, Nat.zero_le _⟩ (Nat.le_of_ble_eq_true rfl) (dq_of td_X7_sewn 14 rfl) (fun σ5 => ?_)
      refine ok_aload0 (dq_of td_X7_sewn 15 rfl) ?_
      refine ok_get (v := k_rr G 106) fl_X7_29 (by decide) ko_100 rfl (dq_of td_X7_sewn 16 rfl) ?_
      refine ok_iload1 (dq_of td_X7_sewn 17 rfl) ?_
      refine ok_iald ka_106 (dq_of td_X7_sewn 18 rfl) ?_
      refine ok_gI (fun v6 => ?_)
      refine ok_istore3 (dq_of td_X7_sewn 19 rfl) rfl (by decide) ?_
      refine ok_iload3 (dq_of td_X7_sewn 20 rfl) ?_
      refine ok_iconst (v := 5) (dq_of td_X7_sewn 21 rfl) (by decide) ?_
      refine ok_ic_ne (tgt := 41) (dq_of td_X7_sewn 22 rfl) (by decide) ?_ ?_
      · refine ok_iconst (v := 0) (dq_of td_X7_sewn 25 rfl) (by decide) ?_
        refine ok_istore4 (dq_of td_X7_sewn 26 rfl) rfl (by decide) ?_
        refine ok_wk (wk_s (wk_s (wk_s (wk_s (wk_s wk_0))))) ?_
        refine ld_X7_sewn_44 _ _  (fun σ10 => ?_) _ _ _ _
        refine ok_bipush (v := (-6)) (dq_of td_X7_sewn 54 rfl) (by decide) ?_
        exact ok_iret (dq_of td_X7_sewn 55 rfl)
      · refine ok_bipush (v := (-6)) (dq_of td_X7_sewn 23 rfl) (by decide) ?_
        exact ok_iret (dq_of td_X7_sewn 24 rfl)
    · refine ok_bipush (v := (-2)) (dq_of td_X7_sewn 11 rfl) (by decide) ?_
      exact ok_iret (dq_of td_X7_sewn 12 rfl)
  · refine ok_iconst (v := (-1)) (dq_of td_X7_sewn 4 rfl) (by decide) ?_
    exact ok_iret (dq_of td_X7_sewn 5 rfl)
theorem ct_X7_sewn {G : KW} {l : Launch} (x1 : Int32) (x2 : Int32)  (σ : Sg) : ∀ b, m_X7_sewn x1 x2 σ = some b → MetF G l yX7_sewn cX7_sewn 5 (some .int) 2 47 [k_rr G 100, .int x1, .int x2] (k_wl G σ) (ccI b).1 (k_wl G (ccI b).2) :=
  met_of (by decide) (Nat.le_of_ble_eq_true rfl) rfl (om_X7_sewn _ _  σ)
theorem call_X7_sewn {G : KW} {l : Launch} {cc : ByteArray} {nL : Nat} {own : String} {rt : Option FieldType} {R : Room} {α : Type} {X : State → Array Value → Method → Prop} {Z : α → List Frame → Array Value → State → State → Prop} {k0 n0 pc index : Nat} {L : List (Option Value)} {S : List Value} {σ : Sg} {F : Int32 → Sg → Option α} {x1 : Int32} {x2 : Int32} (lk : MLk own index yX7_sewn)  (hR : R.frames ≥ 2 + 1 ∧ R.locals ≥ 8 + (5 + 11) + 47) (hcs : k0 ≤ R.cells ∧ n0 ≤ R.slots) (hro : (S.map fun v => v.category).sum ≤ 8) (d : decode cc pc = .ok (.invokevirtual index, 3)) (kk : ∀ (r : Int32) (σ' : Sg), Okg G l cc nL own rt R X Z k0 n0 (pc + 3) L (.int r :: S) σ' (F r σ')) : Okg G l cc nL own rt R X Z k0 n0 pc L (.int x2 :: .int x1 :: k_rr G 100 :: S) σ (e_cI (m_X7_sewn x1 x2 σ) F) :=
  ok_cV (cb := ccI) (As := [.int x1, .int x2]) (ct_X7_sewn _ _  σ) mo_X7_sewn hi_X7_sewn lk rfl (ci := 7) rfl rfl (by decide) ko_100 hR rfl hcs hro d (fun b => kk b.1 b.2)
