/-! CoatDinnerModel.told(I)I -/
def b_X7_told_34 (x1 : Int32)  (σ : Sg) : Option (Int32 × Sg) := some ((-2), σ)
theorem ob_X7_told_34 {G : KW} {l : Launch} (x1 : Int32)    (σ : Sg) : Okk G l cX7_told 4 RX7 (some .int) (rmo 2 44) ccI 34 [none, none, none, none] [] σ (b_X7_told_34 x1  σ) := by
  unfold b_X7_told_34
  refine ok_bipush (v := (-2)) (dq_of td_X7_told 22 rfl) (by decide) ?_
  refine ok_goto (tgt := 61) (dq_of td_X7_told 23 rfl) (by decide) ?_
  exact ok_iret (dq_of td_X7_told 37 rfl)
def m_X7_told (x1 : Int32) (σ : Sg) : Option (Int32 × Sg) := e_lt (jrm x1 10) (fun v1 => (if x1 < 100 then (if x1 < 10 then e_sw x1 4 (fun j => match j with | 0 => some (σ 100 16, σ) | 1 => some (σ 100 0, σ) | 2 => some (σ 100 1, σ) | _ => some (σ 100 7, σ)) ((if x1 = 4 then some (σ 100 14, σ) else some ((-2), σ))) else e_lt ((x1 / 10) - 1) (fun v2 => e_cI (m_X7_isCoat v2 σ) (fun r4 σ3 => (if r4 = 0 then some ((-2), σ3) else e_sw v1 5 (fun j => match j with | 0 => e_gd (k_in v2 5) (some (σ3 101 (Int32.toNatClampNeg v2), σ3)) | 1 => e_gd (k_in v2 5) (some (σ3 102 (Int32.toNatClampNeg v2), σ3)) | 2 => e_gd (k_in v2 5) (some (σ3 103 (Int32.toNatClampNeg v2), σ3)) | 3 => e_gd (k_in v2 5) (some (σ3 104 (Int32.toNatClampNeg v2), σ3)) | _ => e_gd (k_in v2 5) (some (σ3 105 (Int32.toNatClampNeg v2), σ3))) ((if v1 = 5 then e_cI (m_X7_wearers v2 σ3) (fun r6 σ5 => some (r6, σ5)) else some ((-2), σ3))))))) else e_lt ((x1 / 100) - 1) (fun v7 => e_cI (m_X7_isThere v7 σ) (fun r9 σ8 => (if r9 = 0 then b_X7_told_34 x1 σ8 else (if (jrm x1 100) ≤ 1 then (if (jrm x1 100) = 0 then e_gd (k_in v7 5) (some (σ8 110 (Int32.toNatClampNeg v7), σ8)) else e_gd (k_in v7 5) (some (σ8 111 (Int32.toNatClampNeg v7), σ8))) else b_X7_told_34 x1 σ8))))))
theorem om_X7_told {G : KW} {l : Launch} (x1 : Int32)  (σ : Sg) : Okk G l cX7_told 4 RX7 (some .int) (rmo 2 44) ccI 0 [some (k_rr G 100), some (.int x1), none, none] [] σ (m_X7_told x1 σ) := by
  unfold m_X7_told
  refine ok_iload1 (dq_of td_X7_told 0 rfl) ?_
  refine ok_bipush (v := 10) (dq_of td_X7_told 1 rfl) (by decide) ?_
  refine ok_irem (dq_of td_X7_told 2 rfl) (by decide) ?_
  refine ok_gI (fun v1 => ?_)
  refine ok_istore2 (dq_of td_X7_told 3 rfl) rfl (by decide) ?_
  refine ok_iload1 (dq_of td_X7_told 4 rfl) ?_
  refine ok_bipush (v := 100) (dq_of td_X7_told 5 rfl) (by decide) ?_
  refine ok_ic_lt (tgt := 62) (dq_of td_X7_told 6 rfl) (by decide) ?_ ?_
  · refine ok_iload1 (dq_of td_X7_told 38 rfl) ?_
    refine ok_bipush (v := 10) (dq_of td_X7_told 39 rfl) (by decide) ?_
    refine ok_ic_lt (tgt := 171) (dq_of td_X7_told 40 rfl) (by decide) ?_ ?_
    · refine ok_iload1 (dq_of td_X7_told 89 rfl) ?_
      refine ok_tsw (tgt := 224) (dq_of td_X7_told 90 rfl) (by decide) (by decide) ?_ ?_
      · refine ok_iload1 (dq_of td_X7_told 103 rfl) ?_
        refine ok_iconst (v := 4) (dq_of td_X7_told 104 rfl) (by decide) ?_
        refine ok_ic_ne (tgt := 236) (dq_of td_X7_told 105 rfl) (by decide) ?_ ?_
        · refine ok_bipush (v := (-2)) (dq_of td_X7_told 109 rfl) (by decide) ?_
          exact ok_iret (dq_of td_X7_told 110 rfl)
        · refine ok_aload0 (dq_of td_X7_told 106 rfl) ?_
          refine ok_get (v := .int (σ 100 14)) fl_X7_207 (by decide) ko_100 rfl (dq_of td_X7_told 107 rfl) ?_
          refine ok_goto (tgt := 238) (dq_of td_X7_told 108 rfl) (by decide) ?_
          exact ok_iret (dq_of td_X7_told 110 rfl)
      · intro j hj
        match j, hj with
        | 0, _ =>
          refine ⟨_, 204, rfl, by decide, ?_⟩
          refine ok_aload0 (dq_of td_X7_told 91 rfl) ?_
          refine ok_get (v := .int (σ 100 16)) fl_X7_113 (by decide) ko_100 rfl (dq_of td_X7_told 92 rfl) ?_
          exact ok_iret (dq_of td_X7_told 93 rfl)
        | 1, _ =>
          refine ⟨_, 209, rfl, by decide, ?_⟩
          refine ok_aload0 (dq_of td_X7_told 94 rfl) ?_
          refine ok_get (v := .int (σ 100 0)) fl_X7_85 (by decide) ko_100 rfl (dq_of td_X7_told 95 rfl) ?_
          exact ok_iret (dq_of td_X7_told 96 rfl)
        | 2, _ =>
          refine ⟨_, 214, rfl, by decide, ?_⟩
          refine ok_aload0 (dq_of td_X7_told 97 rfl) ?_
          refine ok_get (v := .int (σ 100 1)) fl_X7_92 (by decide) ko_100 rfl (dq_of td_X7_told 98 rfl) ?_
          exact ok_iret (dq_of td_X7_told 99 rfl)
        | 3, _ =>
          refine ⟨_, 219, rfl, by decide, ?_⟩
          refine ok_aload0 (dq_of td_X7_told 100 rfl) ?_
          refine ok_get (v := .int (σ 100 7)) fl_X7_25 (by decide) ko_100 rfl (dq_of td_X7_told 101 rfl) ?_
          exact ok_iret (dq_of td_X7_told 102 rfl)
        | j + 4, hj => exact absurd hj (by omega)
    · refine ok_iload1 (dq_of td_X7_told 41 rfl) ?_
      refine ok_bipush (v := 10) (dq_of td_X7_told 42 rfl) (by decide) ?_
      refine ok_idiv (dq_of td_X7_told 43 rfl) (by decide) ?_
      refine ok_iconst (v := 1) (dq_of td_X7_told 44 rfl) (by decide) ?_
      refine ok_isub (dq_of td_X7_told 45 rfl) ?_
      refine ok_gI (fun v2 => ?_)
      refine ok_istore3 (dq_of td_X7_told 46 rfl) rfl (by decide) ?_
      refine ok_aload0 (dq_of td_X7_told 47 rfl) ?_
      refine ok_iload3 (dq_of td_X7_told 48 rfl) ?_
      refine call_X7_isCoat ml_X7_107  ⟨Nat.le_of_ble_eq_true rfl, Nat.le_of_ble_eq_true rfl⟩ ⟨Nat.zero_le _, Nat.zero_le _⟩ (Nat.le_of_ble_eq_true rfl) (dq_of td_X7_told 49 rfl) (fun r4 σ3 => ?_)
      refine ok_if_ne (tgt := 86) (dq_of td_X7_told 50 rfl) (by decide) ?_ ?_
      · refine ok_iload2 (dq_of td_X7_told 53 rfl) ?_
        refine ok_tsw (tgt := 155) (dq_of td_X7_told 54 rfl) (by decide) (by decide) ?_ ?_
        · refine ok_iload2 (dq_of td_X7_told 80 rfl) ?_
          refine ok_iconst (v := 5) (dq_of td_X7_told 81 rfl) (by decide) ?_
          refine ok_ic_ne (tgt := 168) (dq_of td_X7_told 82 rfl) (by decide) ?_ ?_
          · refine ok_bipush (v := (-2)) (dq_of td_X7_told 87 rfl) (by decide) ?_
            exact ok_iret (dq_of td_X7_told 88 rfl)
          · refine ok_aload0 (dq_of td_X7_told 83 rfl) ?_
            refine ok_iload3 (dq_of td_X7_told 84 rfl) ?_
            refine call_X7_wearers ml_X7_110  ⟨Nat.le_of_ble_eq_true rfl, Nat.le_of_ble_eq_true rfl⟩ ⟨Nat.zero_le _, Nat.zero_le _⟩ (Nat.le_of_ble_eq_true rfl) (dq_of td_X7_told 85 rfl) (fun r6 σ5 => ?_)
            refine ok_goto (tgt := 170) (dq_of td_X7_told 86 rfl) (by decide) ?_
            exact ok_iret (dq_of td_X7_told 88 rfl)
        · intro j hj
          match j, hj with
          | 0, _ =>
            refine ⟨_, 120, rfl, by decide, ?_⟩
            refine ok_aload0 (dq_of td_X7_told 55 rfl) ?_
            refine ok_get (v := k_rr G 101) fl_X7_7 (by decide) ko_100 rfl (dq_of td_X7_told 56 rfl) ?_
            refine ok_iload3 (dq_of td_X7_told 57 rfl) ?_
            refine ok_iald ka_101 (dq_of td_X7_told 58 rfl) ?_
            exact ok_iret (dq_of td_X7_told 59 rfl)
          | 1, _ =>
            refine ⟨_, 127, rfl, by decide, ?_⟩
            refine ok_aload0 (dq_of td_X7_told 60 rfl) ?_
            refine ok_get (v := k_rr G 102) fl_X7_13 (by decide) ko_100 rfl (dq_of td_X7_told 61 rfl) ?_
            refine ok_iload3 (dq_of td_X7_told 62 rfl) ?_
            refine ok_iald ka_102 (dq_of td_X7_told 63 rfl) ?_
            exact ok_iret (dq_of td_X7_told 64 rfl)
          | 2, _ =>
            refine ⟨_, 134, rfl, by decide, ?_⟩
            refine ok_aload0 (dq_of td_X7_told 65 rfl) ?_
            refine ok_get (v := k_rr G 103) fl_X7_16 (by decide) ko_100 rfl (dq_of td_X7_told 66 rfl) ?_
            refine ok_iload3 (dq_of td_X7_told 67 rfl) ?_
            refine ok_iald ka_103 (dq_of td_X7_told 68 rfl) ?_
            exact ok_iret (dq_of td_X7_told 69 rfl)
          | 3, _ =>
            refine ⟨_, 141, rfl, by decide, ?_⟩
            refine ok_aload0 (dq_of td_X7_told 70 rfl) ?_
            refine ok_get (v := k_rr G 104) fl_X7_19 (by decide) ko_100 rfl (dq_of td_X7_told 71 rfl) ?_
            refine ok_iload3 (dq_of td_X7_told 72 rfl) ?_
            refine ok_iald ka_104 (dq_of td_X7_told 73 rfl) ?_
            exact ok_iret (dq_of td_X7_told 74 rfl)
          | 4, _ =>
            refine ⟨_, 148, rfl, by decide, ?_⟩
            refine ok_aload0 (dq_of td_X7_told 75 rfl) ?_
            refine ok_get (v := k_rr G 105) fl_X7_22 (by decide) ko_100 rfl (dq_of td_X7_told 76 rfl) ?_
            refine ok_iload3 (dq_of td_X7_told 77 rfl) ?_
            refine ok_iald ka_105 (dq_of td_X7_told 78 rfl) ?_
            exact ok_iret (dq_of td_X7_told 79 rfl)
          | j + 5, hj => exact absurd hj (by omega)
      · refine ok_bipush (v := (-2)) (dq_of td_X7_told 51 rfl) (by decide) ?_
        exact ok_iret (dq_of td_X7_told 52 rfl)
  · refine ok_iload1 (dq_of td_X7_told 7 rfl) ?_
    refine ok_bipush (v := 100) (dq_of td_X7_told 8 rfl) (by decide) ?_
    refine ok_idiv (dq_of td_X7_told 9 rfl) (by decide) ?_
    refine ok_iconst (v := 1) (dq_of td_X7_told 10 rfl) (by decide) ?_
    refine ok_isub (dq_of td_X7_told 11 rfl) ?_
    refine ok_gI (fun v7 => ?_)
    refine ok_istore3 (dq_of td_X7_told 12 rfl) rfl (by decide) ?_
    refine ok_aload0 (dq_of td_X7_told 13 rfl) ?_
    refine ok_iload3 (dq_of td_X7_told 14 rfl) ?_
    refine call_X7_isThere ml_X7_95  ⟨Nat.le_of_ble_eq_true rfl, Nat.le_of_ble_eq_true rfl⟩ ⟨Nat.zero_le _, Nat.zero_le _⟩ (Nat.le_of_ble_eq_true rfl) (dq_of td_X7_told 15 rfl) (fun r9 σ8 => ?_)
    refine ok_if_eq (tgt := 34) (dq_of td_X7_told 16 rfl) (by decide) ?_ ?_
    · refine ok_wk (wk_n (wk_n (wk_n (wk_n wk_0)))) ?_
      exact ob_X7_told_34 _   _
    · refine ok_iload1 (dq_of td_X7_told 17 rfl) ?_
      refine ok_bipush (v := 100) (dq_of td_X7_told 18 rfl) (by decide) ?_
      refine ok_irem (dq_of td_X7_told 19 rfl) (by decide) ?_
      refine ok_iconst (v := 1) (dq_of td_X7_told 20 rfl) (by decide) ?_
      refine ok_ic_le (tgt := 39) (dq_of td_X7_told 21 rfl) (by decide) ?_ ?_
      · refine ok_iload1 (dq_of td_X7_told 24 rfl) ?_
        refine ok_bipush (v := 100) (dq_of td_X7_told 25 rfl) (by decide) ?_
        refine ok_irem (dq_of td_X7_told 26 rfl) (by decide) ?_
        refine ok_if_ne (tgt := 55) (dq_of td_X7_told 27 rfl) (by decide) ?_ ?_
        · refine ok_aload0 (dq_of td_X7_told 33 rfl) ?_
          refine ok_get (v := k_rr G 111) fl_X7_44 (by decide) ko_100 rfl (dq_of td_X7_told 34 rfl) ?_
          refine ok_iload3 (dq_of td_X7_told 35 rfl) ?_
          refine ok_iald ka_111 (dq_of td_X7_told 36 rfl) ?_
          exact ok_iret (dq_of td_X7_told 37 rfl)
        · refine ok_aload0 (dq_of td_X7_told 28 rfl) ?_
          refine ok_get (v := k_rr G 110) fl_X7_41 (by decide) ko_100 rfl (dq_of td_X7_told 29 rfl) ?_
          refine ok_iload3 (dq_of td_X7_told 30 rfl) ?_
          refine ok_iald ka_110 (dq_of td_X7_told 31 rfl) ?_
          refine ok_goto (tgt := 61) (dq_of td_X7_told 32 rfl) (by decide) ?_
          exact ok_iret (dq_of td_X7_told 37 rfl)
      · refine ok_wk (wk_n (wk_n (wk_n (wk_n wk_0)))) ?_
        exact ob_X7_told_34 _   _
theorem ct_X7_told {G : KW} {l : Launch} (x1 : Int32)  (σ : Sg) : ∀ b, m_X7_told x1 σ = some b → MetF G l yX7_told cX7_told 4 (some .int) 2 44 [k_rr G 100, .int x1] (k_wl G σ) (ccI b).1 (k_wl G (ccI b).2) :=
  met_of (by decide) (Nat.le_of_ble_eq_true rfl) rfl (om_X7_told _  σ)
theorem call_X7_told {G : KW} {l : Launch} {cc : ByteArray} {nL : Nat} {own : String} {rt : Option FieldType} {R : Room} {α : Type} {X : State → Array Value → Method → Prop} {Z : α → List Frame → Array Value → State → State → Prop} {k0 n0 pc index : Nat} {L : List (Option Value)} {S : List Value} {σ : Sg} {F : Int32 → Sg → Option α} {x1 : Int32} (lk : MLk own index yX7_told)  (hR : R.frames ≥ 2 + 1 ∧ R.locals ≥ 8 + (4 + 11) + 44) (hcs : k0 ≤ R.cells ∧ n0 ≤ R.slots) (hro : (S.map fun v => v.category).sum ≤ 8) (d : decode cc pc = .ok (.invokevirtual index, 3)) (kk : ∀ (r : Int32) (σ' : Sg), Okg G l cc nL own rt R X Z k0 n0 (pc + 3) L (.int r :: S) σ' (F r σ')) : Okg G l cc nL own rt R X Z k0 n0 pc L (.int x1 :: k_rr G 100 :: S) σ (e_cI (m_X7_told x1 σ) F) :=
  ok_cV (cb := ccI) (As := [.int x1]) (ct_X7_told _  σ) mo_X7_told hi_X7_told lk rfl (ci := 7) rfl rfl (by decide) ko_100 hR rfl hcs hro d (fun b => kk b.1 b.2)
