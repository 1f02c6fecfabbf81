/-! CoatDinner$Town.welcome(I)V -/
def m_X4_welcome (x0 : Nat) (x1 : Int32) (σ : Sg) : Option (Sg) := e_cI (m_X6_within x1 4 σ) (fun r2 σ1 => (if r2 = 0 then some σ1 else e_lt (k_up σ1 x0 0 ((σ1 x0 0) ||| (jsl 1 x1))) (fun σ3 => e_wr σ3 (x0 + 1) x1 5 ((-1)) (fun σ4 => e_wr σ4 (x0 + 2) x1 5 0 (fun σ5 => e_wr σ5 (x0 + 3) x1 5 0 (fun σ6 => e_wr σ6 (x0 + 4) x1 5 0 (fun σ7 => e_wr σ7 (x0 + 5) x1 5 0 (fun σ8 => e_wr σ8 (x0 + 6) x1 5 0 (fun σ9 => some σ9)))))))))
theorem om_X4_welcome {G : KW} {l : Launch} (x0 : Nat) (x1 : Int32) (hx0 : k_tw x0) (σ : Sg) : Okk G l cX4_welcome 2 RX4 none (rmo 1 21) ccV 0 [some (k_rr G x0), some (.int x1)] [] σ (m_X4_welcome x0 x1 σ) := by
  unfold m_X4_welcome
  refine ok_iload1 (dq_of td_X4_welcome 0 rfl) ?_
  refine ok_iconst (v := 4) (dq_of td_X4_welcome 1 rfl) (by decide) ?_
  refine call_X6_within ml_X4_64  ⟨Nat.le_of_ble_eq_true rfl, Nat.le_of_ble_eq_true rfl⟩ ⟨Nat.zero_le _, Nat.zero_le _⟩ (Nat.le_of_ble_eq_true rfl) (dq_of td_X4_welcome 2 rfl) (fun r2 σ1 => ?_)
  refine ok_if_ne (tgt := 9) (dq_of td_X4_welcome 3 rfl) (by decide) ?_ ?_
  · refine ok_aload0 (dq_of td_X4_welcome 5 rfl) ?_
    refine ok_dup (dq_of td_X4_welcome 6 rfl) rfl ?_
    refine ok_get (v := .int (σ1 x0 0)) fl_X4_55 (by decide) (isT_kd hx0) rfl (dq_of td_X4_welcome 7 rfl) ?_
    refine ok_iconst (v := 1) (dq_of td_X4_welcome 8 rfl) (by decide) ?_
    refine ok_iload1 (dq_of td_X4_welcome 9 rfl) ?_
    refine ok_ishl (dq_of td_X4_welcome 10 rfl) ?_
    refine ok_ior (dq_of td_X4_welcome 11 rfl) ?_
    refine put_4_0 fl_X4_55 (isT_kd hx0) (dq_of td_X4_welcome 12 rfl) (fun σ3 => ?_)
    refine ok_aload0 (dq_of td_X4_welcome 13 rfl) ?_
    refine ok_get (v := k_rr G (x0 + 1)) fl_X4_15 (by decide) (isT_kd hx0) rfl (dq_of td_X4_welcome 14 rfl) ?_
    refine ok_iload1 (dq_of td_X4_welcome 15 rfl) ?_
    refine ok_iconst (v := (-1)) (dq_of td_X4_welcome 16 rfl) (by decide) ?_
    refine ok_iast (isT_a1 hx0) (dq_of td_X4_welcome 17 rfl) (fun σ4 => ?_)
    refine ok_aload0 (dq_of td_X4_welcome 18 rfl) ?_
    refine ok_get (v := k_rr G (x0 + 2)) fl_X4_19 (by decide) (isT_kd hx0) rfl (dq_of td_X4_welcome 19 rfl) ?_
    refine ok_iload1 (dq_of td_X4_welcome 20 rfl) ?_
    refine ok_iconst (v := 0) (dq_of td_X4_welcome 21 rfl) (by decide) ?_
    refine ok_iast (isT_a2 hx0) (dq_of td_X4_welcome 22 rfl) (fun σ5 => ?_)
    refine ok_aload0 (dq_of td_X4_welcome 23 rfl) ?_
    refine ok_get (v := k_rr G (x0 + 3)) fl_X4_22 (by decide) (isT_kd hx0) rfl (dq_of td_X4_welcome 24 rfl) ?_
    refine ok_iload1 (dq_of td_X4_welcome 25 rfl) ?_
    refine ok_iconst (v := 0) (dq_of td_X4_welcome 26 rfl) (by decide) ?_
    refine ok_iast (isT_a3 hx0) (dq_of td_X4_welcome 27 rfl) (fun σ6 => ?_)
    refine ok_aload0 (dq_of td_X4_welcome 28 rfl) ?_
    refine ok_get (v := k_rr G (x0 + 4)) fl_X4_25 (by decide) (isT_kd hx0) rfl (dq_of td_X4_welcome 29 rfl) ?_
    refine ok_iload1 (dq_of td_X4_welcome 30 rfl) ?_
    refine ok_iconst (v := 0) (dq_of td_X4_welcome 31 rfl) (by decide) ?_
    refine ok_iast (isT_a4 hx0) (dq_of td_X4_welcome 32 rfl) (fun σ7 => ?_)
    refine ok_aload0 (dq_of td_X4_welcome 33 rfl) ?_
    refine ok_get (v := k_rr G (x0 + 5)) fl_X4_28 (by decide) (isT_kd hx0) rfl (dq_of td_X4_welcome 34 rfl) ?_
    refine ok_iload1 (dq_of td_X4_welcome 35 rfl) ?_
    refine ok_iconst (v := 0) (dq_of td_X4_welcome 36 rfl) (by decide) ?_
    refine ok_iast (isT_a5 hx0) (dq_of td_X4_welcome 37 rfl) (fun σ8 => ?_)
    refine ok_aload0 (dq_of td_X4_welcome 38 rfl) ?_
    refine ok_get (v := k_rr G (x0 + 6)) fl_X4_31 (by decide) (isT_kd hx0) rfl (dq_of td_X4_welcome 39 rfl) ?_
    refine ok_iload1 (dq_of td_X4_welcome 40 rfl) ?_
    refine ok_iconst (v := 0) (dq_of td_X4_welcome 41 rfl) (by decide) ?_
    refine ok_iast (isT_a6 hx0) (dq_of td_X4_welcome 42 rfl) (fun σ9 => ?_)
    exact ok_vret (dq_of td_X4_welcome 43 rfl)
  · exact ok_vret (dq_of td_X4_welcome 4 rfl)
theorem ct_X4_welcome {G : KW} {l : Launch} (x0 : Nat) (x1 : Int32) (hx0 : k_tw x0) (σ : Sg) : ∀ b, m_X4_welcome x0 x1 σ = some b → MetF G l yX4_welcome cX4_welcome 2 none 1 21 [k_rr G x0, .int x1] (k_wl G σ) (ccV b).1 (k_wl G (ccV b).2) :=
  met_of (by decide) (Nat.le_of_ble_eq_true rfl) rfl (om_X4_welcome _ _ hx0 σ)
theorem call_X4_welcome {G : KW} {l : Launch} {cc : ByteArray} {nL : Nat} {own : String} {rt : Option FieldType} {R : Room} {α : Type} {X : State → Array Value → Method → Prop} {Z : α → List Frame → Array Value → State → State → Prop} {k0 n0 pc index : Nat} {L : List (Option Value)} {S : List Value} {σ : Sg} {F : Sg → Option α} {x0 : Nat} {x1 : Int32} (lk : MLk own index yX4_welcome) (hx0 : k_tw x0) (hR : R.frames ≥ 1 + 1 ∧ R.locals ≥ 8 + (2 + 11) + 21) (hcs : k0 ≤ R.cells ∧ n0 ≤ R.slots) (hro : (S.map fun v => v.category).sum ≤ 8) (d : decode cc pc = .ok (.invokevirtual index, 3)) (kk : ∀ σ' : Sg, Okg G l cc nL own rt R X Z k0 n0 (pc + 3) L S σ' (F σ')) : Okg G l cc nL own rt R X Z k0 n0 pc L (.int x1 :: k_rr G x0 :: S) σ (e_cV (m_X4_welcome x0 x1 σ) F) :=
  ok_cV (cb := ccV) (As := [.int x1]) (ct_X4_welcome _ _ hx0 σ) mo_X4_welcome hi_X4_welcome lk rfl (ci := 4) rfl rfl (by decide) (isT_kd hx0) hR rfl hcs hro d (fun b => kk b)
/-! CoatDinner$Town.undress(I)V -/
def d_X4_undress_2 (x0 : Nat) (x1 : Int32) (K : Sg → Option (Sg)) (H : Int32 → Sg → Option (Sg)) (x2 : Int32) (σ : Sg) : Option (Sg) := (if 5 ≤ x2 then K σ else e_gd (k_in x2 5) ((if (σ (x0 + 1) (Int32.toNatClampNeg x2)) = x1 then e_wr σ (x0 + 1) x2 5 ((-1)) (fun σ1 => H (x2 + 1) σ1) else H (x2 + 1) σ)))
theorem od_X4_undress_2 {G : KW} {l : Launch} (x0 : Nat) (x1 : Int32) (hx0 : k_tw x0) {K : Sg → Option (Sg)} {H : Int32 → Sg → Option (Sg)} (hK : ∀  (σ : Sg), Okk G l cX4_undress 3 RX4 none (rmo 0 0) ccV 30 [none, none, none] [] σ (K  σ)) (hH : ∀ (x2 : Int32) (σ : Sg), Okk G l cX4_undress 3 RX4 none (rmo 0 0) ccV 2 [some (k_rr G x0), some (.int x1), some (.int x2)] [] σ (H x2 σ)) (x2 : Int32)  (σ : Sg) : Okk G l cX4_undress 3 RX4 none (rmo 0 0) ccV 2 [some (k_rr G x0), some (.int x1), some (.int x2)] [] σ (d_X4_undress_2 x0 x1 K H x2 σ) := by
  unfold d_X4_undress_2
  refine ok_iload2 (dq_of td_X4_undress 2 rfl) ?_
  refine ok_iconst (v := 5) (dq_of td_X4_undress 3 rfl) (by decide) ?_
  refine ok_ic_ge (tgt := 30) (dq_of td_X4_undress 4 rfl) (by decide) ?_ ?_
  · refine ok_wk (wk_n (wk_n (wk_n wk_0))) ?_
    exact hK _
  · refine ok_aload0 (dq_of td_X4_undress 5 rfl) ?_
    refine ok_get (v := k_rr G (x0 + 1)) fl_X4_15 (by decide) (isT_kd hx0) rfl (dq_of td_X4_undress 6 rfl) ?_
    refine ok_iload2 (dq_of td_X4_undress 7 rfl) ?_
    refine ok_iald (isT_a1 hx0) (dq_of td_X4_undress 8 rfl) ?_
    refine ok_iload1 (dq_of td_X4_undress 9 rfl) ?_
    refine ok_ic_ne (tgt := 24) (dq_of td_X4_undress 10 rfl) (by decide) ?_ ?_
    · refine ok_jinc2 (w := 1) (dq_of td_X4_undress 16 rfl) (by decide) rfl (by decide) ?_
      refine ok_goto (tgt := 2) (dq_of td_X4_undress 17 rfl) (by decide) ?_
      refine ok_wk (wk_s (wk_s (wk_s wk_0))) ?_
      exact hH _ _
    · refine ok_aload0 (dq_of td_X4_undress 11 rfl) ?_
      refine ok_get (v := k_rr G (x0 + 1)) fl_X4_15 (by decide) (isT_kd hx0) rfl (dq_of td_X4_undress 12 rfl) ?_
      refine ok_iload2 (dq_of td_X4_undress 13 rfl) ?_
      refine ok_iconst (v := (-1)) (dq_of td_X4_undress 14 rfl) (by decide) ?_
      refine ok_iast (isT_a1 hx0) (dq_of td_X4_undress 15 rfl) (fun σ1 => ?_)
      refine ok_jinc2 (w := 1) (dq_of td_X4_undress 16 rfl) (by decide) rfl (by decide) ?_
      refine ok_goto (tgt := 2) (dq_of td_X4_undress 17 rfl) (by decide) ?_
      refine ok_wk (wk_s (wk_s (wk_s wk_0))) ?_
      exact hH _ _
theorem ld_X4_undress_2 {G : KW} {l : Launch} (x0 : Nat) (x1 : Int32) (hx0 : k_tw x0) {K : Sg → Option (Sg)} (hK : ∀  (σ : Sg), Okk G l cX4_undress 3 RX4 none (rmo 0 0) ccV 30 [none, none, none] [] σ (K  σ)) (n : Nat) (x2 : Int32) (σ : Sg) : Okk G l cX4_undress 3 RX4 none (rmo 0 0) ccV 2 [some (k_rr G x0), some (.int x1), some (.int x2)] [] σ (e_lp1 (d_X4_undress_2 x0 x1 K) n x2 σ) :=
  ok_lp1 (Lf := fun (x2 : Int32) => [some (k_rr G x0), some (.int x1), some (.int x2)]) (fun _ hH x2 σ => od_X4_undress_2 _ _ hx0 hK hH x2 σ) n x2 σ
def m_X4_undress (x0 : Nat) (x1 : Int32) (σ : Sg) : Option (Sg) := e_lp1 (d_X4_undress_2 x0 x1 (fun σ2 => some σ2)) e_F 0 σ
theorem om_X4_undress {G : KW} {l : Launch} (x0 : Nat) (x1 : Int32) (hx0 : k_tw x0) (σ : Sg) : Okk G l cX4_undress 3 RX4 none (rmo 0 0) ccV 0 [some (k_rr G x0), some (.int x1), none] [] σ (m_X4_undress x0 x1 σ) := by
  unfold m_X4_undress
  refine ok_iconst (v := 0) (dq_of td_X4_undress 0 rfl) (by decide) ?_
  refine ok_istore2 (dq_of td_X4_undress 1 rfl) rfl (by decide) ?_
  refine ok_wk (wk_s (wk_s (wk_s wk_0))) ?_
  refine ld_X4_undress_2 _ _ hx0 (fun σ2 => ?_) _ _ _
  exact ok_vret (dq_of td_X4_undress 18 rfl)
theorem ct_X4_undress {G : KW} {l : Launch} (x0 : Nat) (x1 : Int32) (hx0 : k_tw x0) (σ : Sg) : ∀ b, m_X4_undress x0 x1 σ = some b → MetF G l yX4_undress cX4_undress 3 none 0 0 [k_rr G x0, .int x1] (k_wl G σ) (ccV b).1 (k_wl G (ccV b).2) :=
  met_of (by decide) (Nat.le_of_ble_eq_true rfl) rfl (om_X4_undress _ _ hx0 σ)
theorem call_X4_undress {G : KW} {l : Launch} {cc : ByteArray} {nL : Nat} {own : String} {rt : Option FieldType} {R : Room} {α : Type} {X : State → Array Value → Method → Prop} {Z : α → List Frame → Array Value → State → State → Prop} {k0 n0 pc index : Nat} {L : List (Option Value)} {S : List Value} {σ : Sg} {F : Sg → Option α} {x0 : Nat} {x1 : Int32} (lk : MLk own index yX4_undress) (hx0 : k_tw x0) (hR : R.frames ≥ 0 + 1 ∧ R.locals ≥ 8 + (3 + 11) + 0) (hcs : k0 ≤ R.cells ∧ n0 ≤ R.slots) (hro : (S.map fun v => v.category).sum ≤ 8) (d : decode cc pc = .ok (.invokevirtual index, 3)) (kk : ∀ σ' : Sg, Okg G l cc nL own rt R X Z k0 n0 (pc + 3) L S σ' (F σ')) : Okg G l cc nL own rt R X Z k0 n0 pc L (.int x1 :: k_rr G x0 :: S) σ (e_cV (m_X4_undress x0 x1 σ) F) :=
  ok_cV (cb := ccV) (As := [.int x1]) (ct_X4_undress _ _ hx0 σ) mo_X4_undress hi_X4_undress lk rfl (ci := 4) rfl rfl (by decide) (isT_kd hx0) hR rfl hcs hro d (fun b => kk b)
/-! CoatDinner$Town.depart(I)V -/
def d_X4_depart_11 (x0 : Nat) (x1 : Int32) (K : Sg → Option (Sg)) (H : Int32 → Sg → Option (Sg)) (x2 : Int32) (σ : Sg) : Option (Sg) := (if 5 ≤ x2 then K σ else e_cI (m_X4_hasCoat x0 x2 σ) (fun r4 σ3 => (if r4 = 0 then H (x2 + 1) σ3 else e_gd (k_in x2 5) ((if (σ3 (x0 + 8) (Int32.toNatClampNeg x2)) = x1 then e_cV (m_X4_undress x0 x2 σ3) (fun σ5 => e_lt (k_up σ5 x0 1 ((σ5 x0 1) &&& ((jsl 1 x2) ^^^ ((-1))))) (fun σ6 => H (x2 + 1) σ6)) else H (x2 + 1) σ3)))))
theorem od_X4_depart_11 {G : KW} {l : Launch} (x0 : Nat) (x1 : Int32) (hx0 : k_tw x0) {K : Sg → Option (Sg)} {H : Int32 → Sg → Option (Sg)} (hK : ∀  (σ : Sg), Okk G l cX4_depart 3 RX4 none (rmo 1 22) ccV 59 [some (k_rr G x0), some (.int x1), none] [] σ (K  σ)) (hH : ∀ (x2 : Int32) (σ : Sg), Okk G l cX4_depart 3 RX4 none (rmo 1 22) ccV 11 [some (k_rr G x0), some (.int x1), some (.int x2)] [] σ (H x2 σ)) (x2 : Int32)  (σ : Sg) : Okk G l cX4_depart 3 RX4 none (rmo 1 22) ccV 11 [some (k_rr G x0), some (.int x1), some (.int x2)] [] σ (d_X4_depart_11 x0 x1 K H x2 σ) := by
  unfold d_X4_depart_11
  refine ok_iload2 (dq_of td_X4_depart 7 rfl) ?_
  refine ok_iconst (v := 5) (dq_of td_X4_depart 8 rfl) (by decide) ?_
  refine ok_ic_ge (tgt := 59) (dq_of td_X4_depart 9 rfl) (by decide) ?_ ?_
  · refine ok_wk (wk_s (wk_s (wk_n wk_0))) ?_
    exact hK _
  · refine ok_aload0 (dq_of td_X4_depart 10 rfl) ?_
    refine ok_iload2 (dq_of td_X4_depart 11 rfl) ?_
    refine call_X4_hasCoat ml_X4_72 hx0 ⟨Nat.le_of_ble_eq_true rfl, Nat.le_of_ble_eq_true rfl⟩ ⟨Nat.zero_le _, Nat.zero_le _⟩ (Nat.le_of_ble_eq_true rfl) (dq_of td_X4_depart 12 rfl) (fun r4 σ3 => ?_)
    refine ok_if_eq (tgt := 53) (dq_of td_X4_depart 13 rfl) (by decide) ?_ ?_
    · refine ok_jinc2 (w := 1) (dq_of td_X4_depart 33 rfl) (by decide) rfl (by decide) ?_
      refine ok_goto (tgt := 11) (dq_of td_X4_depart 34 rfl) (by decide) ?_
      refine ok_wk (wk_s (wk_s (wk_s wk_0))) ?_
      exact hH _ _
    · refine ok_aload0 (dq_of td_X4_depart 14 rfl) ?_
      refine ok_get (v := k_rr G (x0 + 8)) fl_X4_37 (by decide) (isT_kd hx0) rfl (dq_of td_X4_depart 15 rfl) ?_
      refine ok_iload2 (dq_of td_X4_depart 16 rfl) ?_
      refine ok_iald (isT_a8 hx0) (dq_of td_X4_depart 17 rfl) ?_
      refine ok_iload1 (dq_of td_X4_depart 18 rfl) ?_
      refine ok_ic_ne (tgt := 53) (dq_of td_X4_depart 19 rfl) (by decide) ?_ ?_
      · refine ok_jinc2 (w := 1) (dq_of td_X4_depart 33 rfl) (by decide) rfl (by decide) ?_
        refine ok_goto (tgt := 11) (dq_of td_X4_depart 34 rfl) (by decide) ?_
        refine ok_wk (wk_s (wk_s (wk_s wk_0))) ?_
        exact hH _ _
      · refine ok_aload0 (dq_of td_X4_depart 20 rfl) ?_
        refine ok_iload2 (dq_of td_X4_depart 21 rfl) ?_
        refine call_X4_undress ml_X4_75 hx0 ⟨Nat.le_of_ble_eq_true rfl, Nat.le_of_ble_eq_true rfl⟩ ⟨Nat.zero_le _, Nat.zero_le _⟩ (Nat.le_of_ble_eq_true rfl) (dq_of td_X4_depart 22 rfl) (fun σ5 => ?_)
        refine ok_aload0 (dq_of td_X4_depart 23 rfl) ?_
        refine ok_dup (dq_of td_X4_depart 24 rfl) rfl ?_
        refine ok_get (v := .int (σ5 x0 1)) fl_X4_58 (by decide) (isT_kd hx0) rfl (dq_of td_X4_depart 25 rfl) ?_
        refine ok_iconst (v := 1) (dq_of td_X4_depart 26 rfl) (by decide) ?_
        refine ok_iload2 (dq_of td_X4_depart 27 rfl) ?_
        refine ok_ishl (dq_of td_X4_depart 28 rfl) ?_
        refine ok_iconst (v := (-1)) (dq_of td_X4_depart 29 rfl) (by decide) ?_
        refine ok_ixor (dq_of td_X4_depart 30 rfl) ?_
        refine ok_iand (dq_of td_X4_depart 31 rfl) ?_
        refine put_4_1 fl_X4_58 (isT_kd hx0) (dq_of td_X4_depart 32 rfl) (fun σ6 => ?_)
        refine ok_jinc2 (w := 1) (dq_of td_X4_depart 33 rfl) (by decide) rfl (by decide) ?_
        refine ok_goto (tgt := 11) (dq_of td_X4_depart 34 rfl) (by decide) ?_
        refine ok_wk (wk_s (wk_s (wk_s wk_0))) ?_
        exact hH _ _
theorem ld_X4_depart_11 {G : KW} {l : Launch} (x0 : Nat) (x1 : Int32) (hx0 : k_tw x0) {K : Sg → Option (Sg)} (hK : ∀  (σ : Sg), Okk G l cX4_depart 3 RX4 none (rmo 1 22) ccV 59 [some (k_rr G x0), some (.int x1), none] [] σ (K  σ)) (n : Nat) (x2 : Int32) (σ : Sg) : Okk G l cX4_depart 3 RX4 none (rmo 1 22) ccV 11 [some (k_rr G x0), some (.int x1), some (.int x2)] [] σ (e_lp1 (d_X4_depart_11 x0 x1 K) n x2 σ) :=
  ok_lp1 (Lf := fun (x2 : Int32) => [some (k_rr G x0), some (.int x1), some (.int x2)]) (fun _ hH x2 σ => od_X4_depart_11 _ _ hx0 hK hH x2 σ) n x2 σ
def m_X4_depart (x0 : Nat) (x1 : Int32) (σ : Sg) : Option (Sg) := e_cI (m_X4_hasPerson x0 x1 σ) (fun r2 σ1 => (if r2 = 0 then some σ1 else e_lp1 (d_X4_depart_11 x0 x1 (fun σ7 => e_wr σ7 (x0 + 1) x1 5 ((-1)) (fun σ8 => e_lt (k_up σ8 x0 0 ((σ8 x0 0) &&& ((jsl 1 x1) ^^^ ((-1))))) (fun σ9 => some σ9)))) e_F 0 σ1))
theorem om_X4_depart {G : KW} {l : Launch} (x0 : Nat) (x1 : Int32) (hx0 : k_tw x0) (σ : Sg) : Okk G l cX4_depart 3 RX4 none (rmo 1 22) ccV 0 [some (k_rr G x0), some (.int x1), none] [] σ (m_X4_depart x0 x1 σ) := by
  unfold m_X4_depart
  refine ok_aload0 (dq_of td_X4_depart 0 rfl) ?_
  refine ok_iload1 (dq_of td_X4_depart 1 rfl) ?_
  refine call_X4_hasPerson ml_X4_68 hx0 ⟨Nat.le_of_ble_eq_true rfl, Nat.le_of_ble_eq_true rfl⟩ ⟨Nat.zero_le _, Nat.zero_le _⟩ (Nat.le_of_ble_eq_true rfl) (dq_of td_X4_depart 2 rfl) (fun r2 σ1 => ?_)
  refine ok_if_ne (tgt := 9) (dq_of td_X4_depart 3 rfl) (by decide) ?_ ?_
  · refine ok_iconst (v := 0) (dq_of td_X4_depart 5 rfl) (by decide) ?_
    refine ok_istore2 (dq_of td_X4_depart 6 rfl) rfl (by decide) ?_
    refine ok_wk (wk_s (wk_s (wk_s wk_0))) ?_
    refine ld_X4_depart_11 _ _ hx0 (fun σ7 => ?_) _ _ _
    refine ok_aload0 (dq_of td_X4_depart 35 rfl) ?_
    refine ok_get (v := k_rr G (x0 + 1)) fl_X4_15 (by decide) (isT_kd hx0) rfl (dq_of td_X4_depart 36 rfl) ?_
    refine ok_iload1 (dq_of td_X4_depart 37 rfl) ?_
    refine ok_iconst (v := (-1)) (dq_of td_X4_depart 38 rfl) (by decide) ?_
    refine ok_iast (isT_a1 hx0) (dq_of td_X4_depart 39 rfl) (fun σ8 => ?_)
    refine ok_aload0 (dq_of td_X4_depart 40 rfl) ?_
    refine ok_dup (dq_of td_X4_depart 41 rfl) rfl ?_
    refine ok_get (v := .int (σ8 x0 0)) fl_X4_55 (by decide) (isT_kd hx0) rfl (dq_of td_X4_depart 42 rfl) ?_
    refine ok_iconst (v := 1) (dq_of td_X4_depart 43 rfl) (by decide) ?_
    refine ok_iload1 (dq_of td_X4_depart 44 rfl) ?_
    refine ok_ishl (dq_of td_X4_depart 45 rfl) ?_
    refine ok_iconst (v := (-1)) (dq_of td_X4_depart 46 rfl) (by decide) ?_
    refine ok_ixor (dq_of td_X4_depart 47 rfl) ?_
    refine ok_iand (dq_of td_X4_depart 48 rfl) ?_
    refine put_4_0 fl_X4_55 (isT_kd hx0) (dq_of td_X4_depart 49 rfl) (fun σ9 => ?_)
    exact ok_vret (dq_of td_X4_depart 50 rfl)
  · exact ok_vret (dq_of td_X4_depart 4 rfl)
theorem ct_X4_depart {G : KW} {l : Launch} (x0 : Nat) (x1 : Int32) (hx0 : k_tw x0) (σ : Sg) : ∀ b, m_X4_depart x0 x1 σ = some b → MetF G l yX4_depart cX4_depart 3 none 1 22 [k_rr G x0, .int x1] (k_wl G σ) (ccV b).1 (k_wl G (ccV b).2) :=
  met_of (by decide) (Nat.le_of_ble_eq_true rfl) rfl (om_X4_depart _ _ hx0 σ)
theorem call_X4_depart {G : KW} {l : Launch} {cc : ByteArray} {nL : Nat} {own : String} {rt : Option FieldType} {R : Room} {α : Type} {X : State → Array Value → Method → Prop} {Z : α → List Frame → Array Value → State → State → Prop} {k0 n0 pc index : Nat} {L : List (Option Value)} {S : List Value} {σ : Sg} {F : Sg → Option α} {x0 : Nat} {x1 : Int32} (lk : MLk own index yX4_depart) (hx0 : k_tw x0) (hR : R.frames ≥ 1 + 1 ∧ R.locals ≥ 8 + (3 + 11) + 22) (hcs : k0 ≤ R.cells ∧ n0 ≤ R.slots) (hro : (S.map fun v => v.category).sum ≤ 8) (d : decode cc pc = .ok (.invokevirtual index, 3)) (kk : ∀ σ' : Sg, Okg G l cc nL own rt R X Z k0 n0 (pc + 3) L S σ' (F σ')) : Okg G l cc nL own rt R X Z k0 n0 pc L (.int x1 :: k_rr G x0 :: S) σ (e_cV (m_X4_depart x0 x1 σ) F) :=
  ok_cV (cb := ccV) (As := [.int x1]) (ct_X4_depart _ _ hx0 σ) mo_X4_depart hi_X4_depart lk rfl (ci := 4) rfl rfl (by decide) (isT_kd hx0) hR rfl hcs hro d (fun b => kk b)
/-! CoatDinner$Town.bring(III)V -/
def m_X4_bring (x0 : Nat) (x1 : Int32) (x2 : Int32) (x3 : Int32) (σ : Sg) : Option (Sg) := e_cI (m_X6_within x1 4 σ) (fun r2 σ1 => (if r2 = 0 then some σ1 else e_cV (m_X4_undress x0 x1 σ1) (fun σ3 => e_lt (k_up σ3 x0 1 ((σ3 x0 1) ||| (jsl 1 x1))) (fun σ4 => e_wr σ4 (x0 + 7) x1 5 x2 (fun σ5 => e_wr σ5 (x0 + 8) x1 5 x3 (fun σ6 => e_wr σ6 (x0 + 9) x1 5 0 (fun σ7 => e_wr σ7 (x0 + 10) x1 5 0 (fun σ8 => e_wr σ8 (x0 + 11) x1 5 0 (fun σ9 => some σ9)))))))))
theorem om_X4_bring {G : KW} {l : Launch} (x0 : Nat) (x1 : Int32) (x2 : Int32) (x3 : Int32) (hx0 : k_tw x0) (σ : Sg) : Okk G l cX4_bring 4 RX4 none (rmo 1 22) ccV 0 [some (k_rr G x0), some (.int x1), some (.int x2), some (.int x3)] [] σ (m_X4_bring x0 x1 x2 x3 σ) := by
  unfold m_X4_bring
  refine ok_iload1 (dq_of td_X4_bring 0 rfl) ?_
  refine ok_iconst (v := 4) (dq_of td_X4_bring 1 rfl) (by decide) ?_
  refine call_X6_within ml_X4_64  ⟨Nat.le_of_ble_eq_true rfl, Nat.le_of_ble_eq_true rfl⟩ ⟨Nat.zero_le _, Nat.zero_le _⟩ (Nat.le_of_ble_eq_true rfl) (dq_of td_X4_bring 2 rfl) (fun r2 σ1 => ?_)
  refine ok_if_ne (tgt := 9) (dq_of td_X4_bring 3 rfl) (by decide) ?_ ?_
  · refine ok_aload0 (dq_of td_X4_bring 5 rfl) ?_
    refine ok_iload1 (dq_of td_X4_bring 6 rfl) ?_
    refine call_X4_undress ml_X4_75 hx0 ⟨Nat.le_of_ble_eq_true rfl, Nat.le_of_ble_eq_true rfl⟩ ⟨Nat.zero_le _, Nat.zero_le _⟩ (Nat.le_of_ble_eq_true rfl) (dq_of td_X4_bring 7 rfl) (fun σ3 => ?_)
    refine ok_aload0 (dq_of td_X4_bring 8 rfl) ?_
    refine ok_dup (dq_of td_X4_bring 9 rfl) rfl ?_
    refine ok_get (v := .int (σ3 x0 1)) fl_X4_58 (by decide) (isT_kd hx0) rfl (dq_of td_X4_bring 10 rfl) ?_
    refine ok_iconst (v := 1) (dq_of td_X4_bring 11 rfl) (by decide) ?_
    refine ok_iload1 (dq_of td_X4_bring 12 rfl) ?_
    refine ok_ishl (dq_of td_X4_bring 13 rfl) ?_
    refine ok_ior (dq_of td_X4_bring 14 rfl) ?_
    refine put_4_1 fl_X4_58 (isT_kd hx0) (dq_of td_X4_bring 15 rfl) (fun σ4 => ?_)
    refine ok_aload0 (dq_of td_X4_bring 16 rfl) ?_
    refine ok_get (v := k_rr G (x0 + 7)) fl_X4_34 (by decide) (isT_kd hx0) rfl (dq_of td_X4_bring 17 rfl) ?_
    refine ok_iload1 (dq_of td_X4_bring 18 rfl) ?_
    refine ok_iload2 (dq_of td_X4_bring 19 rfl) ?_
    refine ok_iast (isT_a7 hx0) (dq_of td_X4_bring 20 rfl) (fun σ5 => ?_)
    refine ok_aload0 (dq_of td_X4_bring 21 rfl) ?_
    refine ok_get (v := k_rr G (x0 + 8)) fl_X4_37 (by decide) (isT_kd hx0) rfl (dq_of td_X4_bring 22 rfl) ?_
    refine ok_iload1 (dq_of td_X4_bring 23 rfl) ?_
    refine ok_iload3 (dq_of td_X4_bring 24 rfl) ?_
    refine ok_iast (isT_a8 hx0) (dq_of td_X4_bring 25 rfl) (fun σ6 => ?_)
    refine ok_aload0 (dq_of td_X4_bring 26 rfl) ?_
    refine ok_get (v := k_rr G (x0 + 9)) fl_X4_40 (by decide) (isT_kd hx0) rfl (dq_of td_X4_bring 27 rfl) ?_
    refine ok_iload1 (dq_of td_X4_bring 28 rfl) ?_
    refine ok_iconst (v := 0) (dq_of td_X4_bring 29 rfl) (by decide) ?_
    refine ok_iast (isT_a9 hx0) (dq_of td_X4_bring 30 rfl) (fun σ7 => ?_)
    refine ok_aload0 (dq_of td_X4_bring 31 rfl) ?_
    refine ok_get (v := k_rr G (x0 + 10)) fl_X4_43 (by decide) (isT_kd hx0) rfl (dq_of td_X4_bring 32 rfl) ?_
    refine ok_iload1 (dq_of td_X4_bring 33 rfl) ?_
    refine ok_iconst (v := 0) (dq_of td_X4_bring 34 rfl) (by decide) ?_
    refine ok_iast (isT_a10 hx0) (dq_of td_X4_bring 35 rfl) (fun σ8 => ?_)
    refine ok_aload0 (dq_of td_X4_bring 36 rfl) ?_
    refine ok_get (v := k_rr G (x0 + 11)) fl_X4_46 (by decide) (isT_kd hx0) rfl (dq_of td_X4_bring 37 rfl) ?_
    refine ok_iload1 (dq_of td_X4_bring 38 rfl) ?_
    refine ok_iconst (v := 0) (dq_of td_X4_bring 39 rfl) (by decide) ?_
    refine ok_iast (isT_a11 hx0) (dq_of td_X4_bring 40 rfl) (fun σ9 => ?_)
    exact ok_vret (dq_of td_X4_bring 41 rfl)
  · exact ok_vret (dq_of td_X4_bring 4 rfl)
theorem ct_X4_bring {G : KW} {l : Launch} (x0 : Nat) (x1 : Int32) (x2 : Int32) (x3 : Int32) (hx0 : k_tw x0) (σ : Sg) : ∀ b, m_X4_bring x0 x1 x2 x3 σ = some b → MetF G l yX4_bring cX4_bring 4 none 1 22 [k_rr G x0, .int x1, .int x2, .int x3] (k_wl G σ) (ccV b).1 (k_wl G (ccV b).2) :=
  met_of (by decide) (Nat.le_of_ble_eq_true rfl) rfl (om_X4_bring _ _ _ _ hx0 σ)
theorem call_X4_bring {G : KW} {l : Launch} {cc : ByteArray} {nL : Nat} {own : String} {rt : Option FieldType} {R : Room} {α : Type} {X : State → Array Value → Method → Prop} {Z : α → List Frame → Array Value → State → State → Prop} {k0 n0 pc index : Nat} {L : List (Option Value)} {S : List Value} {σ : Sg} {F : Sg → Option α} {x0 : Nat} {x1 : Int32} {x2 : Int32} {x3 : Int32} (lk : MLk own index yX4_bring) (hx0 : k_tw x0) (hR : R.frames ≥ 1 + 1 ∧ R.locals ≥ 8 + (4 + 11) + 22) (hcs : k0 ≤ R.cells ∧ n0 ≤ R.slots) (hro : (S.map fun v => v.category).sum ≤ 8) (d : decode cc pc = .ok (.invokevirtual index, 3)) (kk : ∀ σ' : Sg, Okg G l cc nL own rt R X Z k0 n0 (pc + 3) L S σ' (F σ')) : Okg G l cc nL own rt R X Z k0 n0 pc L (.int x3 :: .int x2 :: .int x1 :: k_rr G x0 :: S) σ (e_cV (m_X4_bring x0 x1 x2 x3 σ) F) :=
  ok_cV (cb := ccV) (As := [.int x1, .int x2, .int x3]) (ct_X4_bring _ _ _ _ hx0 σ) mo_X4_bring hi_X4_bring lk rfl (ci := 4) rfl rfl (by decide) (isT_kd hx0) hR rfl hcs hro d (fun b => kk b)
/-! CoatDinner$Town.trait(I)[I -/
def m_X4_trait (x0 : Nat) (x1 : Int32) (σ : Sg) : Option (Nat × Sg) := (if x1 = 0 then some (x0 + 9, σ) else (if x1 = 1 then some (x0 + 10, σ) else some (x0 + 11, σ)))
theorem om_X4_trait {G : KW} {l : Launch} (x0 : Nat) (x1 : Int32) (hx0 : k_tw x0) (σ : Sg) : Okk G l cX4_trait 2 RX4 (some (.array .int)) (rmo 0 0) (ccR G) 0 [some (k_rr G x0), some (.int x1)] [] σ (m_X4_trait x0 x1 σ) := by
  unfold m_X4_trait
  refine ok_iload1 (dq_of td_X4_trait 0 rfl) ?_
  refine ok_if_ne (tgt := 9) (dq_of td_X4_trait 1 rfl) (by decide) ?_ ?_
  · refine ok_iload1 (dq_of td_X4_trait 5 rfl) ?_
    refine ok_iconst (v := 1) (dq_of td_X4_trait 6 rfl) (by decide) ?_
    refine ok_ic_ne (tgt := 21) (dq_of td_X4_trait 7 rfl) (by decide) ?_ ?_
    · refine ok_aload0 (dq_of td_X4_trait 11 rfl) ?_
      refine ok_get (v := k_rr G (x0 + 11)) fl_X4_46 (by decide) (isT_kd hx0) rfl (dq_of td_X4_trait 12 rfl) ?_
      exact ok_aret (Or.inr ⟨_, rfl⟩) (dq_of td_X4_trait 13 rfl)
    · refine ok_aload0 (dq_of td_X4_trait 8 rfl) ?_
      refine ok_get (v := k_rr G (x0 + 10)) fl_X4_43 (by decide) (isT_kd hx0) rfl (dq_of td_X4_trait 9 rfl) ?_
      refine ok_goto (tgt := 25) (dq_of td_X4_trait 10 rfl) (by decide) ?_
      exact ok_aret (Or.inr ⟨_, rfl⟩) (dq_of td_X4_trait 13 rfl)
  · refine ok_aload0 (dq_of td_X4_trait 2 rfl) ?_
    refine ok_get (v := k_rr G (x0 + 9)) fl_X4_40 (by decide) (isT_kd hx0) rfl (dq_of td_X4_trait 3 rfl) ?_
    exact ok_aret (Or.inr ⟨_, rfl⟩) (dq_of td_X4_trait 4 rfl)
theorem ct_X4_trait {G : KW} {l : Launch} (x0 : Nat) (x1 : Int32) (hx0 : k_tw x0) (σ : Sg) : ∀ b, m_X4_trait x0 x1 σ = some b → MetF G l yX4_trait cX4_trait 2 (some (.array .int)) 0 0 [k_rr G x0, .int x1] (k_wl G σ) ((ccR G) b).1 (k_wl G ((ccR G) b).2) :=
  met_of (by decide) (Nat.le_of_ble_eq_true rfl) rfl (om_X4_trait _ _ hx0 σ)
theorem call_X4_trait {G : KW} {l : Launch} {cc : ByteArray} {nL : Nat} {own : String} {rt : Option FieldType} {R : Room} {α : Type} {X : State → Array Value → Method → Prop} {Z : α → List Frame → Array Value → State → State → Prop} {k0 n0 pc index : Nat} {L : List (Option Value)} {S : List Value} {σ : Sg} {F : Nat → Sg → Option α} {x0 : Nat} {x1 : Int32} (lk : MLk own index yX4_trait) (hx0 : k_tw x0) (hR : R.frames ≥ 0 + 1 ∧ R.locals ≥ 8 + (2 + 11) + 0) (hcs : k0 ≤ R.cells ∧ n0 ≤ R.slots) (hro : (S.map fun v => v.category).sum ≤ 8) (d : decode cc pc = .ok (.invokevirtual index, 3)) (kk : ∀ (r : Nat) (σ' : Sg), Okg G l cc nL own rt R X Z k0 n0 (pc + 3) L (k_rr G r :: S) σ' (F r σ')) : Okg G l cc nL own rt R X Z k0 n0 pc L (.int x1 :: k_rr G x0 :: S) σ (e_cR (m_X4_trait x0 x1 σ) F) :=
  ok_cV (cb := (ccR G)) (As := [.int x1]) (ct_X4_trait _ _ hx0 σ) mo_X4_trait hi_X4_trait lk rfl (ci := 4) rfl rfl (by decide) (isT_kd hx0) hR rfl hcs hro d (fun b => kk b.1 b.2)
/-! CoatDinner$Town.wornByOther(II)Z -/
def m_X4_wornByOther (x0 : Nat) (x1 : Int32) (x2 : Int32) (σ : Sg) : Option (Int32 × Sg) := e_cI (m_X4_wearers x0 x1 σ) (fun r2 σ1 => (if (r2 &&& ((jsl 1 x2) ^^^ ((-1)))) = 0 then e_rz 0 σ1 else e_rz 1 σ1))
theorem om_X4_wornByOther {G : KW} {l : Launch} (x0 : Nat) (x1 : Int32) (x2 : Int32) (hx0 : k_tw x0) (σ : Sg) : Okk G l cX4_wornByOther 3 RX4 (some .boolean) (rmo 1 23) ccI 0 [some (k_rr G x0), some (.int x1), some (.int x2)] [] σ (m_X4_wornByOther x0 x1 x2 σ) := by
  unfold m_X4_wornByOther
  refine ok_aload0 (dq_of td_X4_wornByOther 0 rfl) ?_
  refine ok_iload1 (dq_of td_X4_wornByOther 1 rfl) ?_
  refine call_X4_wearers ml_X4_79 hx0 ⟨Nat.le_of_ble_eq_true rfl, Nat.le_of_ble_eq_true rfl⟩ ⟨Nat.zero_le _, Nat.zero_le _⟩ (Nat.le_of_ble_eq_true rfl) (dq_of td_X4_wornByOther 2 rfl) (fun r2 σ1 => ?_)
  refine ok_iconst (v := 1) (dq_of td_X4_wornByOther 3 rfl) (by decide) ?_
  refine ok_iload2 (dq_of td_X4_wornByOther 4 rfl) ?_
  refine ok_ishl (dq_of td_X4_wornByOther 5 rfl) ?_
  refine ok_iconst (v := (-1)) (dq_of td_X4_wornByOther 6 rfl) (by decide) ?_
  refine ok_ixor (dq_of td_X4_wornByOther 7 rfl) ?_
  refine ok_iand (dq_of td_X4_wornByOther 8 rfl) ?_
  refine ok_if_eq (tgt := 18) (dq_of td_X4_wornByOther 9 rfl) (by decide) ?_ ?_
  · refine ok_iconst (v := 0) (dq_of td_X4_wornByOther 12 rfl) (by decide) ?_
    exact ok_zret (dq_of td_X4_wornByOther 13 rfl)
  · refine ok_iconst (v := 1) (dq_of td_X4_wornByOther 10 rfl) (by decide) ?_
    refine ok_goto (tgt := 19) (dq_of td_X4_wornByOther 11 rfl) (by decide) ?_
    exact ok_zret (dq_of td_X4_wornByOther 13 rfl)
theorem ct_X4_wornByOther {G : KW} {l : Launch} (x0 : Nat) (x1 : Int32) (x2 : Int32) (hx0 : k_tw x0) (σ : Sg) : ∀ b, m_X4_wornByOther x0 x1 x2 σ = some b → MetF G l yX4_wornByOther cX4_wornByOther 3 (some .boolean) 1 23 [k_rr G x0, .int x1, .int x2] (k_wl G σ) (ccI b).1 (k_wl G (ccI b).2) :=
  met_of (by decide) (Nat.le_of_ble_eq_true rfl) rfl (om_X4_wornByOther _ _ _ hx0 σ)
theorem call_X4_wornByOther {G : KW} {l : Launch} {cc : ByteArray} {nL : Nat} {own : String} {rt : Option FieldType} {R : Room} {α : Type} {X : State → Array Value → Method → Prop} {Z : α → List Frame → Array Value → State → State → Prop} {k0 n0 pc index : Nat} {L : List (Option Value)} {S : List Value} {σ : Sg} {F : Int32 → Sg → Option α} {x0 : Nat} {x1 : Int32} {x2 : Int32} (lk : MLk own index yX4_wornByOther) (hx0 : k_tw x0) (hR : R.frames ≥ 1 + 1 ∧ R.locals ≥ 8 + (3 + 11) + 23) (hcs : k0 ≤ R.cells ∧ n0 ≤ R.slots) (hro : (S.map fun v => v.category).sum ≤ 8) (d : decode cc pc = .ok (.invokevirtual index, 3)) (kk : ∀ (r : Int32) (σ' : Sg), Okg G l cc nL own rt R X Z k0 n0 (pc + 3) L (.int r :: S) σ' (F r σ')) : Okg G l cc nL own rt R X Z k0 n0 pc L (.int x2 :: .int x1 :: k_rr G x0 :: S) σ (e_cI (m_X4_wornByOther x0 x1 x2 σ) F) :=
  ok_cV (cb := ccI) (As := [.int x1, .int x2]) (ct_X4_wornByOther _ _ _ hx0 σ) mo_X4_wornByOther hi_X4_wornByOther lk rfl (ci := 4) rfl rfl (by decide) (isT_kd hx0) hR rfl hcs hro d (fun b => kk b.1 b.2)
/-! CoatDinner$Town.canHire(II)Z -/
def b_X4_canHire_37 (x0 : Nat) (x1 : Int32) (x2 : Int32)  (σ : Sg) : Option (Int32 × Sg) := e_rz 1 σ
theorem ob_X4_canHire_37 {G : KW} {l : Launch} (x0 : Nat) (x1 : Int32) (x2 : Int32) (hx0 : k_tw x0)   (σ : Sg) : Okk G l cX4_canHire 3 RX4 (some .boolean) (rmo 2 45) ccI 37 [none, none, none] [] σ (b_X4_canHire_37 x0 x1 x2  σ) := by
  unfold b_X4_canHire_37
  refine ok_iconst (v := 1) (dq_of td_X4_canHire 21 rfl) (by decide) ?_
  refine ok_goto (tgt := 42) (dq_of td_X4_canHire 22 rfl) (by decide) ?_
  exact ok_zret (dq_of td_X4_canHire 24 rfl)
def m_X4_canHire (x0 : Nat) (x1 : Int32) (x2 : Int32) (σ : Sg) : Option (Int32 × Sg) := e_cI (m_X4_hasPerson x0 x1 σ) (fun r2 σ1 => (if r2 = 0 then e_rz 0 σ1 else e_cI (m_X4_hasCoat x0 x2 σ1) (fun r4 σ3 => (if r4 = 0 then e_rz 0 σ3 else e_gd (k_in x1 5) ((if (σ3 (x0 + 1) (Int32.toNatClampNeg x1)) = x2 then b_X4_canHire_37 x0 x1 x2 σ3 else e_cI (m_X4_wornByOther x0 x2 x1 σ3) (fun r6 σ5 => (if r6 = 0 then b_X4_canHire_37 x0 x1 x2 σ5 else e_rz 0 σ5))))))))
theorem om_X4_canHire {G : KW} {l : Launch} (x0 : Nat) (x1 : Int32) (x2 : Int32) (hx0 : k_tw x0) (σ : Sg) : Okk G l cX4_canHire 3 RX4 (some .boolean) (rmo 2 45) ccI 0 [some (k_rr G x0), some (.int x1), some (.int x2)] [] σ (m_X4_canHire x0 x1 x2 σ) := by
  unfold m_X4_canHire
  refine ok_aload0 (dq_of td_X4_canHire 0 rfl) ?_
  refine ok_iload1 (dq_of td_X4_canHire 1 rfl) ?_
  refine call_X4_hasPerson ml_X4_68 hx0 ⟨Nat.le_of_ble_eq_true rfl, Nat.le_of_ble_eq_true rfl⟩ ⟨Nat.zero_le _, Nat.zero_le _⟩ (Nat.le_of_ble_eq_true rfl) (dq_of td_X4_canHire 2 rfl) (fun r2 σ1 => ?_)
  refine ok_if_eq (tgt := 16) (dq_of td_X4_canHire 3 rfl) (by decide) ?_ ?_
  · refine ok_iconst (v := 0) (dq_of td_X4_canHire 8 rfl) (by decide) ?_
    exact ok_zret (dq_of td_X4_canHire 9 rfl)
  · refine ok_aload0 (dq_of td_X4_canHire 4 rfl) ?_
    refine ok_iload2 (dq_of td_X4_canHire 5 rfl) ?_
    refine call_X4_hasCoat ml_X4_72 hx0 ⟨Nat.le_of_ble_eq_true rfl, Nat.le_of_ble_eq_true rfl⟩ ⟨Nat.zero_le _, Nat.zero_le _⟩ (Nat.le_of_ble_eq_true rfl) (dq_of td_X4_canHire 6 rfl) (fun r4 σ3 => ?_)
    refine ok_if_ne (tgt := 18) (dq_of td_X4_canHire 7 rfl) (by decide) ?_ ?_
    · refine ok_aload0 (dq_of td_X4_canHire 10 rfl) ?_
      refine ok_get (v := k_rr G (x0 + 1)) fl_X4_15 (by decide) (isT_kd hx0) rfl (dq_of td_X4_canHire 11 rfl) ?_
      refine ok_iload1 (dq_of td_X4_canHire 12 rfl) ?_
      refine ok_iald (isT_a1 hx0) (dq_of td_X4_canHire 13 rfl) ?_
      refine ok_iload2 (dq_of td_X4_canHire 14 rfl) ?_
      refine ok_ic_eq (tgt := 37) (dq_of td_X4_canHire 15 rfl) (by decide) ?_ ?_
      · refine ok_wk (wk_n (wk_n (wk_n wk_0))) ?_
        exact ob_X4_canHire_37 _ _ _ hx0  _
      · refine ok_aload0 (dq_of td_X4_canHire 16 rfl) ?_
        refine ok_iload2 (dq_of td_X4_canHire 17 rfl) ?_
        refine ok_iload1 (dq_of td_X4_canHire 18 rfl) ?_
        refine call_X4_wornByOther ml_X4_83 hx0 ⟨Nat.le_of_ble_eq_true rfl, Nat.le_of_ble_eq_true rfl⟩ ⟨Nat.zero_le _, Nat.zero_le _⟩ (Nat.le_of_ble_eq_true rfl) (dq_of td_X4_canHire 19 rfl) (fun r6 σ5 => ?_)
        refine ok_if_ne (tgt := 41) (dq_of td_X4_canHire 20 rfl) (by decide) ?_ ?_
        · refine ok_iconst (v := 0) (dq_of td_X4_canHire 23 rfl) (by decide) ?_
          exact ok_zret (dq_of td_X4_canHire 24 rfl)
        · refine ok_wk (wk_n (wk_n (wk_n wk_0))) ?_
          exact ob_X4_canHire_37 _ _ _ hx0  _
    · refine ok_iconst (v := 0) (dq_of td_X4_canHire 8 rfl) (by decide) ?_
      exact ok_zret (dq_of td_X4_canHire 9 rfl)
theorem ct_X4_canHire {G : KW} {l : Launch} (x0 : Nat) (x1 : Int32) (x2 : Int32) (hx0 : k_tw x0) (σ : Sg) : ∀ b, m_X4_canHire x0 x1 x2 σ = some b → MetF G l yX4_canHire cX4_canHire 3 (some .boolean) 2 45 [k_rr G x0, .int x1, .int x2] (k_wl G σ) (ccI b).1 (k_wl G (ccI b).2) :=
  met_of (by decide) (Nat.le_of_ble_eq_true rfl) rfl (om_X4_canHire _ _ _ hx0 σ)
theorem call_X4_canHire {G : KW} {l : Launch} {cc : ByteArray} {nL : Nat} {own : String} {rt : Option FieldType} {R : Room} {α : Type} {X : State → Array Value → Method → Prop} {Z : α → List Frame → Array Value → State → State → Prop} {k0 n0 pc index : Nat} {L : List (Option Value)} {S : List Value} {σ : Sg} {F : Int32 → Sg → Option α} {x0 : Nat} {x1 : Int32} {x2 : Int32} (lk : MLk own index yX4_canHire) (hx0 : k_tw x0) (hR : R.frames ≥ 2 + 1 ∧ R.locals ≥ 8 + (3 + 11) + 45) (hcs : k0 ≤ R.cells ∧ n0 ≤ R.slots) (hro : (S.map fun v => v.category).sum ≤ 8) (d : decode cc pc = .ok (.invokevirtual index, 3)) (kk : ∀ (r : Int32) (σ' : Sg), Okg G l cc nL own rt R X Z k0 n0 (pc + 3) L (.int r :: S) σ' (F r σ')) : Okg G l cc nL own rt R X Z k0 n0 pc L (.int x2 :: .int x1 :: k_rr G x0 :: S) σ (e_cI (m_X4_canHire x0 x1 x2 σ) F) :=
  ok_cV (cb := ccI) (As := [.int x1, .int x2]) (ct_X4_canHire _ _ _ hx0 σ) mo_X4_canHire hi_X4_canHire lk rfl (ci := 4) rfl rfl (by decide) (isT_kd hx0) hR rfl hcs hro d (fun b => kk b.1 b.2)
/-! CoatDinner$Town.change(II)V -/
def m_X4_change (x0 : Nat) (x1 : Int32) (x2 : Int32) (σ : Sg) : Option (Sg) := e_cI (m_X4_takeOff x0 x1 σ) (fun r2 σ1 => (if r2 = 0 then some σ1 else e_cI (m_X4_putOn x0 x1 x2 σ1) (fun r4 σ3 => some σ3)))
theorem om_X4_change {G : KW} {l : Launch} (x0 : Nat) (x1 : Int32) (x2 : Int32) (hx0 : k_tw x0) (σ : Sg) : Okk G l cX4_change 3 RX4 none (rmo 3 68) ccV 0 [some (k_rr G x0), some (.int x1), some (.int x2)] [] σ (m_X4_change x0 x1 x2 σ) := by
  unfold m_X4_change
  refine ok_aload0 (dq_of td_X4_change 0 rfl) ?_
  refine ok_iload1 (dq_of td_X4_change 1 rfl) ?_
  refine call_X4_takeOff ml_X4_107 hx0 ⟨Nat.le_of_ble_eq_true rfl, Nat.le_of_ble_eq_true rfl⟩ ⟨Nat.zero_le _, Nat.zero_le _⟩ (Nat.le_of_ble_eq_true rfl) (dq_of td_X4_change 2 rfl) (fun r2 σ1 => ?_)
  refine ok_if_eq (tgt := 15) (dq_of td_X4_change 3 rfl) (by decide) ?_ ?_
  · exact ok_vret (dq_of td_X4_change 9 rfl)
  · refine ok_aload0 (dq_of td_X4_change 4 rfl) ?_
    refine ok_iload1 (dq_of td_X4_change 5 rfl) ?_
    refine ok_iload2 (dq_of td_X4_change 6 rfl) ?_
    refine call_X4_putOn ml_X4_110 hx0 ⟨Nat.le_of_ble_eq_true rfl, Nat.le_of_ble_eq_true rfl⟩ ⟨Nat.zero_le _, Nat.zero_le _⟩ (Nat.le_of_ble_eq_true rfl) (dq_of td_X4_change 7 rfl) (fun r4 σ3 => ?_)
    refine ok_pop (dq_of td_X4_change 8 rfl) rfl ?_
    exact ok_vret (dq_of td_X4_change 9 rfl)
theorem ct_X4_change {G : KW} {l : Launch} (x0 : Nat) (x1 : Int32) (x2 : Int32) (hx0 : k_tw x0) (σ : Sg) : ∀ b, m_X4_change x0 x1 x2 σ = some b → MetF G l yX4_change cX4_change 3 none 3 68 [k_rr G x0, .int x1, .int x2] (k_wl G σ) (ccV b).1 (k_wl G (ccV b).2) :=
  met_of (by decide) (Nat.le_of_ble_eq_true rfl) rfl (om_X4_change _ _ _ hx0 σ)
theorem call_X4_change {G : KW} {l : Launch} {cc : ByteArray} {nL : Nat} {own : String} {rt : Option FieldType} {R : Room} {α : Type} {X : State → Array Value → Method → Prop} {Z : α → List Frame → Array Value → State → State → Prop} {k0 n0 pc index : Nat} {L : List (Option Value)} {S : List Value} {σ : Sg} {F : Sg → Option α} {x0 : Nat} {x1 : Int32} {x2 : Int32} (lk : MLk own index yX4_change) (hx0 : k_tw x0) (hR : R.frames ≥ 3 + 1 ∧ R.locals ≥ 8 + (3 + 11) + 68) (hcs : k0 ≤ R.cells ∧ n0 ≤ R.slots) (hro : (S.map fun v => v.category).sum ≤ 8) (d : decode cc pc = .ok (.invokevirtual index, 3)) (kk : ∀ σ' : Sg, Okg G l cc nL own rt R X Z k0 n0 (pc + 3) L S σ' (F σ')) : Okg G l cc nL own rt R X Z k0 n0 pc L (.int x2 :: .int x1 :: k_rr G x0 :: S) σ (e_cV (m_X4_change x0 x1 x2 σ) F) :=
  ok_cV (cb := ccV) (As := [.int x1, .int x2]) (ct_X4_change _ _ _ hx0 σ) mo_X4_change hi_X4_change lk rfl (ci := 4) rfl rfl (by decide) (isT_kd hx0) hR rfl hcs hro d (fun b => kk b)
/-! CoatDinner$Town.loseCoats(I)V -/
def d_X4_loseCoats_2 (x0 : Nat) (x1 : Int32) (K : Sg → Option (Sg)) (H : Int32 → Sg → Option (Sg)) (x2 : Int32) (σ : Sg) : Option (Sg) := (if 5 ≤ x2 then K σ else (if ((jsr x1 x2) &&& 1) = 1 then e_cV (m_X4_undress x0 x2 σ) (fun σ1 => H (x2 + 1) σ1) else H (x2 + 1) σ))
theorem od_X4_loseCoats_2 {G : KW} {l : Launch} (x0 : Nat) (x1 : Int32) (hx0 : k_tw x0) {K : Sg → Option (Sg)} {H : Int32 → Sg → Option (Sg)} (hK : ∀  (σ : Sg), Okk G l cX4_loseCoats 3 RX4 none (rmo 1 22) ccV 27 [none, none, none] [] σ (K  σ)) (hH : ∀ (x2 : Int32) (σ : Sg), Okk G l cX4_loseCoats 3 RX4 none (rmo 1 22) ccV 2 [some (k_rr G x0), some (.int x1), some (.int x2)] [] σ (H x2 σ)) (x2 : Int32)  (σ : Sg) : Okk G l cX4_loseCoats 3 RX4 none (rmo 1 22) ccV 2 [some (k_rr G x0), some (.int x1), some (.int x2)] [] σ (d_X4_loseCoats_2 x0 x1 K H x2 σ) := by
  unfold d_X4_loseCoats_2
  refine ok_iload2 (dq_of td_X4_loseCoats 2 rfl) ?_
  refine ok_iconst (v := 5) (dq_of td_X4_loseCoats 3 rfl) (by decide) ?_
  refine ok_ic_ge (tgt := 27) (dq_of td_X4_loseCoats 4 rfl) (by decide) ?_ ?_
  · refine ok_wk (wk_n (wk_n (wk_n wk_0))) ?_
    exact hK _
  · refine ok_iload1 (dq_of td_X4_loseCoats 5 rfl) ?_
    refine ok_iload2 (dq_of td_X4_loseCoats 6 rfl) ?_
    refine ok_ishr (dq_of td_X4_loseCoats 7 rfl) ?_
    refine ok_iconst (v := 1) (dq_of td_X4_loseCoats 8 rfl) (by decide) ?_
    refine ok_iand (dq_of td_X4_loseCoats 9 rfl) ?_
    refine ok_iconst (v := 1) (dq_of td_X4_loseCoats 10 rfl) (by decide) ?_
    refine ok_ic_ne (tgt := 21) (dq_of td_X4_loseCoats 11 rfl) (by decide) ?_ ?_
    · refine ok_jinc2 (w := 1) (dq_of td_X4_loseCoats 15 rfl) (by decide) rfl (by decide) ?_
      refine ok_goto (tgt := 2) (dq_of td_X4_loseCoats 16 rfl) (by decide) ?_
      refine ok_wk (wk_s (wk_s (wk_s wk_0))) ?_
      exact hH _ _
    · refine ok_aload0 (dq_of td_X4_loseCoats 12 rfl) ?_
      refine ok_iload2 (dq_of td_X4_loseCoats 13 rfl) ?_
      refine call_X4_undress ml_X4_75 hx0 ⟨Nat.le_of_ble_eq_true rfl, Nat.le_of_ble_eq_true rfl⟩ ⟨Nat.zero_le _, Nat.zero_le _⟩ (Nat.le_of_ble_eq_true rfl) (dq_of td_X4_loseCoats 14 rfl) (fun σ1 => ?_)
      refine ok_jinc2 (w := 1) (dq_of td_X4_loseCoats 15 rfl) (by decide) rfl (by decide) ?_
      refine ok_goto (tgt := 2) (dq_of td_X4_loseCoats 16 rfl) (by decide) ?_
      refine ok_wk (wk_s (wk_s (wk_s wk_0))) ?_
      exact hH _ _
theorem ld_X4_loseCoats_2 {G : KW} {l : Launch} (x0 : Nat) (x1 : Int32) (hx0 : k_tw x0) {K : Sg → Option (Sg)} (hK : ∀  (σ : Sg), Okk G l cX4_loseCoats 3 RX4 none (rmo 1 22) ccV 27 [none, none, none] [] σ (K  σ)) (n : Nat) (x2 : Int32) (σ : Sg) : Okk G l cX4_loseCoats 3 RX4 none (rmo 1 22) ccV 2 [some (k_rr G x0), some (.int x1), some (.int x2)] [] σ (e_lp1 (d_X4_loseCoats_2 x0 x1 K) n x2 σ) :=
  ok_lp1 (Lf := fun (x2 : Int32) => [some (k_rr G x0), some (.int x1), some (.int x2)]) (fun _ hH x2 σ => od_X4_loseCoats_2 _ _ hx0 hK hH x2 σ) n x2 σ
def m_X4_loseCoats (x0 : Nat) (x1 : Int32) (σ : Sg) : Option (Sg) := e_lp1 (d_X4_loseCoats_2 x0 x1 (fun σ2 => some σ2)) e_F 0 σ
theorem om_X4_loseCoats {G : KW} {l : Launch} (x0 : Nat) (x1 : Int32) (hx0 : k_tw x0) (σ : Sg) : Okk G l cX4_loseCoats 3 RX4 none (rmo 1 22) ccV 0 [some (k_rr G x0), some (.int x1), none] [] σ (m_X4_loseCoats x0 x1 σ) := by
  unfold m_X4_loseCoats
  refine ok_iconst (v := 0) (dq_of td_X4_loseCoats 0 rfl) (by decide) ?_
  refine ok_istore2 (dq_of td_X4_loseCoats 1 rfl) rfl (by decide) ?_
  refine ok_wk (wk_s (wk_s (wk_s wk_0))) ?_
  refine ld_X4_loseCoats_2 _ _ hx0 (fun σ2 => ?_) _ _ _
  exact ok_vret (dq_of td_X4_loseCoats 17 rfl)
theorem ct_X4_loseCoats {G : KW} {l : Launch} (x0 : Nat) (x1 : Int32) (hx0 : k_tw x0) (σ : Sg) : ∀ b, m_X4_loseCoats x0 x1 σ = some b → MetF G l yX4_loseCoats cX4_loseCoats 3 none 1 22 [k_rr G x0, .int x1] (k_wl G σ) (ccV b).1 (k_wl G (ccV b).2) :=
  met_of (by decide) (Nat.le_of_ble_eq_true rfl) rfl (om_X4_loseCoats _ _ hx0 σ)
theorem call_X4_loseCoats {G : KW} {l : Launch} {cc : ByteArray} {nL : Nat} {own : String} {rt : Option FieldType} {R : Room} {α : Type} {X : State → Array Value → Method → Prop} {Z : α → List Frame → Array Value → State → State → Prop} {k0 n0 pc index : Nat} {L : List (Option Value)} {S : List Value} {σ : Sg} {F : Sg → Option α} {x0 : Nat} {x1 : Int32} (lk : MLk own index yX4_loseCoats) (hx0 : k_tw x0) (hR : R.frames ≥ 1 + 1 ∧ R.locals ≥ 8 + (3 + 11) + 22) (hcs : k0 ≤ R.cells ∧ n0 ≤ R.slots) (hro : (S.map fun v => v.category).sum ≤ 8) (d : decode cc pc = .ok (.invokevirtual index, 3)) (kk : ∀ σ' : Sg, Okg G l cc nL own rt R X Z k0 n0 (pc + 3) L S σ' (F σ')) : Okg G l cc nL own rt R X Z k0 n0 pc L (.int x1 :: k_rr G x0 :: S) σ (e_cV (m_X4_loseCoats x0 x1 σ) F) :=
  ok_cV (cb := ccV) (As := [.int x1]) (ct_X4_loseCoats _ _ hx0 σ) mo_X4_loseCoats hi_X4_loseCoats lk rfl (ci := 4) rfl rfl (by decide) (isT_kd hx0) hR rfl hcs hro d (fun b => kk b)
/-! CoatDinner$Town.chanceOf(II)J -/
def b_X4_chanceOf_54 (x0 : Nat) (x1 : Int32) (x2 : Int32) (K : Int64 → Sg → Option (Int64 × Sg)) (H : Int64 → Int32 → Sg → Option (Int64 × Sg)) (x5 : Int32) (s0 : Int64) (s1 : Int64) (σ : Sg) : Option (Int64 × Sg) := e_lt (s1 * s0) (fun v1 => H v1 (x5 + 1) σ)
def d_X4_chanceOf_5 (x0 : Nat) (x1 : Int32) (x2 : Int32) (K : Int64 → Sg → Option (Int64 × Sg)) (H : Int64 → Int32 → Sg → Option (Int64 × Sg)) (x3 : Int64) (x5 : Int32) (σ : Sg) : Option (Int64 × Sg) := (if 5 ≤ x5 then K x3 σ else (if ((jsr x2 x5) &&& 1) = 1 then (if ((jsr x1 x5) &&& 1) = 1 then e_gd (k_in x5 5) (b_X4_chanceOf_54 x0 x1 x2 K H x5 (Int32.toInt64 (σ (x0 + 10) (Int32.toNatClampNeg x5))) x3 σ) else e_gd (k_in x5 5) (b_X4_chanceOf_54 x0 x1 x2 K H x5 (Int32.toInt64 (10 - (σ (x0 + 10) (Int32.toNatClampNeg x5)))) x3 σ)) else H x3 (x5 + 1) σ))
theorem ob_X4_chanceOf_54 {G : KW} {l : Launch} (x0 : Nat) (x1 : Int32) (x2 : Int32) (hx0 : k_tw x0) {K : Int64 → Sg → Option (Int64 × Sg)} {H : Int64 → Int32 → Sg → Option (Int64 × Sg)} (hK : ∀ (x3 : Int64) (σ : Sg), Okk G l cX4_chanceOf 6 RX4 (some .long) (rmo 0 0) ccJ 62 [none, none, none, some (.long x3), none, none] [] σ (K x3 σ)) (hH : ∀ (x3 : Int64) (x5 : Int32) (σ : Sg), Okk G l cX4_chanceOf 6 RX4 (some .long) (rmo 0 0) ccJ 5 [some (k_rr G x0), some (.int x1), some (.int x2), some (.long x3), none, some (.int x5)] [] σ (H x3 x5 σ)) (x5 : Int32) (s0 : Int64) (s1 : Int64)  (σ : Sg) : Okk G l cX4_chanceOf 6 RX4 (some .long) (rmo 0 0) ccJ 54 [some (k_rr G x0), some (.int x1), some (.int x2), none, none, some (.int x5)] [.long s0, .long s1] σ (b_X4_chanceOf_54 x0 x1 x2 K H x5 s0 s1 σ) := by
  unfold b_X4_chanceOf_54
  refine ok_lmul (dq_of td_X4_chanceOf 35 rfl) ?_
  refine ok_gJ (fun v1 => ?_)
  refine ok_lstore3 (dq_of td_X4_chanceOf 36 rfl) rfl (by decide) ?_
  refine ok_jinc5 (w := 1) (dq_of td_X4_chanceOf 37 rfl) (by decide) rfl (by decide) ?_
  refine ok_goto (tgt := 5) (dq_of td_X4_chanceOf 38 rfl) (by decide) ?_
  refine ok_wk (wk_s (wk_s (wk_s (wk_s (wk_n (wk_s wk_0)))))) ?_
  exact hH _ _ _
theorem od_X4_chanceOf_5 {G : KW} {l : Launch} (x0 : Nat) (x1 : Int32) (x2 : Int32) (hx0 : k_tw x0) {K : Int64 → Sg → Option (Int64 × Sg)} {H : Int64 → Int32 → Sg → Option (Int64 × Sg)} (hK : ∀ (x3 : Int64) (σ : Sg), Okk G l cX4_chanceOf 6 RX4 (some .long) (rmo 0 0) ccJ 62 [none, none, none, some (.long x3), none, none] [] σ (K x3 σ)) (hH : ∀ (x3 : Int64) (x5 : Int32) (σ : Sg), Okk G l cX4_chanceOf 6 RX4 (some .long) (rmo 0 0) ccJ 5 [some (k_rr G x0), some (.int x1), some (.int x2), some (.long x3), none, some (.int x5)] [] σ (H x3 x5 σ)) (x3 : Int64) (x5 : Int32)  (σ : Sg) : Okk G l cX4_chanceOf 6 RX4 (some .long) (rmo 0 0) ccJ 5 [some (k_rr G x0), some (.int x1), some (.int x2), some (.long x3), none, some (.int x5)] [] σ (d_X4_chanceOf_5 x0 x1 x2 K H x3 x5 σ) := by
  unfold d_X4_chanceOf_5
  refine ok_iload5 (dq_of td_X4_chanceOf 4 rfl) ?_
  refine ok_iconst (v := 5) (dq_of td_X4_chanceOf 5 rfl) (by decide) ?_
  refine ok_ic_ge (tgt := 62) (dq_of td_X4_chanceOf 6 rfl) (by decide) ?_ ?_
  · refine ok_wk (wk_n (wk_n (wk_n (wk_s (wk_n (wk_n wk_0)))))) ?_
    exact hK _ _
  · refine ok_iload2 (dq_of td_X4_chanceOf 7 rfl) ?_
    refine ok_iload5 (dq_of td_X4_chanceOf 8 rfl) ?_
    refine ok_ishr (dq_of td_X4_chanceOf 9 rfl) ?_
    refine ok_iconst (v := 1) (dq_of td_X4_chanceOf 10 rfl) (by decide) ?_
    refine ok_iand (dq_of td_X4_chanceOf 11 rfl) ?_
    refine ok_iconst (v := 1) (dq_of td_X4_chanceOf 12 rfl) (by decide) ?_
    refine ok_ic_ne (tgt := 56) (dq_of td_X4_chanceOf 13 rfl) (by decide) ?_ ?_
    · refine ok_jinc5 (w := 1) (dq_of td_X4_chanceOf 37 rfl) (by decide) rfl (by decide) ?_
      refine ok_goto (tgt := 5) (dq_of td_X4_chanceOf 38 rfl) (by decide) ?_
      refine ok_wk (wk_s (wk_s (wk_s (wk_s (wk_n (wk_s wk_0)))))) ?_
      exact hH _ _ _
    · refine ok_lload3 (dq_of td_X4_chanceOf 14 rfl) ?_
      refine ok_iload1 (dq_of td_X4_chanceOf 15 rfl) ?_
      refine ok_iload5 (dq_of td_X4_chanceOf 16 rfl) ?_
      refine ok_ishr (dq_of td_X4_chanceOf 17 rfl) ?_
      refine ok_iconst (v := 1) (dq_of td_X4_chanceOf 18 rfl) (by decide) ?_
      refine ok_iand (dq_of td_X4_chanceOf 19 rfl) ?_
      refine ok_iconst (v := 1) (dq_of td_X4_chanceOf 20 rfl) (by decide) ?_
      refine ok_ic_ne (tgt := 43) (dq_of td_X4_chanceOf 21 rfl) (by decide) ?_ ?_
      · refine ok_bipush (v := 10) (dq_of td_X4_chanceOf 28 rfl) (by decide) ?_
        refine ok_aload0 (dq_of td_X4_chanceOf 29 rfl) ?_
        refine ok_get (v := k_rr G (x0 + 10)) fl_X4_43 (by decide) (isT_kd hx0) rfl (dq_of td_X4_chanceOf 30 rfl) ?_
        refine ok_iload5 (dq_of td_X4_chanceOf 31 rfl) ?_
        refine ok_iald (isT_a10 hx0) (dq_of td_X4_chanceOf 32 rfl) ?_
        refine ok_isub (dq_of td_X4_chanceOf 33 rfl) ?_
        refine ok_i2l (dq_of td_X4_chanceOf 34 rfl) ?_
        refine ok_wk (wk_s (wk_s (wk_s (wk_n (wk_n (wk_s wk_0)))))) ?_
        exact ob_X4_chanceOf_54 _ _ _ hx0 hK hH _ _ _  _
      · refine ok_aload0 (dq_of td_X4_chanceOf 22 rfl) ?_
        refine ok_get (v := k_rr G (x0 + 10)) fl_X4_43 (by decide) (isT_kd hx0) rfl (dq_of td_X4_chanceOf 23 rfl) ?_
        refine ok_iload5 (dq_of td_X4_chanceOf 24 rfl) ?_
        refine ok_iald (isT_a10 hx0) (dq_of td_X4_chanceOf 25 rfl) ?_
        refine ok_i2l (dq_of td_X4_chanceOf 26 rfl) ?_
        refine ok_goto (tgt := 54) (dq_of td_X4_chanceOf 27 rfl) (by decide) ?_
        refine ok_wk (wk_s (wk_s (wk_s (wk_n (wk_n (wk_s wk_0)))))) ?_
        exact ob_X4_chanceOf_54 _ _ _ hx0 hK hH _ _ _  _
theorem ld_X4_chanceOf_5 {G : KW} {l : Launch} (x0 : Nat) (x1 : Int32) (x2 : Int32) (hx0 : k_tw x0) {K : Int64 → Sg → Option (Int64 × Sg)} (hK : ∀ (x3 : Int64) (σ : Sg), Okk G l cX4_chanceOf 6 RX4 (some .long) (rmo 0 0) ccJ 62 [none, none, none, some (.long x3), none, none] [] σ (K x3 σ)) (n : Nat) (x3 : Int64) (x5 : Int32) (σ : Sg) : Okk G l cX4_chanceOf 6 RX4 (some .long) (rmo 0 0) ccJ 5 [some (k_rr G x0), some (.int x1), some (.int x2), some (.long x3), none, some (.int x5)] [] σ (e_lp2 (d_X4_chanceOf_5 x0 x1 x2 K) n x3 x5 σ) :=
  ok_lp2 (Lf := fun (x3 : Int64) (x5 : Int32) => [some (k_rr G x0), some (.int x1), some (.int x2), some (.long x3), none, some (.int x5)]) (fun _ hH x3 x5 σ => od_X4_chanceOf_5 _ _ _ hx0 hK hH x3 x5 σ) n x3 x5 σ
def m_X4_chanceOf (x0 : Nat) (x1 : Int32) (x2 : Int32) (σ : Sg) : Option (Int64 × Sg) := e_lp2 (d_X4_chanceOf_5 x0 x1 x2 (fun x3q2 σ2 => some (x3q2, σ2))) e_F 1 0 σ
theorem om_X4_chanceOf {G : KW} {l : Launch} (x0 : Nat) (x1 : Int32) (x2 : Int32) (hx0 : k_tw x0) (σ : Sg) : Okk G l cX4_chanceOf 6 RX4 (some .long) (rmo 0 0) ccJ 0 [some (k_rr G x0), some (.int x1), some (.int x2), none, none, none] [] σ (m_X4_chanceOf x0 x1 x2 σ) := by
  unfold m_X4_chanceOf
  refine ok_lconst (v := 1) (dq_of td_X4_chanceOf 0 rfl) (by decide) ?_
  refine ok_lstore3 (dq_of td_X4_chanceOf 1 rfl) rfl (by decide) ?_
  refine ok_iconst (v := 0) (dq_of td_X4_chanceOf 2 rfl) (by decide) ?_
  refine ok_istore5 (dq_of td_X4_chanceOf 3 rfl) rfl (by decide) ?_
  refine ok_wk (wk_s (wk_s (wk_s (wk_s (wk_n (wk_s wk_0)))))) ?_
  refine ld_X4_chanceOf_5 _ _ _ hx0 (fun x3q2 σ2 => ?_) _ _ _ _
  refine ok_lload3 (dq_of td_X4_chanceOf 39 rfl) ?_
  exact ok_lret (dq_of td_X4_chanceOf 40 rfl)
theorem ct_X4_chanceOf {G : KW} {l : Launch} (x0 : Nat) (x1 : Int32) (x2 : Int32) (hx0 : k_tw x0) (σ : Sg) : ∀ b, m_X4_chanceOf x0 x1 x2 σ = some b → MetF G l yX4_chanceOf cX4_chanceOf 6 (some .long) 0 0 [k_rr G x0, .int x1, .int x2] (k_wl G σ) (ccJ b).1 (k_wl G (ccJ b).2) :=
  met_of (by decide) (Nat.le_of_ble_eq_true rfl) rfl (om_X4_chanceOf _ _ _ hx0 σ)
theorem call_X4_chanceOf {G : KW} {l : Launch} {cc : ByteArray} {nL : Nat} {own : String} {rt : Option FieldType} {R : Room} {α : Type} {X : State → Array Value → Method → Prop} {Z : α → List Frame → Array Value → State → State → Prop} {k0 n0 pc index : Nat} {L : List (Option Value)} {S : List Value} {σ : Sg} {F : Int64 → Sg → Option α} {x0 : Nat} {x1 : Int32} {x2 : Int32} (lk : MLk own index yX4_chanceOf) (hx0 : k_tw x0) (hR : R.frames ≥ 0 + 1 ∧ R.locals ≥ 8 + (6 + 11) + 0) (hcs : k0 ≤ R.cells ∧ n0 ≤ R.slots) (hro : (S.map fun v => v.category).sum ≤ 8) (d : decode cc pc = .ok (.invokevirtual index, 3)) (kk : ∀ (r : Int64) (σ' : Sg), Okg G l cc nL own rt R X Z k0 n0 (pc + 3) L (.long r :: S) σ' (F r σ')) : Okg G l cc nL own rt R X Z k0 n0 pc L (.int x2 :: .int x1 :: k_rr G x0 :: S) σ (e_cJ (m_X4_chanceOf x0 x1 x2 σ) F) :=
  ok_cV (cb := ccJ) (As := [.int x1, .int x2]) (ct_X4_chanceOf _ _ _ hx0 σ) mo_X4_chanceOf hi_X4_chanceOf lk rfl (ci := 4) rfl rfl (by decide) (isT_kd hx0) hR rfl hcs hro d (fun b => kk b.1 b.2)
/-! CoatDinner$Town.isLeague(I)Z -/
def m_X4_isLeague (x0 : Nat) (x1 : Int32) (σ : Sg) : Option (Int32 × Sg) := (if (x1 &&& ((σ x0 0) ^^^ ((-1)))) = 0 then e_rz 1 σ else e_rz 0 σ)
theorem om_X4_isLeague {G : KW} {l : Launch} (x0 : Nat) (x1 : Int32) (hx0 : k_tw x0) (σ : Sg) : Okk G l cX4_isLeague 2 RX4 (some .boolean) (rmo 0 0) ccI 0 [some (k_rr G x0), some (.int x1)] [] σ (m_X4_isLeague x0 x1 σ) := by
  unfold m_X4_isLeague
  refine ok_iload1 (dq_of td_X4_isLeague 0 rfl) ?_
  refine ok_aload0 (dq_of td_X4_isLeague 1 rfl) ?_
  refine ok_get (v := .int (σ x0 0)) fl_X4_55 (by decide) (isT_kd hx0) rfl (dq_of td_X4_isLeague 2 rfl) ?_
  refine ok_iconst (v := (-1)) (dq_of td_X4_isLeague 3 rfl) (by decide) ?_
  refine ok_ixor (dq_of td_X4_isLeague 4 rfl) ?_
  refine ok_iand (dq_of td_X4_isLeague 5 rfl) ?_
  refine ok_if_ne (tgt := 15) (dq_of td_X4_isLeague 6 rfl) (by decide) ?_ ?_
  · refine ok_iconst (v := 0) (dq_of td_X4_isLeague 9 rfl) (by decide) ?_
    exact ok_zret (dq_of td_X4_isLeague 10 rfl)
  · refine ok_iconst (v := 1) (dq_of td_X4_isLeague 7 rfl) (by decide) ?_
    refine ok_goto (tgt := 16) (dq_of td_X4_isLeague 8 rfl) (by decide) ?_
    exact ok_zret (dq_of td_X4_isLeague 10 rfl)
theorem ct_X4_isLeague {G : KW} {l : Launch} (x0 : Nat) (x1 : Int32) (hx0 : k_tw x0) (σ : Sg) : ∀ b, m_X4_isLeague x0 x1 σ = some b → MetF G l yX4_isLeague cX4_isLeague 2 (some .boolean) 0 0 [k_rr G x0, .int x1] (k_wl G σ) (ccI b).1 (k_wl G (ccI b).2) :=
  met_of (by decide) (Nat.le_of_ble_eq_true rfl) rfl (om_X4_isLeague _ _ hx0 σ)
theorem call_X4_isLeague {G : KW} {l : Launch} {cc : ByteArray} {nL : Nat} {own : String} {rt : Option FieldType} {R : Room} {α : Type} {X : State → Array Value → Method → Prop} {Z : α → List Frame → Array Value → State → State → Prop} {k0 n0 pc index : Nat} {L : List (Option Value)} {S : List Value} {σ : Sg} {F : Int32 → Sg → Option α} {x0 : Nat} {x1 : Int32} (lk : MLk own index yX4_isLeague) (hx0 : k_tw x0) (hR : R.frames ≥ 0 + 1 ∧ R.locals ≥ 8 + (2 + 11) + 0) (hcs : k0 ≤ R.cells ∧ n0 ≤ R.slots) (hro : (S.map fun v => v.category).sum ≤ 8) (d : decode cc pc = .ok (.invokevirtual index, 3)) (kk : ∀ (r : Int32) (σ' : Sg), Okg G l cc nL own rt R X Z k0 n0 (pc + 3) L (.int r :: S) σ' (F r σ')) : Okg G l cc nL own rt R X Z k0 n0 pc L (.int x1 :: k_rr G x0 :: S) σ (e_cI (m_X4_isLeague x0 x1 σ) F) :=
  ok_cV (cb := ccI) (As := [.int x1]) (ct_X4_isLeague _ _ hx0 σ) mo_X4_isLeague hi_X4_isLeague lk rfl (ci := 4) rfl rfl (by decide) (isT_kd hx0) hR rfl hcs hro d (fun b => kk b.1 b.2)
/-! CoatDinner$Town.greatestOf(I)I -/
def d_X4_greatestOf_8 (x0 : Nat) (x1 : Int32) (K : Int32 → Sg → Option (Int32 × Sg)) (H : Int32 → Int32 → Int32 → Sg → Option (Int32 × Sg)) (x2 : Int32) (x3 : Int32) (x4 : Int32) (σ : Sg) : Option (Int32 × Sg) := (if 5 ≤ x4 then K x2 σ else (if ((jsr x1 x4) &&& 1) = 1 then e_gd (k_in x4 5) ((if (σ (x0 + 7) (Int32.toNatClampNeg x4)) ≤ x3 then H x2 x3 (x4 + 1) σ else e_gd (k_in x4 5) (e_lt (σ (x0 + 7) (Int32.toNatClampNeg x4)) (fun v1 => H x4 v1 (x4 + 1) σ)))) else H x2 x3 (x4 + 1) σ))
theorem od_X4_greatestOf_8 {G : KW} {l : Launch} (x0 : Nat) (x1 : Int32) (hx0 : k_tw x0) {K : Int32 → Sg → Option (Int32 × Sg)} {H : Int32 → Int32 → Int32 → Sg → Option (Int32 × Sg)} (hK : ∀ (x2 : Int32) (σ : Sg), Okk G l cX4_greatestOf 5 RX4 (some .int) (rmo 0 0) ccI 52 [none, none, some (.int x2), none, none] [] σ (K x2 σ)) (hH : ∀ (x2 : Int32) (x3 : Int32) (x4 : Int32) (σ : Sg), Okk G l cX4_greatestOf 5 RX4 (some .int) (rmo 0 0) ccI 8 [some (k_rr G x0), some (.int x1), some (.int x2), some (.int x3), some (.int x4)] [] σ (H x2 x3 x4 σ)) (x2 : Int32) (x3 : Int32) (x4 : Int32)  (σ : Sg) : Okk G l cX4_greatestOf 5 RX4 (some .int) (rmo 0 0) ccI 8 [some (k_rr G x0), some (.int x1), some (.int x2), some (.int x3), some (.int x4)] [] σ (d_X4_greatestOf_8 x0 x1 K H x2 x3 x4 σ) := by
  unfold d_X4_greatestOf_8
  refine ok_iload4 (dq_of td_X4_greatestOf 6 rfl) ?_
  refine ok_iconst (v := 5) (dq_of td_X4_greatestOf 7 rfl) (by decide) ?_
  refine ok_ic_ge (tgt := 52) (dq_of td_X4_greatestOf 8 rfl) (by decide) ?_ ?_
  · refine ok_wk (wk_n (wk_n (wk_s (wk_n (wk_n wk_0))))) ?_
    exact hK _ _
  · refine ok_iload1 (dq_of td_X4_greatestOf 9 rfl) ?_
    refine ok_iload4 (dq_of td_X4_greatestOf 10 rfl) ?_
    refine ok_ishr (dq_of td_X4_greatestOf 11 rfl) ?_
    refine ok_iconst (v := 1) (dq_of td_X4_greatestOf 12 rfl) (by decide) ?_
    refine ok_iand (dq_of td_X4_greatestOf 13 rfl) ?_
    refine ok_iconst (v := 1) (dq_of td_X4_greatestOf 14 rfl) (by decide) ?_
    refine ok_ic_ne (tgt := 46) (dq_of td_X4_greatestOf 15 rfl) (by decide) ?_ ?_
    · refine ok_jinc4 (w := 1) (dq_of td_X4_greatestOf 29 rfl) (by decide) rfl (by decide) ?_
      refine ok_goto (tgt := 8) (dq_of td_X4_greatestOf 30 rfl) (by decide) ?_
      refine ok_wk (wk_s (wk_s (wk_s (wk_s (wk_s wk_0))))) ?_
      exact hH _ _ _ _
    · refine ok_aload0 (dq_of td_X4_greatestOf 16 rfl) ?_
      refine ok_get (v := k_rr G (x0 + 7)) fl_X4_34 (by decide) (isT_kd hx0) rfl (dq_of td_X4_greatestOf 17 rfl) ?_
      refine ok_iload4 (dq_of td_X4_greatestOf 18 rfl) ?_
      refine ok_iald (isT_a7 hx0) (dq_of td_X4_greatestOf 19 rfl) ?_
      refine ok_iload3 (dq_of td_X4_greatestOf 20 rfl) ?_
      refine ok_ic_le (tgt := 46) (dq_of td_X4_greatestOf 21 rfl) (by decide) ?_ ?_
      · refine ok_jinc4 (w := 1) (dq_of td_X4_greatestOf 29 rfl) (by decide) rfl (by decide) ?_
        refine ok_goto (tgt := 8) (dq_of td_X4_greatestOf 30 rfl) (by decide) ?_
        refine ok_wk (wk_s (wk_s (wk_s (wk_s (wk_s wk_0))))) ?_
        exact hH _ _ _ _
      · refine ok_iload4 (dq_of td_X4_greatestOf 22 rfl) ?_
        refine ok_istore2 (dq_of td_X4_greatestOf 23 rfl) rfl (by decide) ?_
        refine ok_aload0 (dq_of td_X4_greatestOf 24 rfl) ?_
        refine ok_get (v := k_rr G (x0 + 7)) fl_X4_34 (by decide) (isT_kd hx0) rfl (dq_of td_X4_greatestOf 25 rfl) ?_
        refine ok_iload4 (dq_of td_X4_greatestOf 26 rfl) ?_
        refine ok_iald (isT_a7 hx0) (dq_of td_X4_greatestOf 27 rfl) ?_
        refine ok_gI (fun v1 => ?_)
        refine ok_istore3 (dq_of td_X4_greatestOf 28 rfl) rfl (by decide) ?_
        refine ok_jinc4 (w := 1) (dq_of td_X4_greatestOf 29 rfl) (by decide) rfl (by decide) ?_
        refine ok_goto (tgt := 8) (dq_of td_X4_greatestOf 30 rfl) (by decide) ?_
        refine ok_wk (wk_s (wk_s (wk_s (wk_s (wk_s wk_0))))) ?_
        exact hH _ _ _ _
theorem ld_X4_greatestOf_8 {G : KW} {l : Launch} (x0 : Nat) (x1 : Int32) (hx0 : k_tw x0) {K : Int32 → Sg → Option (Int32 × Sg)} (hK : ∀ (x2 : Int32) (σ : Sg), Okk G l cX4_greatestOf 5 RX4 (some .int) (rmo 0 0) ccI 52 [none, none, some (.int x2), none, none] [] σ (K x2 σ)) (n : Nat) (x2 : Int32) (x3 : Int32) (x4 : Int32) (σ : Sg) : Okk G l cX4_greatestOf 5 RX4 (some .int) (rmo 0 0) ccI 8 [some (k_rr G x0), some (.int x1), some (.int x2), some (.int x3), some (.int x4)] [] σ (e_lp3 (d_X4_greatestOf_8 x0 x1 K) n x2 x3 x4 σ) :=
  ok_lp3 (Lf := fun (x2 : Int32) (x3 : Int32) (x4 : Int32) => [some (k_rr G x0), some (.int x1), some (.int x2), some (.int x3), some (.int x4)]) (fun _ hH x2 x3 x4 σ => od_X4_greatestOf_8 _ _ hx0 hK hH x2 x3 x4 σ) n x2 x3 x4 σ
def m_X4_greatestOf (x0 : Nat) (x1 : Int32) (σ : Sg) : Option (Int32 × Sg) := e_lp3 (d_X4_greatestOf_8 x0 x1 (fun x2q2 σ2 => some (x2q2, σ2))) e_F ((-6)) ((-1)) 0 σ
theorem om_X4_greatestOf {G : KW} {l : Launch} (x0 : Nat) (x1 : Int32) (hx0 : k_tw x0) (σ : Sg) : Okk G l cX4_greatestOf 5 RX4 (some .int) (rmo 0 0) ccI 0 [some (k_rr G x0), some (.int x1), none, none, none] [] σ (m_X4_greatestOf x0 x1 σ) := by
  unfold m_X4_greatestOf
  refine ok_bipush (v := (-6)) (dq_of td_X4_greatestOf 0 rfl) (by decide) ?_
  refine ok_istore2 (dq_of td_X4_greatestOf 1 rfl) rfl (by decide) ?_
  refine ok_iconst (v := (-1)) (dq_of td_X4_greatestOf 2 rfl) (by decide) ?_
  refine ok_istore3 (dq_of td_X4_greatestOf 3 rfl) rfl (by decide) ?_
  refine ok_iconst (v := 0) (dq_of td_X4_greatestOf 4 rfl) (by decide) ?_
  refine ok_istore4 (dq_of td_X4_greatestOf 5 rfl) rfl (by decide) ?_
  refine ok_wk (wk_s (wk_s (wk_s (wk_s (wk_s wk_0))))) ?_
  refine ld_X4_greatestOf_8 _ _ hx0 (fun x2q2 σ2 => ?_) _ _ _ _ _
  refine ok_iload2 (dq_of td_X4_greatestOf 31 rfl) ?_
  exact ok_iret (dq_of td_X4_greatestOf 32 rfl)
theorem ct_X4_greatestOf {G : KW} {l : Launch} (x0 : Nat) (x1 : Int32) (hx0 : k_tw x0) (σ : Sg) : ∀ b, m_X4_greatestOf x0 x1 σ = some b → MetF G l yX4_greatestOf cX4_greatestOf 5 (some .int) 0 0 [k_rr G x0, .int x1] (k_wl G σ) (ccI b).1 (k_wl G (ccI b).2) :=
  met_of (by decide) (Nat.le_of_ble_eq_true rfl) rfl (om_X4_greatestOf _ _ hx0 σ)
theorem call_X4_greatestOf {G : KW} {l : Launch} {cc : ByteArray} {nL : Nat} {own : String} {rt : Option FieldType} {R : Room} {α : Type} {X : State → Array Value → Method → Prop} {Z : α → List Frame → Array Value → State → State → Prop} {k0 n0 pc index : Nat} {L : List (Option Value)} {S : List Value} {σ : Sg} {F : Int32 → Sg → Option α} {x0 : Nat} {x1 : Int32} (lk : MLk own index yX4_greatestOf) (hx0 : k_tw x0) (hR : R.frames ≥ 0 + 1 ∧ R.locals ≥ 8 + (5 + 11) + 0) (hcs : k0 ≤ R.cells ∧ n0 ≤ R.slots) (hro : (S.map fun v => v.category).sum ≤ 8) (d : decode cc pc = .ok (.invokevirtual index, 3)) (kk : ∀ (r : Int32) (σ' : Sg), Okg G l cc nL own rt R X Z k0 n0 (pc + 3) L (.int r :: S) σ' (F r σ')) : Okg G l cc nL own rt R X Z k0 n0 pc L (.int x1 :: k_rr G x0 :: S) σ (e_cI (m_X4_greatestOf x0 x1 σ) F) :=
  ok_cV (cb := ccI) (As := [.int x1]) (ct_X4_greatestOf _ _ hx0 σ) mo_X4_greatestOf hi_X4_greatestOf lk rfl (ci := 4) rfl rfl (by decide) (isT_kd hx0) hR rfl hcs hro d (fun b => kk b.1 b.2)
/-! CoatDinner$Town.worthOfLeague(I)I -/
def d_X4_worthOfLeague_7 (x0 : Nat) (x1 : Int32) (K : Int32 → Int32 → Sg → Option (Int32 × Sg)) (H : Int32 → Int32 → Int32 → Sg → Option (Int32 × Sg)) (x2 : Int32) (x3 : Int32) (x4 : Int32) (σ : Sg) : Option (Int32 × Sg) := (if 5 ≤ x4 then K x2 x3 σ else e_cI (m_X4_hasCoat x0 x4 σ) (fun r2 σ1 => (if r2 = 0 then H x2 x3 (x4 + 1) σ1 else e_gd (k_in x4 5) ((if ((jsr x1 (σ1 (x0 + 8) (Int32.toNatClampNeg x4))) &&& 1) = 1 then e_lt (x3 ||| (jsl 1 x4)) (fun v3 => H x2 v3 (x4 + 1) σ1) else H x2 x3 (x4 + 1) σ1)))))
def d_X4_worthOfLeague_53 (x0 : Nat) (x1 : Int32) (K : Int32 → Sg → Option (Int32 × Sg)) (H : Int32 → Int32 → Int32 → Sg → Option (Int32 × Sg)) (x2 : Int32) (x3 : Int32) (x4 : Int32) (σ : Sg) : Option (Int32 × Sg) := e_cI (m_J6_bitCount_0f7a4 x1 σ) (fun r6 σ5 => (if r6 ≤ x4 then K x2 σ5 else (if 5 ≤ x4 then K x2 σ5 else e_cI (m_X4_greatestOf x0 x3 σ5) (fun r8 σ7 => e_cI (m_X4_hasCoat x0 r8 σ7) (fun r10 σ9 => (if r10 = 0 then H x2 x3 (x4 + 1) σ9 else e_gd (k_in r8 5) (e_lt (x2 + (σ9 (x0 + 7) (Int32.toNatClampNeg r8))) (fun v11 => e_lt (x3 &&& ((jsl 1 r8) ^^^ ((-1)))) (fun v12 => H v11 v12 (x4 + 1) σ9)))))))))
theorem od_X4_worthOfLeague_7 {G : KW} {l : Launch} (x0 : Nat) (x1 : Int32) (hx0 : k_tw x0) {K : Int32 → Int32 → Sg → Option (Int32 × Sg)} {H : Int32 → Int32 → Int32 → Sg → Option (Int32 × Sg)} (hK : ∀ (x2 : Int32) (x3 : Int32) (σ : Sg), Okk G l cX4_worthOfLeague 6 RX4 (some .int) (rmo 1 24) ccI 50 [some (k_rr G x0), some (.int x1), some (.int x2), some (.int x3), none, none] [] σ (K x2 x3 σ)) (hH : ∀ (x2 : Int32) (x3 : Int32) (x4 : Int32) (σ : Sg), Okk G l cX4_worthOfLeague 6 RX4 (some .int) (rmo 1 24) ccI 7 [some (k_rr G x0), some (.int x1), some (.int x2), some (.int x3), some (.int x4), none] [] σ (H x2 x3 x4 σ)) (x2 : Int32) (x3 : Int32) (x4 : Int32)  (σ : Sg) : Okk G l cX4_worthOfLeague 6 RX4 (some .int) (rmo 1 24) ccI 7 [some (k_rr G x0), some (.int x1), some (.int x2), some (.int x3), some (.int x4), none] [] σ (d_X4_worthOfLeague_7 x0 x1 K H x2 x3 x4 σ) := by
  unfold d_X4_worthOfLeague_7
  refine ok_iload4 (dq_of td_X4_worthOfLeague 6 rfl) ?_
  refine ok_iconst (v := 5) (dq_of td_X4_worthOfLeague 7 rfl) (by decide) ?_
  refine ok_ic_ge (tgt := 50) (dq_of td_X4_worthOfLeague 8 rfl) (by decide) ?_ ?_
  · refine ok_wk (wk_s (wk_s (wk_s (wk_s (wk_n (wk_n wk_0)))))) ?_
    exact hK _ _ _
  · refine ok_aload0 (dq_of td_X4_worthOfLeague 9 rfl) ?_
    refine ok_iload4 (dq_of td_X4_worthOfLeague 10 rfl) ?_
    refine call_X4_hasCoat ml_X4_72 hx0 ⟨Nat.le_of_ble_eq_true rfl, Nat.le_of_ble_eq_true rfl⟩ ⟨Nat.zero_le _, Nat.zero_le _⟩ (Nat.le_of_ble_eq_true rfl) (dq_of td_X4_worthOfLeague 11 rfl) (fun r2 σ1 => ?_)
    refine ok_if_eq (tgt := 44) (dq_of td_X4_worthOfLeague 12 rfl) (by decide) ?_ ?_
    · refine ok_jinc4 (w := 1) (dq_of td_X4_worthOfLeague 29 rfl) (by decide) rfl (by decide) ?_
      refine ok_goto (tgt := 7) (dq_of td_X4_worthOfLeague 30 rfl) (by decide) ?_
      refine ok_wk (wk_s (wk_s (wk_s (wk_s (wk_s (wk_n wk_0)))))) ?_
      exact hH _ _ _ _
    · refine ok_iload1 (dq_of td_X4_worthOfLeague 13 rfl) ?_
      refine ok_aload0 (dq_of td_X4_worthOfLeague 14 rfl) ?_
      refine ok_get (v := k_rr G (x0 + 8)) fl_X4_37 (by decide) (isT_kd hx0) rfl (dq_of td_X4_worthOfLeague 15 rfl) ?_
      refine ok_iload4 (dq_of td_X4_worthOfLeague 16 rfl) ?_
      refine ok_iald (isT_a8 hx0) (dq_of td_X4_worthOfLeague 17 rfl) ?_
      refine ok_ishr (dq_of td_X4_worthOfLeague 18 rfl) ?_
      refine ok_iconst (v := 1) (dq_of td_X4_worthOfLeague 19 rfl) (by decide) ?_
      refine ok_iand (dq_of td_X4_worthOfLeague 20 rfl) ?_
      refine ok_iconst (v := 1) (dq_of td_X4_worthOfLeague 21 rfl) (by decide) ?_
      refine ok_ic_ne (tgt := 44) (dq_of td_X4_worthOfLeague 22 rfl) (by decide) ?_ ?_
      · refine ok_jinc4 (w := 1) (dq_of td_X4_worthOfLeague 29 rfl) (by decide) rfl (by decide) ?_
        refine ok_goto (tgt := 7) (dq_of td_X4_worthOfLeague 30 rfl) (by decide) ?_
        refine ok_wk (wk_s (wk_s (wk_s (wk_s (wk_s (wk_n wk_0)))))) ?_
        exact hH _ _ _ _
      · refine ok_iload3 (dq_of td_X4_worthOfLeague 23 rfl) ?_
        refine ok_iconst (v := 1) (dq_of td_X4_worthOfLeague 24 rfl) (by decide) ?_
        refine ok_iload4 (dq_of td_X4_worthOfLeague 25 rfl) ?_
        refine ok_ishl (dq_of td_X4_worthOfLeague 26 rfl) ?_
        refine ok_ior (dq_of td_X4_worthOfLeague 27 rfl) ?_
        refine ok_gI (fun v3 => ?_)
        refine ok_istore3 (dq_of td_X4_worthOfLeague 28 rfl) rfl (by decide) ?_
        refine ok_jinc4 (w := 1) (dq_of td_X4_worthOfLeague 29 rfl) (by decide) rfl (by decide) ?_
        refine ok_goto (tgt := 7) (dq_of td_X4_worthOfLeague 30 rfl) (by decide) ?_
        refine ok_wk (wk_s (wk_s (wk_s (wk_s (wk_s (wk_n wk_0)))))) ?_
        exact hH _ _ _ _
theorem ld_X4_worthOfLeague_7 {G : KW} {l : Launch} (x0 : Nat) (x1 : Int32) (hx0 : k_tw x0) {K : Int32 → Int32 → Sg → Option (Int32 × Sg)} (hK : ∀ (x2 : Int32) (x3 : Int32) (σ : Sg), Okk G l cX4_worthOfLeague 6 RX4 (some .int) (rmo 1 24) ccI 50 [some (k_rr G x0), some (.int x1), some (.int x2), some (.int x3), none, none] [] σ (K x2 x3 σ)) (n : Nat) (x2 : Int32) (x3 : Int32) (x4 : Int32) (σ : Sg) : Okk G l cX4_worthOfLeague 6 RX4 (some .int) (rmo 1 24) ccI 7 [some (k_rr G x0), some (.int x1), some (.int x2), some (.int x3), some (.int x4), none] [] σ (e_lp3 (d_X4_worthOfLeague_7 x0 x1 K) n x2 x3 x4 σ) :=
  ok_lp3 (Lf := fun (x2 : Int32) (x3 : Int32) (x4 : Int32) => [some (k_rr G x0), some (.int x1), some (.int x2), some (.int x3), some (.int x4), none]) (fun _ hH x2 x3 x4 σ => od_X4_worthOfLeague_7 _ _ hx0 hK hH x2 x3 x4 σ) n x2 x3 x4 σ
theorem od_X4_worthOfLeague_53 {G : KW} {l : Launch} (x0 : Nat) (x1 : Int32) (hx0 : k_tw x0) {K : Int32 → Sg → Option (Int32 × Sg)} {H : Int32 → Int32 → Int32 → Sg → Option (Int32 × Sg)} (hK : ∀ (x2 : Int32) (σ : Sg), Okk G l cX4_worthOfLeague 6 RX4 (some .int) (rmo 1 24) ccI 109 [none, none, some (.int x2), none, none, none] [] σ (K x2 σ)) (hH : ∀ (x2 : Int32) (x3 : Int32) (x4 : Int32) (σ : Sg), Okk G l cX4_worthOfLeague 6 RX4 (some .int) (rmo 1 24) ccI 53 [some (k_rr G x0), some (.int x1), some (.int x2), some (.int x3), some (.int x4), none] [] σ (H x2 x3 x4 σ)) (x2 : Int32) (x3 : Int32) (x4 : Int32)  (σ : Sg) : Okk G l cX4_worthOfLeague 6 RX4 (some .int) (rmo 1 24) ccI 53 [some (k_rr G x0), some (.int x1), some (.int x2), some (.int x3), some (.int x4), none] [] σ (d_X4_worthOfLeague_53 x0 x1 K H x2 x3 x4 σ) := by
  unfold d_X4_worthOfLeague_53
  refine ok_iload4 (dq_of td_X4_worthOfLeague 33 rfl) ?_
  refine ok_iload1 (dq_of td_X4_worthOfLeague 34 rfl) ?_
  refine call_J6_bitCount_0f7a4 ml_X4_92  ⟨Nat.le_of_ble_eq_true rfl, Nat.le_of_ble_eq_true rfl⟩ ⟨Nat.zero_le _, Nat.zero_le _⟩ (Nat.le_of_ble_eq_true rfl) (dq_of td_X4_worthOfLeague 35 rfl) (fun r6 σ5 => ?_)
  refine ok_ic_ge (tgt := 109) (dq_of td_X4_worthOfLeague 36 rfl) (by decide) ?_ ?_
  · refine ok_wk (wk_n (wk_n (wk_s (wk_n (wk_n (wk_n wk_0)))))) ?_
    exact hK _ _
  · refine ok_iload4 (dq_of td_X4_worthOfLeague 37 rfl) ?_
    refine ok_iconst (v := 5) (dq_of td_X4_worthOfLeague 38 rfl) (by decide) ?_
    refine ok_ic_ge (tgt := 109) (dq_of td_X4_worthOfLeague 39 rfl) (by decide) ?_ ?_
    · refine ok_wk (wk_n (wk_n (wk_s (wk_n (wk_n (wk_n wk_0)))))) ?_
      exact hK _ _
    · refine ok_aload0 (dq_of td_X4_worthOfLeague 40 rfl) ?_
      refine ok_iload3 (dq_of td_X4_worthOfLeague 41 rfl) ?_
      refine call_X4_greatestOf ml_X4_130 hx0 ⟨Nat.le_of_ble_eq_true rfl, Nat.le_of_ble_eq_true rfl⟩ ⟨Nat.zero_le _, Nat.zero_le _⟩ (Nat.le_of_ble_eq_true rfl) (dq_of td_X4_worthOfLeague 42 rfl) (fun r8 σ7 => ?_)
      refine ok_istore5 (dq_of td_X4_worthOfLeague 43 rfl) rfl (by decide) ?_
      refine ok_aload0 (dq_of td_X4_worthOfLeague 44 rfl) ?_
      refine ok_iload5 (dq_of td_X4_worthOfLeague 45 rfl) ?_
      refine call_X4_hasCoat ml_X4_72 hx0 ⟨Nat.le_of_ble_eq_true rfl, Nat.le_of_ble_eq_true rfl⟩ ⟨Nat.zero_le _, Nat.zero_le _⟩ (Nat.le_of_ble_eq_true rfl) (dq_of td_X4_worthOfLeague 46 rfl) (fun r10 σ9 => ?_)
      refine ok_if_eq (tgt := 103) (dq_of td_X4_worthOfLeague 47 rfl) (by decide) ?_ ?_
      · refine ok_jinc4 (w := 1) (dq_of td_X4_worthOfLeague 63 rfl) (by decide) rfl (by decide) ?_
        refine ok_goto (tgt := 53) (dq_of td_X4_worthOfLeague 64 rfl) (by decide) ?_
        refine ok_wk (wk_s (wk_s (wk_s (wk_s (wk_s (wk_n wk_0)))))) ?_
        exact hH _ _ _ _
      · refine ok_iload2 (dq_of td_X4_worthOfLeague 48 rfl) ?_
        refine ok_aload0 (dq_of td_X4_worthOfLeague 49 rfl) ?_
        refine ok_get (v := k_rr G (x0 + 7)) fl_X4_34 (by decide) (isT_kd hx0) rfl (dq_of td_X4_worthOfLeague 50 rfl) ?_
        refine ok_iload5 (dq_of td_X4_worthOfLeague 51 rfl) ?_
        refine ok_iald (isT_a7 hx0) (dq_of td_X4_worthOfLeague 52 rfl) ?_
        refine ok_iadd (dq_of td_X4_worthOfLeague 53 rfl) ?_
        refine ok_gI (fun v11 => ?_)
        refine ok_istore2 (dq_of td_X4_worthOfLeague 54 rfl) rfl (by decide) ?_
        refine ok_iload3 (dq_of td_X4_worthOfLeague 55 rfl) ?_
        refine ok_iconst (v := 1) (dq_of td_X4_worthOfLeague 56 rfl) (by decide) ?_
        refine ok_iload5 (dq_of td_X4_worthOfLeague 57 rfl) ?_
        refine ok_ishl (dq_of td_X4_worthOfLeague 58 rfl) ?_
        refine ok_iconst (v := (-1)) (dq_of td_X4_worthOfLeague 59 rfl) (by decide) ?_
        refine ok_ixor (dq_of td_X4_worthOfLeague 60 rfl) ?_
        refine ok_iand (dq_of td_X4_worthOfLeague 61 rfl) ?_
        refine ok_gI (fun v12 => ?_)
        refine ok_istore3 (dq_of td_X4_worthOfLeague 62 rfl) rfl (by decide) ?_
        refine ok_jinc4 (w := 1) (dq_of td_X4_worthOfLeague 63 rfl) (by decide) rfl (by decide) ?_
        refine ok_goto (tgt := 53) (dq_of td_X4_worthOfLeague 64 rfl) (by decide) ?_
        refine ok_wk (wk_s (wk_s (wk_s (wk_s (wk_s (wk_n wk_0)))))) ?_
        exact hH _ _ _ _
theorem ld_X4_worthOfLeague_53 {G : KW} {l : Launch} (x0 : Nat) (x1 : Int32) (hx0 : k_tw x0) {K : Int32 → Sg → Option (Int32 × Sg)} (hK : ∀ (x2 : Int32) (σ : Sg), Okk G l cX4_worthOfLeague 6 RX4 (some .int) (rmo 1 24) ccI 109 [none, none, some (.int x2), none, none, none] [] σ (K x2 σ)) (n : Nat) (x2 : Int32) (x3 : Int32) (x4 : Int32) (σ : Sg) : Okk G l cX4_worthOfLeague 6 RX4 (some .int) (rmo 1 24) ccI 53 [some (k_rr G x0), some (.int x1), some (.int x2), some (.int x3), some (.int x4), none] [] σ (e_lp3 (d_X4_worthOfLeague_53 x0 x1 K) n x2 x3 x4 σ) :=
  ok_lp3 (Lf := fun (x2 : Int32) (x3 : Int32) (x4 : Int32) => [some (k_rr G x0), some (.int x1), some (.int x2), some (.int x3), some (.int x4), none]) (fun _ hH x2 x3 x4 σ => od_X4_worthOfLeague_53 _ _ hx0 hK hH x2 x3 x4 σ) n x2 x3 x4 σ
def m_X4_worthOfLeague (x0 : Nat) (x1 : Int32) (σ : Sg) : Option (Int32 × Sg) := e_lp3 (d_X4_worthOfLeague_7 x0 x1 (fun x2q4 x3q4 σ4 => e_lp3 (d_X4_worthOfLeague_53 x0 x1 (fun x2q13 σ13 => some (x2q13, σ13))) e_F x2q4 x3q4 0 σ4)) e_F 0 0 0 σ
theorem om_X4_worthOfLeague {G : KW} {l : Launch} (x0 : Nat) (x1 : Int32) (hx0 : k_tw x0) (σ : Sg) : Okk G l cX4_worthOfLeague 6 RX4 (some .int) (rmo 1 24) ccI 0 [some (k_rr G x0), some (.int x1), none, none, none, none] [] σ (m_X4_worthOfLeague x0 x1 σ) := by
  unfold m_X4_worthOfLeague
  refine ok_iconst (v := 0) (dq_of td_X4_worthOfLeague 0 rfl) (by decide) ?_
  refine ok_istore2 (dq_of td_X4_worthOfLeague 1 rfl) rfl (by decide) ?_
  refine ok_iconst (v := 0) (dq_of td_X4_worthOfLeague 2 rfl) (by decide) ?_
  refine ok_istore3 (dq_of td_X4_worthOfLeague 3 rfl) rfl (by decide) ?_
  refine ok_iconst (v := 0) (dq_of td_X4_worthOfLeague 4 rfl) (by decide) ?_
  refine ok_istore4 (dq_of td_X4_worthOfLeague 5 rfl) rfl (by decide) ?_
  refine ok_wk (wk_s (wk_s (wk_s (wk_s (wk_s (wk_n wk_0)))))) ?_
  refine ld_X4_worthOfLeague_7 _ _ hx0 (fun x2q4 x3q4 σ4 => ?_) _ _ _ _ _
  refine ok_iconst (v := 0) (dq_of td_X4_worthOfLeague 31 rfl) (by decide) ?_
  refine ok_istore4 (dq_of td_X4_worthOfLeague 32 rfl) rfl (by decide) ?_
  refine ok_wk (wk_s (wk_s (wk_s (wk_s (wk_s (wk_n wk_0)))))) ?_
  refine ld_X4_worthOfLeague_53 _ _ hx0 (fun x2q13 σ13 => ?_) _ _ _ _ _
  refine ok_iload2 (dq_of td_X4_worthOfLeague 65 rfl) ?_
  exact ok_iret (dq_of td_X4_worthOfLeague 66 rfl)
theorem ct_X4_worthOfLeague {G : KW} {l : Launch} (x0 : Nat) (x1 : Int32) (hx0 : k_tw x0) (σ : Sg) : ∀ b, m_X4_worthOfLeague x0 x1 σ = some b → MetF G l yX4_worthOfLeague cX4_worthOfLeague 6 (some .int) 1 24 [k_rr G x0, .int x1] (k_wl G σ) (ccI b).1 (k_wl G (ccI b).2) :=
  met_of (by decide) (Nat.le_of_ble_eq_true rfl) rfl (om_X4_worthOfLeague _ _ hx0 σ)
theorem call_X4_worthOfLeague {G : KW} {l : Launch} {cc : ByteArray} {nL : Nat} {own : String} {rt : Option FieldType} {R : Room} {α : Type} {X : State → Array Value → Method → Prop} {Z : α → List Frame → Array Value → State → State → Prop} {k0 n0 pc index : Nat} {L : List (Option Value)} {S : List Value} {σ : Sg} {F : Int32 → Sg → Option α} {x0 : Nat} {x1 : Int32} (lk : MLk own index yX4_worthOfLeague) (hx0 : k_tw x0) (hR : R.frames ≥ 1 + 1 ∧ R.locals ≥ 8 + (6 + 11) + 24) (hcs : k0 ≤ R.cells ∧ n0 ≤ R.slots) (hro : (S.map fun v => v.category).sum ≤ 8) (d : decode cc pc = .ok (.invokevirtual index, 3)) (kk : ∀ (r : Int32) (σ' : Sg), Okg G l cc nL own rt R X Z k0 n0 (pc + 3) L (.int r :: S) σ' (F r σ')) : Okg G l cc nL own rt R X Z k0 n0 pc L (.int x1 :: k_rr G x0 :: S) σ (e_cI (m_X4_worthOfLeague x0 x1 σ) F) :=
  ok_cV (cb := ccI) (As := [.int x1]) (ct_X4_worthOfLeague _ _ hx0 σ) mo_X4_worthOfLeague hi_X4_worthOfLeague lk rfl (ci := 4) rfl rfl (by decide) (isT_kd hx0) hR rfl hcs hro d (fun b => kk b.1 b.2)
/-! CoatDinner$Town.giftsOfLeague(I)I -/
def d_X4_giftsOfLeague_4 (x0 : Nat) (x1 : Int32) (K : Int32 → Sg → Option (Int32 × Sg)) (H : Int32 → Int32 → Sg → Option (Int32 × Sg)) (x2 : Int32) (x3 : Int32) (σ : Sg) : Option (Int32 × Sg) := (if 5 ≤ x3 then K x2 σ else (if ((jsr x1 x3) &&& 1) = 1 then e_gd (k_in x3 5) (e_lt (x2 + (σ (x0 + 5) (Int32.toNatClampNeg x3))) (fun v1 => H v1 (x3 + 1) σ)) else H x2 (x3 + 1) σ))
theorem od_X4_giftsOfLeague_4 {G : KW} {l : Launch} (x0 : Nat) (x1 : Int32) (hx0 : k_tw x0) {K : Int32 → Sg → Option (Int32 × Sg)} {H : Int32 → Int32 → Sg → Option (Int32 × Sg)} (hK : ∀ (x2 : Int32) (σ : Sg), Okk G l cX4_giftsOfLeague 4 RX4 (some .int) (rmo 0 0) ccI 33 [none, none, some (.int x2), none] [] σ (K x2 σ)) (hH : ∀ (x2 : Int32) (x3 : Int32) (σ : Sg), Okk G l cX4_giftsOfLeague 4 RX4 (some .int) (rmo 0 0) ccI 4 [some (k_rr G x0), some (.int x1), some (.int x2), some (.int x3)] [] σ (H x2 x3 σ)) (x2 : Int32) (x3 : Int32)  (σ : Sg) : Okk G l cX4_giftsOfLeague 4 RX4 (some .int) (rmo 0 0) ccI 4 [some (k_rr G x0), some (.int x1), some (.int x2), some (.int x3)] [] σ (d_X4_giftsOfLeague_4 x0 x1 K H x2 x3 σ) := by
  unfold d_X4_giftsOfLeague_4
  refine ok_iload3 (dq_of td_X4_giftsOfLeague 4 rfl) ?_
  refine ok_iconst (v := 5) (dq_of td_X4_giftsOfLeague 5 rfl) (by decide) ?_
  refine ok_ic_ge (tgt := 33) (dq_of td_X4_giftsOfLeague 6 rfl) (by decide) ?_ ?_
  · refine ok_wk (wk_n (wk_n (wk_s (wk_n wk_0)))) ?_
    exact hK _ _
  · refine ok_iload1 (dq_of td_X4_giftsOfLeague 7 rfl) ?_
    refine ok_iload3 (dq_of td_X4_giftsOfLeague 8 rfl) ?_
    refine ok_ishr (dq_of td_X4_giftsOfLeague 9 rfl) ?_
    refine ok_iconst (v := 1) (dq_of td_X4_giftsOfLeague 10 rfl) (by decide) ?_
    refine ok_iand (dq_of td_X4_giftsOfLeague 11 rfl) ?_
    refine ok_iconst (v := 1) (dq_of td_X4_giftsOfLeague 12 rfl) (by decide) ?_
    refine ok_ic_ne (tgt := 27) (dq_of td_X4_giftsOfLeague 13 rfl) (by decide) ?_ ?_
    · refine ok_jinc3 (w := 1) (dq_of td_X4_giftsOfLeague 21 rfl) (by decide) rfl (by decide) ?_
      refine ok_goto (tgt := 4) (dq_of td_X4_giftsOfLeague 22 rfl) (by decide) ?_
      refine ok_wk (wk_s (wk_s (wk_s (wk_s wk_0)))) ?_
      exact hH _ _ _
    · refine ok_iload2 (dq_of td_X4_giftsOfLeague 14 rfl) ?_
      refine ok_aload0 (dq_of td_X4_giftsOfLeague 15 rfl) ?_
      refine ok_get (v := k_rr G (x0 + 5)) fl_X4_28 (by decide) (isT_kd hx0) rfl (dq_of td_X4_giftsOfLeague 16 rfl) ?_
      refine ok_iload3 (dq_of td_X4_giftsOfLeague 17 rfl) ?_
      refine ok_iald (isT_a5 hx0) (dq_of td_X4_giftsOfLeague 18 rfl) ?_
      refine ok_iadd (dq_of td_X4_giftsOfLeague 19 rfl) ?_
      refine ok_gI (fun v1 => ?_)
      refine ok_istore2 (dq_of td_X4_giftsOfLeague 20 rfl) rfl (by decide) ?_
      refine ok_jinc3 (w := 1) (dq_of td_X4_giftsOfLeague 21 rfl) (by decide) rfl (by decide) ?_
      refine ok_goto (tgt := 4) (dq_of td_X4_giftsOfLeague 22 rfl) (by decide) ?_
      refine ok_wk (wk_s (wk_s (wk_s (wk_s wk_0)))) ?_
      exact hH _ _ _
theorem ld_X4_giftsOfLeague_4 {G : KW} {l : Launch} (x0 : Nat) (x1 : Int32) (hx0 : k_tw x0) {K : Int32 → Sg → Option (Int32 × Sg)} (hK : ∀ (x2 : Int32) (σ : Sg), Okk G l cX4_giftsOfLeague 4 RX4 (some .int) (rmo 0 0) ccI 33 [none, none, some (.int x2), none] [] σ (K x2 σ)) (n : Nat) (x2 : Int32) (x3 : Int32) (σ : Sg) : Okk G l cX4_giftsOfLeague 4 RX4 (some .int) (rmo 0 0) ccI 4 [some (k_rr G x0), some (.int x1), some (.int x2), some (.int x3)] [] σ (e_lp2 (d_X4_giftsOfLeague_4 x0 x1 K) n x2 x3 σ) :=
  ok_lp2 (Lf := fun (x2 : Int32) (x3 : Int32) => [some (k_rr G x0), some (.int x1), some (.int x2), some (.int x3)]) (fun _ hH x2 x3 σ => od_X4_giftsOfLeague_4 _ _ hx0 hK hH x2 x3 σ) n x2 x3 σ
def m_X4_giftsOfLeague (x0 : Nat) (x1 : Int32) (σ : Sg) : Option (Int32 × Sg) := e_lp2 (d_X4_giftsOfLeague_4 x0 x1 (fun x2q2 σ2 => some (x2q2, σ2))) e_F 0 0 σ
theorem om_X4_giftsOfLeague {G : KW} {l : Launch} (x0 : Nat) (x1 : Int32) (hx0 : k_tw x0) (σ : Sg) : Okk G l cX4_giftsOfLeague 4 RX4 (some .int) (rmo 0 0) ccI 0 [some (k_rr G x0), some (.int x1), none, none] [] σ (m_X4_giftsOfLeague x0 x1 σ) := by
  unfold m_X4_giftsOfLeague
  refine ok_iconst (v := 0) (dq_of td_X4_giftsOfLeague 0 rfl) (by decide) ?_
  refine ok_istore2 (dq_of td_X4_giftsOfLeague 1 rfl) rfl (by decide) ?_
  refine ok_iconst (v := 0) (dq_of td_X4_giftsOfLeague 2 rfl) (by decide) ?_
  refine ok_istore3 (dq_of td_X4_giftsOfLeague 3 rfl) rfl (by decide) ?_
  refine ok_wk (wk_s (wk_s (wk_s (wk_s wk_0)))) ?_
  refine ld_X4_giftsOfLeague_4 _ _ hx0 (fun x2q2 σ2 => ?_) _ _ _ _
  refine ok_iload2 (dq_of td_X4_giftsOfLeague 23 rfl) ?_
  exact ok_iret (dq_of td_X4_giftsOfLeague 24 rfl)
theorem ct_X4_giftsOfLeague {G : KW} {l : Launch} (x0 : Nat) (x1 : Int32) (hx0 : k_tw x0) (σ : Sg) : ∀ b, m_X4_giftsOfLeague x0 x1 σ = some b → MetF G l yX4_giftsOfLeague cX4_giftsOfLeague 4 (some .int) 0 0 [k_rr G x0, .int x1] (k_wl G σ) (ccI b).1 (k_wl G (ccI b).2) :=
  met_of (by decide) (Nat.le_of_ble_eq_true rfl) rfl (om_X4_giftsOfLeague _ _ hx0 σ)
theorem call_X4_giftsOfLeague {G : KW} {l : Launch} {cc : ByteArray} {nL : Nat} {own : String} {rt : Option FieldType} {R : Room} {α : Type} {X : State → Array Value → Method → Prop} {Z : α → List Frame → Array Value → State → State → Prop} {k0 n0 pc index : Nat} {L : List (Option Value)} {S : List Value} {σ : Sg} {F : Int32 → Sg → Option α} {x0 : Nat} {x1 : Int32} (lk : MLk own index yX4_giftsOfLeague) (hx0 : k_tw x0) (hR : R.frames ≥ 0 + 1 ∧ R.locals ≥ 8 + (4 + 11) + 0) (hcs : k0 ≤ R.cells ∧ n0 ≤ R.slots) (hro : (S.map fun v => v.category).sum ≤ 8) (d : decode cc pc = .ok (.invokevirtual index, 3)) (kk : ∀ (r : Int32) (σ' : Sg), Okg G l cc nL own rt R X Z k0 n0 (pc + 3) L (.int r :: S) σ' (F r σ')) : Okg G l cc nL own rt R X Z k0 n0 pc L (.int x1 :: k_rr G x0 :: S) σ (e_cI (m_X4_giftsOfLeague x0 x1 σ) F) :=
  ok_cV (cb := ccI) (As := [.int x1]) (ct_X4_giftsOfLeague _ _ hx0 σ) mo_X4_giftsOfLeague hi_X4_giftsOfLeague lk rfl (ci := 4) rfl rfl (by decide) (isT_kd hx0) hR rfl hcs hro d (fun b => kk b.1 b.2)
/-! CoatDinner$Town.addSight(II)Z -/
def m_X4_addSight (x0 : Nat) (x1 : Int32) (x2 : Int32) (σ : Sg) : Option (Int32 × Sg) := e_cI (m_X6_within (σ x0 3) 5 σ) (fun r2 σ1 => (if r2 = 0 then e_rz 0 σ1 else e_wr σ1 (x0 + 12) (σ1 x0 3) 6 x1 (fun σ3 => e_wr σ3 (x0 + 13) (σ3 x0 3) 6 x2 (fun σ4 => e_lt (k_up σ4 x0 3 ((σ4 x0 3) + 1)) (fun σ5 => e_rz 1 σ5)))))
theorem om_X4_addSight {G : KW} {l : Launch} (x0 : Nat) (x1 : Int32) (x2 : Int32) (hx0 : k_tw x0) (σ : Sg) : Okk G l cX4_addSight 3 RX4 (some .boolean) (rmo 1 21) ccI 0 [some (k_rr G x0), some (.int x1), some (.int x2)] [] σ (m_X4_addSight x0 x1 x2 σ) := by
  unfold m_X4_addSight
  refine ok_aload0 (dq_of td_X4_addSight 0 rfl) ?_
  refine ok_get (v := .int (σ x0 3)) fl_X4_61 (by decide) (isT_kd hx0) rfl (dq_of td_X4_addSight 1 rfl) ?_
  refine ok_iconst (v := 5) (dq_of td_X4_addSight 2 rfl) (by decide) ?_
  refine call_X6_within ml_X4_64  ⟨Nat.le_of_ble_eq_true rfl, Nat.le_of_ble_eq_true rfl⟩ ⟨Nat.zero_le _, Nat.zero_le _⟩ (Nat.le_of_ble_eq_true rfl) (dq_of td_X4_addSight 3 rfl) (fun r2 σ1 => ?_)
  refine ok_if_ne (tgt := 13) (dq_of td_X4_addSight 4 rfl) (by decide) ?_ ?_
  · refine ok_aload0 (dq_of td_X4_addSight 7 rfl) ?_
    refine ok_get (v := k_rr G (x0 + 12)) fl_X4_49 (by decide) (isT_kd hx0) rfl (dq_of td_X4_addSight 8 rfl) ?_
    refine ok_aload0 (dq_of td_X4_addSight 9 rfl) ?_
    refine ok_get (v := .int (σ1 x0 3)) fl_X4_61 (by decide) (isT_kd hx0) rfl (dq_of td_X4_addSight 10 rfl) ?_
    refine ok_iload1 (dq_of td_X4_addSight 11 rfl) ?_
    refine ok_iast (isT_a12 hx0) (dq_of td_X4_addSight 12 rfl) (fun σ3 => ?_)
    refine ok_aload0 (dq_of td_X4_addSight 13 rfl) ?_
    refine ok_get (v := k_rr G (x0 + 13)) fl_X4_52 (by decide) (isT_kd hx0) rfl (dq_of td_X4_addSight 14 rfl) ?_
    refine ok_aload0 (dq_of td_X4_addSight 15 rfl) ?_
    refine ok_get (v := .int (σ3 x0 3)) fl_X4_61 (by decide) (isT_kd hx0) rfl (dq_of td_X4_addSight 16 rfl) ?_
    refine ok_iload2 (dq_of td_X4_addSight 17 rfl) ?_
    refine ok_iast (isT_a13 hx0) (dq_of td_X4_addSight 18 rfl) (fun σ4 => ?_)
    refine ok_aload0 (dq_of td_X4_addSight 19 rfl) ?_
    refine ok_dup (dq_of td_X4_addSight 20 rfl) rfl ?_
    refine ok_get (v := .int (σ4 x0 3)) fl_X4_61 (by decide) (isT_kd hx0) rfl (dq_of td_X4_addSight 21 rfl) ?_
    refine ok_iconst (v := 1) (dq_of td_X4_addSight 22 rfl) (by decide) ?_
    refine ok_iadd (dq_of td_X4_addSight 23 rfl) ?_
    refine put_4_3 fl_X4_61 (isT_kd hx0) (dq_of td_X4_addSight 24 rfl) (fun σ5 => ?_)
    refine ok_iconst (v := 1) (dq_of td_X4_addSight 25 rfl) (by decide) ?_
    exact ok_zret (dq_of td_X4_addSight 26 rfl)
  · refine ok_iconst (v := 0) (dq_of td_X4_addSight 5 rfl) (by decide) ?_
    exact ok_zret (dq_of td_X4_addSight 6 rfl)
theorem ct_X4_addSight {G : KW} {l : Launch} (x0 : Nat) (x1 : Int32) (x2 : Int32) (hx0 : k_tw x0) (σ : Sg) : ∀ b, m_X4_addSight x0 x1 x2 σ = some b → MetF G l yX4_addSight cX4_addSight 3 (some .boolean) 1 21 [k_rr G x0, .int x1, .int x2] (k_wl G σ) (ccI b).1 (k_wl G (ccI b).2) :=
  met_of (by decide) (Nat.le_of_ble_eq_true rfl) rfl (om_X4_addSight _ _ _ hx0 σ)
theorem call_X4_addSight {G : KW} {l : Launch} {cc : ByteArray} {nL : Nat} {own : String} {rt : Option FieldType} {R : Room} {α : Type} {X : State → Array Value → Method → Prop} {Z : α → List Frame → Array Value → State → State → Prop} {k0 n0 pc index : Nat} {L : List (Option Value)} {S : List Value} {σ : Sg} {F : Int32 → Sg → Option α} {x0 : Nat} {x1 : Int32} {x2 : Int32} (lk : MLk own index yX4_addSight) (hx0 : k_tw x0) (hR : R.frames ≥ 1 + 1 ∧ R.locals ≥ 8 + (3 + 11) + 21) (hcs : k0 ≤ R.cells ∧ n0 ≤ R.slots) (hro : (S.map fun v => v.category).sum ≤ 8) (d : decode cc pc = .ok (.invokevirtual index, 3)) (kk : ∀ (r : Int32) (σ' : Sg), Okg G l cc nL own rt R X Z k0 n0 (pc + 3) L (.int r :: S) σ' (F r σ')) : Okg G l cc nL own rt R X Z k0 n0 pc L (.int x2 :: .int x1 :: k_rr G x0 :: S) σ (e_cI (m_X4_addSight x0 x1 x2 σ) F) :=
  ok_cV (cb := ccI) (As := [.int x1, .int x2]) (ct_X4_addSight _ _ _ hx0 σ) mo_X4_addSight hi_X4_addSight lk rfl (ci := 4) rfl rfl (by decide) (isT_kd hx0) hR rfl hcs hro d (fun b => kk b.1 b.2)
/-! CoatDinner$Town.allOwed()I -/
def d_X4_allOwed_4 (x0 : Nat) (K : Int32 → Sg → Option (Int32 × Sg)) (H : Int32 → Int32 → Sg → Option (Int32 × Sg)) (x1 : Int32) (x2 : Int32) (σ : Sg) : Option (Int32 × Sg) := (if 5 ≤ x2 then K x1 σ else e_cI (m_X4_hasPerson x0 x2 σ) (fun r2 σ1 => (if r2 = 0 then H x1 (x2 + 1) σ1 else e_gd (k_in x2 5) (e_lt (x1 + (σ1 (x0 + 3) (Int32.toNatClampNeg x2))) (fun v3 => H v3 (x2 + 1) σ1)))))
theorem od_X4_allOwed_4 {G : KW} {l : Launch} (x0 : Nat) (hx0 : k_tw x0) {K : Int32 → Sg → Option (Int32 × Sg)} {H : Int32 → Int32 → Sg → Option (Int32 × Sg)} (hK : ∀ (x1 : Int32) (σ : Sg), Okk G l cX4_allOwed 3 RX4 (some .int) (rmo 1 21) ccI 32 [none, some (.int x1), none] [] σ (K x1 σ)) (hH : ∀ (x1 : Int32) (x2 : Int32) (σ : Sg), Okk G l cX4_allOwed 3 RX4 (some .int) (rmo 1 21) ccI 4 [some (k_rr G x0), some (.int x1), some (.int x2)] [] σ (H x1 x2 σ)) (x1 : Int32) (x2 : Int32)  (σ : Sg) : Okk G l cX4_allOwed 3 RX4 (some .int) (rmo 1 21) ccI 4 [some (k_rr G x0), some (.int x1), some (.int x2)] [] σ (d_X4_allOwed_4 x0 K H x1 x2 σ) := by
  unfold d_X4_allOwed_4
  refine ok_iload2 (dq_of td_X4_allOwed 4 rfl) ?_
  refine ok_iconst (v := 5) (dq_of td_X4_allOwed 5 rfl) (by decide) ?_
  refine ok_ic_ge (tgt := 32) (dq_of td_X4_allOwed 6 rfl) (by decide) ?_ ?_
  · refine ok_wk (wk_n (wk_s (wk_n wk_0))) ?_
    exact hK _ _
  · refine ok_aload0 (dq_of td_X4_allOwed 7 rfl) ?_
    refine ok_iload2 (dq_of td_X4_allOwed 8 rfl) ?_
    refine call_X4_hasPerson ml_X4_68 hx0 ⟨Nat.le_of_ble_eq_true rfl, Nat.le_of_ble_eq_true rfl⟩ ⟨Nat.zero_le _, Nat.zero_le _⟩ (Nat.le_of_ble_eq_true rfl) (dq_of td_X4_allOwed 9 rfl) (fun r2 σ1 => ?_)
    refine ok_if_eq (tgt := 26) (dq_of td_X4_allOwed 10 rfl) (by decide) ?_ ?_
    · refine ok_jinc2 (w := 1) (dq_of td_X4_allOwed 18 rfl) (by decide) rfl (by decide) ?_
      refine ok_goto (tgt := 4) (dq_of td_X4_allOwed 19 rfl) (by decide) ?_
      refine ok_wk (wk_s (wk_s (wk_s wk_0))) ?_
      exact hH _ _ _
    · refine ok_iload1 (dq_of td_X4_allOwed 11 rfl) ?_
      refine ok_aload0 (dq_of td_X4_allOwed 12 rfl) ?_
      refine ok_get (v := k_rr G (x0 + 3)) fl_X4_22 (by decide) (isT_kd hx0) rfl (dq_of td_X4_allOwed 13 rfl) ?_
      refine ok_iload2 (dq_of td_X4_allOwed 14 rfl) ?_
      refine ok_iald (isT_a3 hx0) (dq_of td_X4_allOwed 15 rfl) ?_
      refine ok_iadd (dq_of td_X4_allOwed 16 rfl) ?_
      refine ok_gI (fun v3 => ?_)
      refine ok_istore1 (dq_of td_X4_allOwed 17 rfl) rfl (by decide) ?_
      refine ok_jinc2 (w := 1) (dq_of td_X4_allOwed 18 rfl) (by decide) rfl (by decide) ?_
      refine ok_goto (tgt := 4) (dq_of td_X4_allOwed 19 rfl) (by decide) ?_
      refine ok_wk (wk_s (wk_s (wk_s wk_0))) ?_
      exact hH _ _ _
theorem ld_X4_allOwed_4 {G : KW} {l : Launch} (x0 : Nat) (hx0 : k_tw x0) {K : Int32 → Sg → Option (Int32 × Sg)} (hK : ∀ (x1 : Int32) (σ : Sg), Okk G l cX4_allOwed 3 RX4 (some .int) (rmo 1 21) ccI 32 [none, some (.int x1), none] [] σ (K x1 σ)) (n : Nat) (x1 : Int32) (x2 : Int32) (σ : Sg) : Okk G l cX4_allOwed 3 RX4 (some .int) (rmo 1 21) ccI 4 [some (k_rr G x0), some (.int x1), some (.int x2)] [] σ (e_lp2 (d_X4_allOwed_4 x0 K) n x1 x2 σ) :=
  ok_lp2 (Lf := fun (x1 : Int32) (x2 : Int32) => [some (k_rr G x0), some (.int x1), some (.int x2)]) (fun _ hH x1 x2 σ => od_X4_allOwed_4 _ hx0 hK hH x1 x2 σ) n x1 x2 σ
def m_X4_allOwed (x0 : Nat) (σ : Sg) : Option (Int32 × Sg) := e_lp2 (d_X4_allOwed_4 x0 (fun x1q4 σ4 => some (x1q4, σ4))) e_F 0 0 σ
theorem om_X4_allOwed {G : KW} {l : Launch} (x0 : Nat) (hx0 : k_tw x0) (σ : Sg) : Okk G l cX4_allOwed 3 RX4 (some .int) (rmo 1 21) ccI 0 [some (k_rr G x0), none, none] [] σ (m_X4_allOwed x0 σ) := by
  unfold m_X4_allOwed
  refine ok_iconst (v := 0) (dq_of td_X4_allOwed 0 rfl) (by decide) ?_
  refine ok_istore1 (dq_of td_X4_allOwed 1 rfl) rfl (by decide) ?_
  refine ok_iconst (v := 0) (dq_of td_X4_allOwed 2 rfl) (by decide) ?_
  refine ok_istore2 (dq_of td_X4_allOwed 3 rfl) rfl (by decide) ?_
  refine ok_wk (wk_s (wk_s (wk_s wk_0))) ?_
  refine ld_X4_allOwed_4 _ hx0 (fun x1q4 σ4 => ?_) _ _ _ _
  refine ok_iload1 (dq_of td_X4_allOwed 20 rfl) ?_
  exact ok_iret (dq_of td_X4_allOwed 21 rfl)
theorem ct_X4_allOwed {G : KW} {l : Launch} (x0 : Nat) (hx0 : k_tw x0) (σ : Sg) : ∀ b, m_X4_allOwed x0 σ = some b → MetF G l yX4_allOwed cX4_allOwed 3 (some .int) 1 21 [k_rr G x0] (k_wl G σ) (ccI b).1 (k_wl G (ccI b).2) :=
  met_of (by decide) (Nat.le_of_ble_eq_true rfl) rfl (om_X4_allOwed _ hx0 σ)
theorem call_X4_allOwed {G : KW} {l : Launch} {cc : ByteArray} {nL : Nat} {own : String} {rt : Option FieldType} {R : Room} {α : Type} {X : State → Array Value → Method → Prop} {Z : α → List Frame → Array Value → State → State → Prop} {k0 n0 pc index : Nat} {L : List (Option Value)} {S : List Value} {σ : Sg} {F : Int32 → Sg → Option α} {x0 : Nat} (lk : MLk own index yX4_allOwed) (hx0 : k_tw x0) (hR : R.frames ≥ 1 + 1 ∧ R.locals ≥ 8 + (3 + 11) + 21) (hcs : k0 ≤ R.cells ∧ n0 ≤ R.slots) (hro : (S.map fun v => v.category).sum ≤ 8) (d : decode cc pc = .ok (.invokevirtual index, 3)) (kk : ∀ (r : Int32) (σ' : Sg), Okg G l cc nL own rt R X Z k0 n0 (pc + 3) L (.int r :: S) σ' (F r σ')) : Okg G l cc nL own rt R X Z k0 n0 pc L (k_rr G x0 :: S) σ (e_cI (m_X4_allOwed x0 σ) F) :=
  ok_cV (cb := ccI) (As := []) (ct_X4_allOwed _ hx0 σ) mo_X4_allOwed hi_X4_allOwed lk rfl (ci := 4) rfl rfl (by decide) (isT_kd hx0) hR rfl hcs hro d (fun b => kk b.1 b.2)
/-! CoatDinner$Town.allStitches()I -/
def d_X4_allStitches_4 (x0 : Nat) (K : Int32 → Sg → Option (Int32 × Sg)) (H : Int32 → Int32 → Sg → Option (Int32 × Sg)) (x1 : Int32) (x2 : Int32) (σ : Sg) : Option (Int32 × Sg) := (if 5 ≤ x2 then K x1 σ else e_cI (m_X4_hasCoat x0 x2 σ) (fun r2 σ1 => (if r2 = 0 then H x1 (x2 + 1) σ1 else e_gd (k_in x2 5) (e_lt (x1 + (σ1 (x0 + 7) (Int32.toNatClampNeg x2))) (fun v3 => H v3 (x2 + 1) σ1)))))
theorem od_X4_allStitches_4 {G : KW} {l : Launch} (x0 : Nat) (hx0 : k_tw x0) {K : Int32 → Sg → Option (Int32 × Sg)} {H : Int32 → Int32 → Sg → Option (Int32 × Sg)} (hK : ∀ (x1 : Int32) (σ : Sg), Okk G l cX4_allStitches 3 RX4 (some .int) (rmo 1 21) ccI 32 [none, some (.int x1), none] [] σ (K x1 σ)) (hH : ∀ (x1 : Int32) (x2 : Int32) (σ : Sg), Okk G l cX4_allStitches 3 RX4 (some .int) (rmo 1 21) ccI 4 [some (k_rr G x0), some (.int x1), some (.int x2)] [] σ (H x1 x2 σ)) (x1 : Int32) (x2 : Int32)  (σ : Sg) : Okk G l cX4_allStitches 3 RX4 (some .int) (rmo 1 21) ccI 4 [some (k_rr G x0), some (.int x1), some (.int x2)] [] σ (d_X4_allStitches_4 x0 K H x1 x2 σ) := by
  unfold d_X4_allStitches_4
  refine ok_iload2 (dq_of td_X4_allStitches 4 rfl) ?_
  refine ok_iconst (v := 5) (dq_of td_X4_allStitches 5 rfl) (by decide) ?_
  refine ok_ic_ge (tgt := 32) (dq_of td_X4_allStitches 6 rfl) (by decide) ?_ ?_
  · refine ok_wk (wk_n (wk_s (wk_n wk_0))) ?_
    exact hK _ _
  · refine ok_aload0 (dq_of td_X4_allStitches 7 rfl) ?_
    refine ok_iload2 (dq_of td_X4_allStitches 8 rfl) ?_
    refine call_X4_hasCoat ml_X4_72 hx0 ⟨Nat.le_of_ble_eq_true rfl, Nat.le_of_ble_eq_true rfl⟩ ⟨Nat.zero_le _, Nat.zero_le _⟩ (Nat.le_of_ble_eq_true rfl) (dq_of td_X4_allStitches 9 rfl) (fun r2 σ1 => ?_)
    refine ok_if_eq (tgt := 26) (dq_of td_X4_allStitches 10 rfl) (by decide) ?_ ?_
    · refine ok_jinc2 (w := 1) (dq_of td_X4_allStitches 18 rfl) (by decide) rfl (by decide) ?_
      refine ok_goto (tgt := 4) (dq_of td_X4_allStitches 19 rfl) (by decide) ?_
      refine ok_wk (wk_s (wk_s (wk_s wk_0))) ?_
      exact hH _ _ _
    · refine ok_iload1 (dq_of td_X4_allStitches 11 rfl) ?_
      refine ok_aload0 (dq_of td_X4_allStitches 12 rfl) ?_
      refine ok_get (v := k_rr G (x0 + 7)) fl_X4_34 (by decide) (isT_kd hx0) rfl (dq_of td_X4_allStitches 13 rfl) ?_
      refine ok_iload2 (dq_of td_X4_allStitches 14 rfl) ?_
      refine ok_iald (isT_a7 hx0) (dq_of td_X4_allStitches 15 rfl) ?_
      refine ok_iadd (dq_of td_X4_allStitches 16 rfl) ?_
      refine ok_gI (fun v3 => ?_)
      refine ok_istore1 (dq_of td_X4_allStitches 17 rfl) rfl (by decide) ?_
      refine ok_jinc2 (w := 1) (dq_of td_X4_allStitches 18 rfl) (by decide) rfl (by decide) ?_
      refine ok_goto (tgt := 4) (dq_of td_X4_allStitches 19 rfl) (by decide) ?_
      refine ok_wk (wk_s (wk_s (wk_s wk_0))) ?_
      exact hH _ _ _
theorem ld_X4_allStitches_4 {G : KW} {l : Launch} (x0 : Nat) (hx0 : k_tw x0) {K : Int32 → Sg → Option (Int32 × Sg)} (hK : ∀ (x1 : Int32) (σ : Sg), Okk G l cX4_allStitches 3 RX4 (some .int) (rmo 1 21) ccI 32 [none, some (.int x1), none] [] σ (K x1 σ)) (n : Nat) (x1 : Int32) (x2 : Int32) (σ : Sg) : Okk G l cX4_allStitches 3 RX4 (some .int) (rmo 1 21) ccI 4 [some (k_rr G x0), some (.int x1), some (.int x2)] [] σ (e_lp2 (d_X4_allStitches_4 x0 K) n x1 x2 σ) :=
  ok_lp2 (Lf := fun (x1 : Int32) (x2 : Int32) => [some (k_rr G x0), some (.int x1), some (.int x2)]) (fun _ hH x1 x2 σ => od_X4_allStitches_4 _ hx0 hK hH x1 x2 σ) n x1 x2 σ
def m_X4_allStitches (x0 : Nat) (σ : Sg) : Option (Int32 × Sg) := e_lp2 (d_X4_allStitches_4 x0 (fun x1q4 σ4 => some (x1q4, σ4))) e_F 0 0 σ
theorem om_X4_allStitches {G : KW} {l : Launch} (x0 : Nat) (hx0 : k_tw x0) (σ : Sg) : Okk G l cX4_allStitches 3 RX4 (some .int) (rmo 1 21) ccI 0 [some (k_rr G x0), none, none] [] σ (m_X4_allStitches x0 σ) := by
  unfold m_X4_allStitches
  refine ok_iconst (v := 0) (dq_of td_X4_allStitches 0 rfl) (by decide) ?_
  refine ok_istore1 (dq_of td_X4_allStitches 1 rfl) rfl (by decide) ?_
  refine ok_iconst (v := 0) (dq_of td_X4_allStitches 2 rfl) (by decide) ?_
  refine ok_istore2 (dq_of td_X4_allStitches 3 rfl) rfl (by decide) ?_
  refine ok_wk (wk_s (wk_s (wk_s wk_0))) ?_
  refine ld_X4_allStitches_4 _ hx0 (fun x1q4 σ4 => ?_) _ _ _ _
  refine ok_iload1 (dq_of td_X4_allStitches 20 rfl) ?_
  exact ok_iret (dq_of td_X4_allStitches 21 rfl)
theorem ct_X4_allStitches {G : KW} {l : Launch} (x0 : Nat) (hx0 : k_tw x0) (σ : Sg) : ∀ b, m_X4_allStitches x0 σ = some b → MetF G l yX4_allStitches cX4_allStitches 3 (some .int) 1 21 [k_rr G x0] (k_wl G σ) (ccI b).1 (k_wl G (ccI b).2) :=
  met_of (by decide) (Nat.le_of_ble_eq_true rfl) rfl (om_X4_allStitches _ hx0 σ)
theorem call_X4_allStitches {G : KW} {l : Launch} {cc : ByteArray} {nL : Nat} {own : String} {rt : Option FieldType} {R : Room} {α : Type} {X : State → Array Value → Method → Prop} {Z : α → List Frame → Array Value → State → State → Prop} {k0 n0 pc index : Nat} {L : List (Option Value)} {S : List Value} {σ : Sg} {F : Int32 → Sg → Option α} {x0 : Nat} (lk : MLk own index yX4_allStitches) (hx0 : k_tw x0) (hR : R.frames ≥ 1 + 1 ∧ R.locals ≥ 8 + (3 + 11) + 21) (hcs : k0 ≤ R.cells ∧ n0 ≤ R.slots) (hro : (S.map fun v => v.category).sum ≤ 8) (d : decode cc pc = .ok (.invokevirtual index, 3)) (kk : ∀ (r : Int32) (σ' : Sg), Okg G l cc nL own rt R X Z k0 n0 (pc + 3) L (.int r :: S) σ' (F r σ')) : Okg G l cc nL own rt R X Z k0 n0 pc L (k_rr G x0 :: S) σ (e_cI (m_X4_allStitches x0 σ) F) :=
  ok_cV (cb := ccI) (As := []) (ct_X4_allStitches _ hx0 σ) mo_X4_allStitches hi_X4_allStitches lk rfl (ci := 4) rfl rfl (by decide) (isT_kd hx0) hR rfl hcs hro d (fun b => kk b.1 b.2)
/-! CoatDinner$Ways.begin(LCoatDinner$Town;)V -/
def d_X5_begin_10 (x1 : Nat) (K : Sg → Option (Sg)) (H : Int32 → Sg → Option (Sg)) (x2 : Int32) (σ : Sg) : Option (Sg) := (if 5 ≤ x2 then K σ else e_wr σ 67 x2 5 ((-1)) (fun σ2 => H (x2 + 1) σ2))
def b_X5_begin_69 (x1 : Nat) (K : Sg → Option (Sg)) (H : Int32 → Sg → Option (Sg)) (x2 : Int32) (s0 : Int32) (s1 : Int32) (s2 : Nat) (σ : Sg) : Option (Sg) := e_gd (k_ar s2) (e_wr σ s2 s1 (k_ln s2) s0 (fun σ6 => H (x2 + 1) σ6))
def d_X5_begin_33 (x1 : Nat) (K : Sg → Option (Sg)) (H : Int32 → Sg → Option (Sg)) (x2 : Int32) (σ : Sg) : Option (Sg) := (if 5 ≤ x2 then K σ else e_cI (m_X4_hasCoat 66 x2 σ) (fun r5 σ4 => (if r5 = 0 then b_X5_begin_69 x1 K H x2 0 x2 80 σ4 else e_gd (k_in x2 5) (b_X5_begin_69 x1 K H x2 (1 + (σ4 77 (Int32.toNatClampNeg x2))) x2 80 σ4))))
theorem od_X5_begin_10 {G : KW} {l : Launch} (x1 : Nat) (hx1 : k_tw x1) {K : Sg → Option (Sg)} {H : Int32 → Sg → Option (Sg)} (hK : ∀  (σ : Sg), Okk G l cX5_begin 3 RX5 none (rmo 3 66) ccV 31 [some (k_rr G 65), none, none] [] σ (K  σ)) (hH : ∀ (x2 : Int32) (σ : Sg), Okk G l cX5_begin 3 RX5 none (rmo 3 66) ccV 10 [some (k_rr G 65), none, some (.int x2)] [] σ (H x2 σ)) (x2 : Int32)  (σ : Sg) : Okk G l cX5_begin 3 RX5 none (rmo 3 66) ccV 10 [some (k_rr G 65), none, some (.int x2)] [] σ (d_X5_begin_10 x1 K H x2 σ) := by
  unfold d_X5_begin_10
  refine ok_iload2 (dq_of td_X5_begin 6 rfl) ?_
  refine ok_iconst (v := 5) (dq_of td_X5_begin 7 rfl) (by decide) ?_
  refine ok_ic_ge (tgt := 31) (dq_of td_X5_begin 8 rfl) (by decide) ?_ ?_
  · refine ok_wk (wk_s (wk_n (wk_n wk_0))) ?_
    exact hK _
  · refine ok_aload0 (dq_of td_X5_begin 9 rfl) ?_
    refine ok_get (v := k_rr G 66) fl_X5_12 (by decide) ko_65 rfl (dq_of td_X5_begin 10 rfl) ?_
    refine ok_get (v := k_rr G 67) fl_X5_33 (by decide) (isT_kd tw_66) rfl (dq_of td_X5_begin 11 rfl) ?_
    refine ok_iload2 (dq_of td_X5_begin 12 rfl) ?_
    refine ok_iconst (v := (-1)) (dq_of td_X5_begin 13 rfl) (by decide) ?_
    refine ok_iast ka_67 (dq_of td_X5_begin 14 rfl) (fun σ2 => ?_)
    refine ok_jinc2 (w := 1) (dq_of td_X5_begin 15 rfl) (by decide) rfl (by decide) ?_
    refine ok_goto (tgt := 10) (dq_of td_X5_begin 16 rfl) (by decide) ?_
    refine ok_wk (wk_s (wk_n (wk_s wk_0))) ?_
    exact hH _ _
theorem ld_X5_begin_10 {G : KW} {l : Launch} (x1 : Nat) (hx1 : k_tw x1) {K : Sg → Option (Sg)} (hK : ∀  (σ : Sg), Okk G l cX5_begin 3 RX5 none (rmo 3 66) ccV 31 [some (k_rr G 65), none, none] [] σ (K  σ)) (n : Nat) (x2 : Int32) (σ : Sg) : Okk G l cX5_begin 3 RX5 none (rmo 3 66) ccV 10 [some (k_rr G 65), none, some (.int x2)] [] σ (e_lp1 (d_X5_begin_10 x1 K) n x2 σ) :=
  ok_lp1 (Lf := fun (x2 : Int32) => [some (k_rr G 65), none, some (.int x2)]) (fun _ hH x2 σ => od_X5_begin_10 _ hx1 hK hH x2 σ) n x2 σ
theorem ob_X5_begin_69 {G : KW} {l : Launch} (x1 : Nat) (hx1 : k_tw x1) {K : Sg → Option (Sg)} {H : Int32 → Sg → Option (Sg)} (hK : ∀  (σ : Sg), Okk G l cX5_begin 3 RX5 none (rmo 3 66) ccV 76 [some (k_rr G 65), none, none] [] σ (K  σ)) (hH : ∀ (x2 : Int32) (σ : Sg), Okk G l cX5_begin 3 RX5 none (rmo 3 66) ccV 33 [some (k_rr G 65), none, some (.int x2)] [] σ (H x2 σ)) (x2 : Int32) (s0 : Int32) (s1 : Int32) (s2 : Nat)  (σ : Sg) : Okk G l cX5_begin 3 RX5 none (rmo 3 66) ccV 69 [some (k_rr G 65), none, some (.int x2)] [.int s0, .int s1, k_rr G s2] σ (b_X5_begin_69 x1 K H x2 s0 s1 s2 σ) := by
  unfold b_X5_begin_69
  refine ok_gd (fun hg7 => ?_)
  refine ok_iast (k_ar_of hg7) (dq_of td_X5_begin 39 rfl) (fun σ6 => ?_)
  refine ok_jinc2 (w := 1) (dq_of td_X5_begin 40 rfl) (by decide) rfl (by decide) ?_
  refine ok_goto (tgt := 33) (dq_of td_X5_begin 41 rfl) (by decide) ?_
  refine ok_wk (wk_s (wk_n (wk_s wk_0))) ?_
  exact hH _ _
theorem od_X5_begin_33 {G : KW} {l : Launch} (x1 : Nat) (hx1 : k_tw x1) {K : Sg → Option (Sg)} {H : Int32 → Sg → Option (Sg)} (hK : ∀  (σ : Sg), Okk G l cX5_begin 3 RX5 none (rmo 3 66) ccV 76 [some (k_rr G 65), none, none] [] σ (K  σ)) (hH : ∀ (x2 : Int32) (σ : Sg), Okk G l cX5_begin 3 RX5 none (rmo 3 66) ccV 33 [some (k_rr G 65), none, some (.int x2)] [] σ (H x2 σ)) (x2 : Int32)  (σ : Sg) : Okk G l cX5_begin 3 RX5 none (rmo 3 66) ccV 33 [some (k_rr G 65), none, some (.int x2)] [] σ (d_X5_begin_33 x1 K H x2 σ) := by
  unfold d_X5_begin_33
  refine ok_iload2 (dq_of td_X5_begin 19 rfl) ?_
  refine ok_iconst (v := 5) (dq_of td_X5_begin 20 rfl) (by decide) ?_
  refine ok_ic_ge (tgt := 76) (dq_of td_X5_begin 21 rfl) (by decide) ?_ ?_
  · refine ok_wk (wk_s (wk_n (wk_n wk_0))) ?_
    exact hK _
  · refine ok_aload0 (dq_of td_X5_begin 22 rfl) ?_
    refine ok_get (v := k_rr G 80) fl_X5_18 (by decide) ko_65 rfl (dq_of td_X5_begin 23 rfl) ?_
    refine ok_iload2 (dq_of td_X5_begin 24 rfl) ?_
    refine ok_aload0 (dq_of td_X5_begin 25 rfl) ?_
    refine ok_get (v := k_rr G 66) fl_X5_12 (by decide) ko_65 rfl (dq_of td_X5_begin 26 rfl) ?_
    refine ok_iload2 (dq_of td_X5_begin 27 rfl) ?_
    refine call_X4_hasCoat ml_X5_36 tw_66 ⟨Nat.le_of_ble_eq_true rfl, Nat.le_of_ble_eq_true rfl⟩ ⟨Nat.zero_le _, Nat.zero_le _⟩ (Nat.le_of_ble_eq_true rfl) (dq_of td_X5_begin 28 rfl) (fun r5 σ4 => ?_)
    refine ok_if_eq (tgt := 68) (dq_of td_X5_begin 29 rfl) (by decide) ?_ ?_
    · refine ok_iconst (v := 0) (dq_of td_X5_begin 38 rfl) (by decide) ?_
      refine ok_wk (wk_s (wk_n (wk_s wk_0))) ?_
      exact ob_X5_begin_69 _ hx1 hK hH _ _ _ _  _
    · refine ok_iconst (v := 1) (dq_of td_X5_begin 30 rfl) (by decide) ?_
      refine ok_aload0 (dq_of td_X5_begin 31 rfl) ?_
      refine ok_get (v := k_rr G 66) fl_X5_12 (by decide) ko_65 rfl (dq_of td_X5_begin 32 rfl) ?_
      refine ok_get (v := k_rr G 77) fl_X5_40 (by decide) (isT_kd tw_66) rfl (dq_of td_X5_begin 33 rfl) ?_
      refine ok_iload2 (dq_of td_X5_begin 34 rfl) ?_
      refine ok_iald ka_77 (dq_of td_X5_begin 35 rfl) ?_
      refine ok_iadd (dq_of td_X5_begin 36 rfl) ?_
      refine ok_goto (tgt := 69) (dq_of td_X5_begin 37 rfl) (by decide) ?_
      refine ok_wk (wk_s (wk_n (wk_s wk_0))) ?_
      exact ob_X5_begin_69 _ hx1 hK hH _ _ _ _  _
theorem ld_X5_begin_33 {G : KW} {l : Launch} (x1 : Nat) (hx1 : k_tw x1) {K : Sg → Option (Sg)} (hK : ∀  (σ : Sg), Okk G l cX5_begin 3 RX5 none (rmo 3 66) ccV 76 [some (k_rr G 65), none, none] [] σ (K  σ)) (n : Nat) (x2 : Int32) (σ : Sg) : Okk G l cX5_begin 3 RX5 none (rmo 3 66) ccV 33 [some (k_rr G 65), none, some (.int x2)] [] σ (e_lp1 (d_X5_begin_33 x1 K) n x2 σ) :=
  ok_lp1 (Lf := fun (x2 : Int32) => [some (k_rr G 65), none, some (.int x2)]) (fun _ hH x2 σ => od_X5_begin_33 _ hx1 hK hH x2 σ) n x2 σ
def m_X5_begin (x1 : Nat) (σ : Sg) : Option (Sg) := e_cV (m_X4_become 66 x1 σ) (fun σ1 => e_lp1 (d_X5_begin_10 x1 (fun σ3 => e_lp1 (d_X5_begin_33 x1 (fun σ8 => e_cV (m_X3_lay 66 σ8) (fun σ9 => e_lt (k_up σ9 65 4 1) (fun σ10 => some σ10)))) e_F 0 σ3)) e_F 0 σ1)
theorem om_X5_begin {G : KW} {l : Launch} (x1 : Nat) (hx1 : k_tw x1) (σ : Sg) : Okk G l cX5_begin 3 RX5 none (rmo 3 66) ccV 0 [some (k_rr G 65), some (k_rr G x1), none] [] σ (m_X5_begin x1 σ) := by
  unfold m_X5_begin
  refine ok_aload0 (dq_of td_X5_begin 0 rfl) ?_
  refine ok_get (v := k_rr G 66) fl_X5_12 (by decide) ko_65 rfl (dq_of td_X5_begin 1 rfl) ?_
  refine ok_aload1 (dq_of td_X5_begin 2 rfl) ?_
  refine call_X4_become ml_X5_29 tw_66 hx1 ⟨Nat.le_of_ble_eq_true rfl, Nat.le_of_ble_eq_true rfl⟩ ⟨Nat.zero_le _, Nat.zero_le _⟩ (Nat.le_of_ble_eq_true rfl) (dq_of td_X5_begin 3 rfl) (fun σ1 => ?_)
  refine ok_iconst (v := 0) (dq_of td_X5_begin 4 rfl) (by decide) ?_
  refine ok_istore2 (dq_of td_X5_begin 5 rfl) rfl (by decide) ?_
  refine ok_wk (wk_s (wk_n (wk_s wk_0))) ?_
  refine ld_X5_begin_10 _ hx1 (fun σ3 => ?_) _ _ _
  refine ok_iconst (v := 0) (dq_of td_X5_begin 17 rfl) (by decide) ?_
  refine ok_istore2 (dq_of td_X5_begin 18 rfl) rfl (by decide) ?_
  refine ok_wk (wk_s (wk_n (wk_s wk_0))) ?_
  refine ld_X5_begin_33 _ hx1 (fun σ8 => ?_) _ _ _
  refine ok_aload0 (dq_of td_X5_begin 42 rfl) ?_
  refine ok_get (v := k_rr G 60) fl_X5_25 (by decide) ko_65 rfl (dq_of td_X5_begin 43 rfl) ?_
  refine ok_aload0 (dq_of td_X5_begin 44 rfl) ?_
  refine ok_get (v := k_rr G 66) fl_X5_12 (by decide) ko_65 rfl (dq_of td_X5_begin 45 rfl) ?_
  refine call_X3_lay ml_X5_43 tw_66 ⟨Nat.le_of_ble_eq_true rfl, Nat.le_of_ble_eq_true rfl⟩ ⟨Nat.zero_le _, Nat.zero_le _⟩ (Nat.le_of_ble_eq_true rfl) (dq_of td_X5_begin 46 rfl) (fun σ9 => ?_)
  refine ok_aload0 (dq_of td_X5_begin 47 rfl) ?_
  refine ok_iconst (v := 1) (dq_of td_X5_begin 48 rfl) (by decide) ?_
  refine put_5_4 fl_X5_48 ko_65 (by decide) (dq_of td_X5_begin 49 rfl) (fun σ10 => ?_)
  exact ok_vret (dq_of td_X5_begin 50 rfl)
theorem ct_X5_begin {G : KW} {l : Launch} (x1 : Nat) (hx1 : k_tw x1) (σ : Sg) : ∀ b, m_X5_begin x1 σ = some b → MetF G l yX5_begin cX5_begin 3 none 3 66 [k_rr G 65, k_rr G x1] (k_wl G σ) (ccV b).1 (k_wl G (ccV b).2) :=
  met_of (by decide) (Nat.le_of_ble_eq_true rfl) rfl (om_X5_begin _ hx1 σ)
theorem call_X5_begin {G : KW} {l : Launch} {cc : ByteArray} {nL : Nat} {own : String} {rt : Option FieldType} {R : Room} {α : Type} {X : State → Array Value → Method → Prop} {Z : α → List Frame → Array Value → State → State → Prop} {k0 n0 pc index : Nat} {L : List (Option Value)} {S : List Value} {σ : Sg} {F : Sg → Option α} {x1 : Nat} (lk : MLk own index yX5_begin) (hx1 : k_tw x1) (hR : R.frames ≥ 3 + 1 ∧ R.locals ≥ 8 + (3 + 11) + 66) (hcs : k0 ≤ R.cells ∧ n0 ≤ R.slots) (hro : (S.map fun v => v.category).sum ≤ 8) (d : decode cc pc = .ok (.invokevirtual index, 3)) (kk : ∀ σ' : Sg, Okg G l cc nL own rt R X Z k0 n0 (pc + 3) L S σ' (F σ')) : Okg G l cc nL own rt R X Z k0 n0 pc L (k_rr G x1 :: k_rr G 65 :: S) σ (e_cV (m_X5_begin x1 σ) F) :=
  ok_cV (cb := ccV) (As := [k_rr G x1]) (ct_X5_begin _ hx1 σ) mo_X5_begin hi_X5_begin lk rfl (ci := 5) rfl rfl (by decide) ko_65 hR rfl hcs hro d (fun b => kk b)
/-! CoatDinner$Ways.changeCoat(I)Z -/
def d_X5_changeCoat_40 (x1 : Int32) (K : Sg → Option (Int32 × Sg)) (H : Int32 → Sg → Option (Int32 × Sg)) (x3 : Int32) (σ : Sg) : Option (Int32 × Sg) := (if 5 ≤ x3 then K σ else e_gd (k_in x3 5) ((if (σ 80 (Int32.toNatClampNeg x3)) ≤ 0 then H (x3 + 1) σ else e_gd (k_in x3 5) (e_wr σ 80 x3 5 ((σ 80 (Int32.toNatClampNeg x3)) - 1) (fun σ4 => e_wr σ4 67 x1 5 x3 (fun σ5 => e_rz 1 σ5))))))
def b_X5_changeCoat_39 (x1 : Int32) (s0 : Int32) (σ : Sg) : Option (Int32 × Sg) := e_lp1 (d_X5_changeCoat_40 x1 (fun σ6 => e_wr σ6 67 x1 5 ((-1)) (fun σ7 => e_rz 0 σ7))) e_F s0 σ
def b_X5_changeCoat_28 (x1 : Int32) (x2 : Int32) (σ : Sg) : Option (Int32 × Sg) := (if 0 ≤ x2 then b_X5_changeCoat_39 x1 (x2 + 1) σ else b_X5_changeCoat_39 x1 0 σ)
theorem od_X5_changeCoat_40 {G : KW} {l : Launch} (x1 : Int32)  {K : Sg → Option (Int32 × Sg)} {H : Int32 → Sg → Option (Int32 × Sg)} (hK : ∀  (σ : Sg), Okk G l cX5_changeCoat 4 RX5 (some .boolean) (rmo 1 21) ccI 82 [some (k_rr G 65), some (.int x1), none, none] [] σ (K  σ)) (hH : ∀ (x3 : Int32) (σ : Sg), Okk G l cX5_changeCoat 4 RX5 (some .boolean) (rmo 1 21) ccI 40 [some (k_rr G 65), some (.int x1), none, some (.int x3)] [] σ (H x3 σ)) (x3 : Int32)  (σ : Sg) : Okk G l cX5_changeCoat 4 RX5 (some .boolean) (rmo 1 21) ccI 40 [some (k_rr G 65), some (.int x1), none, some (.int x3)] [] σ (d_X5_changeCoat_40 x1 K H x3 σ) := by
  unfold d_X5_changeCoat_40
  refine ok_iload3 (dq_of td_X5_changeCoat 26 rfl) ?_
  refine ok_iconst (v := 5) (dq_of td_X5_changeCoat 27 rfl) (by decide) ?_
  refine ok_ic_ge (tgt := 82) (dq_of td_X5_changeCoat 28 rfl) (by decide) ?_ ?_
  · refine ok_wk (wk_s (wk_s (wk_n (wk_n wk_0)))) ?_
    exact hK _
  · refine ok_aload0 (dq_of td_X5_changeCoat 29 rfl) ?_
    refine ok_get (v := k_rr G 80) fl_X5_18 (by decide) ko_65 rfl (dq_of td_X5_changeCoat 30 rfl) ?_
    refine ok_iload3 (dq_of td_X5_changeCoat 31 rfl) ?_
    refine ok_iald ka_80 (dq_of td_X5_changeCoat 32 rfl) ?_
    refine ok_if_le (tgt := 76) (dq_of td_X5_changeCoat 33 rfl) (by decide) ?_ ?_
    · refine ok_jinc3 (w := 1) (dq_of td_X5_changeCoat 50 rfl) (by decide) rfl (by decide) ?_
      refine ok_goto (tgt := 40) (dq_of td_X5_changeCoat 51 rfl) (by decide) ?_
      refine ok_wk (wk_s (wk_s (wk_n (wk_s wk_0)))) ?_
      exact hH _ _
    · refine ok_aload0 (dq_of td_X5_changeCoat 34 rfl) ?_
      refine ok_get (v := k_rr G 80) fl_X5_18 (by decide) ko_65 rfl (dq_of td_X5_changeCoat 35 rfl) ?_
      refine ok_iload3 (dq_of td_X5_changeCoat 36 rfl) ?_
      refine ok_dup2 (dq_of td_X5_changeCoat 37 rfl) rfl rfl ?_
      refine ok_iald ka_80 (dq_of td_X5_changeCoat 38 rfl) ?_
      refine ok_iconst (v := 1) (dq_of td_X5_changeCoat 39 rfl) (by decide) ?_
      refine ok_isub (dq_of td_X5_changeCoat 40 rfl) ?_
      refine ok_iast ka_80 (dq_of td_X5_changeCoat 41 rfl) (fun σ4 => ?_)
      refine ok_aload0 (dq_of td_X5_changeCoat 42 rfl) ?_
      refine ok_get (v := k_rr G 66) fl_X5_12 (by decide) ko_65 rfl (dq_of td_X5_changeCoat 43 rfl) ?_
      refine ok_get (v := k_rr G 67) fl_X5_33 (by decide) (isT_kd tw_66) rfl (dq_of td_X5_changeCoat 44 rfl) ?_
      refine ok_iload1 (dq_of td_X5_changeCoat 45 rfl) ?_
      refine ok_iload3 (dq_of td_X5_changeCoat 46 rfl) ?_
      refine ok_iast ka_67 (dq_of td_X5_changeCoat 47 rfl) (fun σ5 => ?_)
      refine ok_iconst (v := 1) (dq_of td_X5_changeCoat 48 rfl) (by decide) ?_
      exact ok_zret (dq_of td_X5_changeCoat 49 rfl)
theorem ld_X5_changeCoat_40 {G : KW} {l : Launch} (x1 : Int32)  {K : Sg → Option (Int32 × Sg)} (hK : ∀  (σ : Sg), Okk G l cX5_changeCoat 4 RX5 (some .boolean) (rmo 1 21) ccI 82 [some (k_rr G 65), some (.int x1), none, none] [] σ (K  σ)) (n : Nat) (x3 : Int32) (σ : Sg) : Okk G l cX5_changeCoat 4 RX5 (some .boolean) (rmo 1 21) ccI 40 [some (k_rr G 65), some (.int x1), none, some (.int x3)] [] σ (e_lp1 (d_X5_changeCoat_40 x1 K) n x3 σ) :=
  ok_lp1 (Lf := fun (x3 : Int32) => [some (k_rr G 65), some (.int x1), none, some (.int x3)]) (fun _ hH x3 σ => od_X5_changeCoat_40 _  hK hH x3 σ) n x3 σ
theorem ob_X5_changeCoat_39 {G : KW} {l : Launch} (x1 : Int32)  (s0 : Int32)  (σ : Sg) : Okk G l cX5_changeCoat 4 RX5 (some .boolean) (rmo 1 21) ccI 39 [some (k_rr G 65), some (.int x1), none, none] [.int s0] σ (b_X5_changeCoat_39 x1 s0 σ) := by
  unfold b_X5_changeCoat_39
  refine ok_istore3 (dq_of td_X5_changeCoat 25 rfl) rfl (by decide) ?_
  refine ok_wk (wk_s (wk_s (wk_n (wk_s wk_0)))) ?_
  refine ld_X5_changeCoat_40 _  (fun σ6 => ?_) _ _ _
  refine ok_aload0 (dq_of td_X5_changeCoat 52 rfl) ?_
  refine ok_get (v := k_rr G 66) fl_X5_12 (by decide) ko_65 rfl (dq_of td_X5_changeCoat 53 rfl) ?_
  refine ok_get (v := k_rr G 67) fl_X5_33 (by decide) (isT_kd tw_66) rfl (dq_of td_X5_changeCoat 54 rfl) ?_
  refine ok_iload1 (dq_of td_X5_changeCoat 55 rfl) ?_
  refine ok_iconst (v := (-1)) (dq_of td_X5_changeCoat 56 rfl) (by decide) ?_
  refine ok_iast ka_67 (dq_of td_X5_changeCoat 57 rfl) (fun σ7 => ?_)
  refine ok_iconst (v := 0) (dq_of td_X5_changeCoat 58 rfl) (by decide) ?_
  exact ok_zret (dq_of td_X5_changeCoat 59 rfl)
theorem ob_X5_changeCoat_28 {G : KW} {l : Launch} (x1 : Int32)  (x2 : Int32)  (σ : Sg) : Okk G l cX5_changeCoat 4 RX5 (some .boolean) (rmo 1 21) ccI 28 [some (k_rr G 65), some (.int x1), some (.int x2), none] [] σ (b_X5_changeCoat_28 x1 x2 σ) := by
  unfold b_X5_changeCoat_28
  refine ok_iload2 (dq_of td_X5_changeCoat 18 rfl) ?_
  refine ok_if_ge (tgt := 36) (dq_of td_X5_changeCoat 19 rfl) (by decide) ?_ ?_
  · refine ok_iload2 (dq_of td_X5_changeCoat 22 rfl) ?_
    refine ok_iconst (v := 1) (dq_of td_X5_changeCoat 23 rfl) (by decide) ?_
    refine ok_iadd (dq_of td_X5_changeCoat 24 rfl) ?_
    refine ok_wk (wk_s (wk_s (wk_n (wk_n wk_0)))) ?_
    exact ob_X5_changeCoat_39 _  _  _
  · refine ok_iconst (v := 0) (dq_of td_X5_changeCoat 20 rfl) (by decide) ?_
    refine ok_goto (tgt := 39) (dq_of td_X5_changeCoat 21 rfl) (by decide) ?_
    refine ok_wk (wk_s (wk_s (wk_n (wk_n wk_0)))) ?_
    exact ob_X5_changeCoat_39 _  _  _
def m_X5_changeCoat (x1 : Int32) (σ : Sg) : Option (Int32 × Sg) := e_gd (k_in x1 5) (e_lt (σ 67 (Int32.toNatClampNeg x1)) (fun v1 => e_cI (m_X6_within v1 4 σ) (fun r3 σ2 => (if r3 = 0 then b_X5_changeCoat_28 x1 v1 σ2 else e_gd (k_in v1 5) (e_wr σ2 80 v1 5 ((σ2 80 (Int32.toNatClampNeg v1)) + 1) (fun σ8 => b_X5_changeCoat_28 x1 v1 σ8))))))
theorem om_X5_changeCoat {G : KW} {l : Launch} (x1 : Int32)  (σ : Sg) : Okk G l cX5_changeCoat 4 RX5 (some .boolean) (rmo 1 21) ccI 0 [some (k_rr G 65), some (.int x1), none, none] [] σ (m_X5_changeCoat x1 σ) := by
  unfold m_X5_changeCoat
  refine ok_aload0 (dq_of td_X5_changeCoat 0 rfl) ?_
  refine ok_get (v := k_rr G 66) fl_X5_12 (by decide) ko_65 rfl (dq_of td_X5_changeCoat 1 rfl) ?_
  refine ok_get (v := k_rr G 67) fl_X5_33 (by decide) (isT_kd tw_66) rfl (dq_of td_X5_changeCoat 2 rfl) ?_
  refine ok_iload1 (dq_of td_X5_changeCoat 3 rfl) ?_
  refine ok_iald ka_67 (dq_of td_X5_changeCoat 4 rfl) ?_
  refine ok_gI (fun v1 => ?_)
  refine ok_istore2 (dq_of td_X5_changeCoat 5 rfl) rfl (by decide) ?_
  refine ok_iload2 (dq_of td_X5_changeCoat 6 rfl) ?_
  refine ok_iconst (v := 4) (dq_of td_X5_changeCoat 7 rfl) (by decide) ?_
  refine call_X6_within ml_X5_58  ⟨Nat.le_of_ble_eq_true rfl, Nat.le_of_ble_eq_true rfl⟩ ⟨Nat.zero_le _, Nat.zero_le _⟩ (Nat.le_of_ble_eq_true rfl) (dq_of td_X5_changeCoat 8 rfl) (fun r3 σ2 => ?_)
  refine ok_if_eq (tgt := 28) (dq_of td_X5_changeCoat 9 rfl) (by decide) ?_ ?_
  · refine ok_wk (wk_s (wk_s (wk_s (wk_n wk_0)))) ?_
    exact ob_X5_changeCoat_28 _  _  _
  · refine ok_aload0 (dq_of td_X5_changeCoat 10 rfl) ?_
    refine ok_get (v := k_rr G 80) fl_X5_18 (by decide) ko_65 rfl (dq_of td_X5_changeCoat 11 rfl) ?_
    refine ok_iload2 (dq_of td_X5_changeCoat 12 rfl) ?_
    refine ok_dup2 (dq_of td_X5_changeCoat 13 rfl) rfl rfl ?_
    refine ok_iald ka_80 (dq_of td_X5_changeCoat 14 rfl) ?_
    refine ok_iconst (v := 1) (dq_of td_X5_changeCoat 15 rfl) (by decide) ?_
    refine ok_iadd (dq_of td_X5_changeCoat 16 rfl) ?_
    refine ok_iast ka_80 (dq_of td_X5_changeCoat 17 rfl) (fun σ8 => ?_)
    refine ok_wk (wk_s (wk_s (wk_s (wk_n wk_0)))) ?_
    exact ob_X5_changeCoat_28 _  _  _
theorem ct_X5_changeCoat {G : KW} {l : Launch} (x1 : Int32)  (σ : Sg) : ∀ b, m_X5_changeCoat x1 σ = some b → MetF G l yX5_changeCoat cX5_changeCoat 4 (some .boolean) 1 21 [k_rr G 65, .int x1] (k_wl G σ) (ccI b).1 (k_wl G (ccI b).2) :=
  met_of (by decide) (Nat.le_of_ble_eq_true rfl) rfl (om_X5_changeCoat _  σ)
theorem call_X5_changeCoat {G : KW} {l : Launch} {cc : ByteArray} {nL : Nat} {own : String} {rt : Option FieldType} {R : Room} {α : Type} {X : State → Array Value → Method → Prop} {Z : α → List Frame → Array Value → State → State → Prop} {k0 n0 pc index : Nat} {L : List (Option Value)} {S : List Value} {σ : Sg} {F : Int32 → Sg → Option α} {x1 : Int32} (lk : MLk own index yX5_changeCoat)  (hR : R.frames ≥ 1 + 1 ∧ R.locals ≥ 8 + (4 + 11) + 21) (hcs : k0 ≤ R.cells ∧ n0 ≤ R.slots) (hro : (S.map fun v => v.category).sum ≤ 8) (d : decode cc pc = .ok (.invokevirtual index, 3)) (kk : ∀ (r : Int32) (σ' : Sg), Okg G l cc nL own rt R X Z k0 n0 (pc + 3) L (.int r :: S) σ' (F r σ')) : Okg G l cc nL own rt R X Z k0 n0 pc L (.int x1 :: k_rr G 65 :: S) σ (e_cI (m_X5_changeCoat x1 σ) F) :=
  ok_cV (cb := ccI) (As := [.int x1]) (ct_X5_changeCoat _  σ) mo_X5_changeCoat hi_X5_changeCoat lk rfl (ci := 5) rfl rfl (by decide) ko_65 hR rfl hcs hro d (fun b => kk b.1 b.2)
/-! CoatDinner$Ways.goOn()V -/
def d_X5_goOn_2  (K : Sg → Option (Sg)) (H : Int32 → Sg → Option (Sg)) (x1 : Int32) (σ : Sg) : Option (Sg) := (if x1 < 0 then K σ else e_cI (m_X4_hasPerson 66 x1 σ) (fun r2 σ1 => (if r2 = 0 then H (x1 + (-1)) σ1 else e_cI (m_X5_changeCoat x1 σ1) (fun r4 σ3 => (if r4 = 0 then H (x1 + (-1)) σ3 else some σ3)))))
theorem od_X5_goOn_2 {G : KW} {l : Launch}   {K : Sg → Option (Sg)} {H : Int32 → Sg → Option (Sg)} (hK : ∀  (σ : Sg), Okk G l cX5_goOn 2 RX5 none (rmo 2 44) ccV 32 [some (k_rr G 65), none] [] σ (K  σ)) (hH : ∀ (x1 : Int32) (σ : Sg), Okk G l cX5_goOn 2 RX5 none (rmo 2 44) ccV 2 [some (k_rr G 65), some (.int x1)] [] σ (H x1 σ)) (x1 : Int32)  (σ : Sg) : Okk G l cX5_goOn 2 RX5 none (rmo 2 44) ccV 2 [some (k_rr G 65), some (.int x1)] [] σ (d_X5_goOn_2  K H x1 σ) := by
  unfold d_X5_goOn_2
  refine ok_iload1 (dq_of td_X5_goOn 2 rfl) ?_
  refine ok_if_lt (tgt := 32) (dq_of td_X5_goOn 3 rfl) (by decide) ?_ ?_
  · refine ok_wk (wk_s (wk_n wk_0)) ?_
    exact hK _
  · refine ok_aload0 (dq_of td_X5_goOn 4 rfl) ?_
    refine ok_get (v := k_rr G 66) fl_X5_12 (by decide) ko_65 rfl (dq_of td_X5_goOn 5 rfl) ?_
    refine ok_iload1 (dq_of td_X5_goOn 6 rfl) ?_
    refine call_X4_hasPerson ml_X5_52 tw_66 ⟨Nat.le_of_ble_eq_true rfl, Nat.le_of_ble_eq_true rfl⟩ ⟨Nat.zero_le _, Nat.zero_le _⟩ (Nat.le_of_ble_eq_true rfl) (dq_of td_X5_goOn 7 rfl) (fun r2 σ1 => ?_)
    refine ok_if_eq (tgt := 26) (dq_of td_X5_goOn 8 rfl) (by decide) ?_ ?_
    · refine ok_jinc1 (w := (-1)) (dq_of td_X5_goOn 14 rfl) (by decide) rfl (by decide) ?_
      refine ok_goto (tgt := 2) (dq_of td_X5_goOn 15 rfl) (by decide) ?_
      refine ok_wk (wk_s (wk_s wk_0)) ?_
      exact hH _ _
    · refine ok_aload0 (dq_of td_X5_goOn 9 rfl) ?_
      refine ok_iload1 (dq_of td_X5_goOn 10 rfl) ?_
      refine call_X5_changeCoat ml_X5_55  ⟨Nat.le_of_ble_eq_true rfl, Nat.le_of_ble_eq_true rfl⟩ ⟨Nat.zero_le _, Nat.zero_le _⟩ (Nat.le_of_ble_eq_true rfl) (dq_of td_X5_goOn 11 rfl) (fun r4 σ3 => ?_)
      refine ok_if_eq (tgt := 26) (dq_of td_X5_goOn 12 rfl) (by decide) ?_ ?_
      · refine ok_jinc1 (w := (-1)) (dq_of td_X5_goOn 14 rfl) (by decide) rfl (by decide) ?_
        refine ok_goto (tgt := 2) (dq_of td_X5_goOn 15 rfl) (by decide) ?_
        refine ok_wk (wk_s (wk_s wk_0)) ?_
        exact hH _ _
      · exact ok_vret (dq_of td_X5_goOn 13 rfl)
theorem ld_X5_goOn_2 {G : KW} {l : Launch}   {K : Sg → Option (Sg)} (hK : ∀  (σ : Sg), Okk G l cX5_goOn 2 RX5 none (rmo 2 44) ccV 32 [some (k_rr G 65), none] [] σ (K  σ)) (n : Nat) (x1 : Int32) (σ : Sg) : Okk G l cX5_goOn 2 RX5 none (rmo 2 44) ccV 2 [some (k_rr G 65), some (.int x1)] [] σ (e_lp1 (d_X5_goOn_2  K) n x1 σ) :=
  ok_lp1 (Lf := fun (x1 : Int32) => [some (k_rr G 65), some (.int x1)]) (fun _ hH x1 σ => od_X5_goOn_2   hK hH x1 σ) n x1 σ
def m_X5_goOn  (σ : Sg) : Option (Sg) := e_lp1 (d_X5_goOn_2  (fun σ5 => e_lt (k_up σ5 65 4 0) (fun σ6 => some σ6))) e_F 4 σ
theorem om_X5_goOn {G : KW} {l : Launch}   (σ : Sg) : Okk G l cX5_goOn 2 RX5 none (rmo 2 44) ccV 0 [some (k_rr G 65), none] [] σ (m_X5_goOn  σ) := by
  unfold m_X5_goOn
  refine ok_iconst (v := 4) (dq_of td_X5_goOn 0 rfl) (by decide) ?_
  refine ok_istore1 (dq_of td_X5_goOn 1 rfl) rfl (by decide) ?_
  refine ok_wk (wk_s (wk_s wk_0)) ?_
  refine ld_X5_goOn_2   (fun σ5 => ?_) _ _ _
  refine ok_aload0 (dq_of td_X5_goOn 16 rfl) ?_
  refine ok_iconst (v := 0) (dq_of td_X5_goOn 17 rfl) (by decide) ?_
  refine put_5_4 fl_X5_48 ko_65 (by decide) (dq_of td_X5_goOn 18 rfl) (fun σ6 => ?_)
  exact ok_vret (dq_of td_X5_goOn 19 rfl)
theorem ct_X5_goOn {G : KW} {l : Launch}   (σ : Sg) : ∀ b, m_X5_goOn  σ = some b → MetF G l yX5_goOn cX5_goOn 2 none 2 44 [k_rr G 65] (k_wl G σ) (ccV b).1 (k_wl G (ccV b).2) :=
  met_of (by decide) (Nat.le_of_ble_eq_true rfl) rfl (om_X5_goOn   σ)
theorem call_X5_goOn {G : KW} {l : Launch} {cc : ByteArray} {nL : Nat} {own : String} {rt : Option FieldType} {R : Room} {α : Type} {X : State → Array Value → Method → Prop} {Z : α → List Frame → Array Value → State → State → Prop} {k0 n0 pc index : Nat} {L : List (Option Value)} {S : List Value} {σ : Sg} {F : Sg → Option α}  (lk : MLk own index yX5_goOn)  (hR : R.frames ≥ 2 + 1 ∧ R.locals ≥ 8 + (2 + 11) + 44) (hcs : k0 ≤ R.cells ∧ n0 ≤ R.slots) (hro : (S.map fun v => v.category).sum ≤ 8) (d : decode cc pc = .ok (.invokevirtual index, 3)) (kk : ∀ σ' : Sg, Okg G l cc nL own rt R X Z k0 n0 (pc + 3) L S σ' (F σ')) : Okg G l cc nL own rt R X Z k0 n0 pc L (k_rr G 65 :: S) σ (e_cV (m_X5_goOn  σ) F) :=
  ok_cV (cb := ccV) (As := []) (ct_X5_goOn   σ) mo_X5_goOn hi_X5_goOn lk rfl (ci := 5) rfl rfl (by decide) ko_65 hR rfl hcs hro d (fun b => kk b)
/-! CoatDinner$Ways.seatOf(I)I -/
def m_X5_seatOf (x1 : Int32) (σ : Sg) : Option (Int32 × Sg) := e_cV (m_X3_sit 66 σ) (fun σ1 => e_cI (m_X3_seatOf x1 σ1) (fun r3 σ2 => some (r3, σ2)))
theorem om_X5_seatOf {G : KW} {l : Launch} (x1 : Int32)  (σ : Sg) : Okk G l cX5_seatOf 2 RX5 (some .int) (rmo 2 44) ccI 0 [some (k_rr G 65), some (.int x1)] [] σ (m_X5_seatOf x1 σ) := by
  unfold m_X5_seatOf
  refine ok_aload0 (dq_of td_X5_seatOf 0 rfl) ?_
  refine ok_get (v := k_rr G 60) fl_X5_25 (by decide) ko_65 rfl (dq_of td_X5_seatOf 1 rfl) ?_
  refine ok_aload0 (dq_of td_X5_seatOf 2 rfl) ?_
  refine ok_get (v := k_rr G 66) fl_X5_12 (by decide) ko_65 rfl (dq_of td_X5_seatOf 3 rfl) ?_
  refine call_X3_sit ml_X5_62 tw_66 ⟨Nat.le_of_ble_eq_true rfl, Nat.le_of_ble_eq_true rfl⟩ ⟨Nat.zero_le _, Nat.zero_le _⟩ (Nat.le_of_ble_eq_true rfl) (dq_of td_X5_seatOf 4 rfl) (fun σ1 => ?_)
  refine ok_aload0 (dq_of td_X5_seatOf 5 rfl) ?_
  refine ok_get (v := k_rr G 60) fl_X5_25 (by decide) ko_65 rfl (dq_of td_X5_seatOf 6 rfl) ?_
  refine ok_iload1 (dq_of td_X5_seatOf 7 rfl) ?_
  refine call_X3_seatOf ml_X5_65  ⟨Nat.le_of_ble_eq_true rfl, Nat.le_of_ble_eq_true rfl⟩ ⟨Nat.zero_le _, Nat.zero_le _⟩ (Nat.le_of_ble_eq_true rfl) (dq_of td_X5_seatOf 8 rfl) (fun r3 σ2 => ?_)
  exact ok_iret (dq_of td_X5_seatOf 9 rfl)
theorem ct_X5_seatOf {G : KW} {l : Launch} (x1 : Int32)  (σ : Sg) : ∀ b, m_X5_seatOf x1 σ = some b → MetF G l yX5_seatOf cX5_seatOf 2 (some .int) 2 44 [k_rr G 65, .int x1] (k_wl G σ) (ccI b).1 (k_wl G (ccI b).2) :=
  met_of (by decide) (Nat.le_of_ble_eq_true rfl) rfl (om_X5_seatOf _  σ)
theorem call_X5_seatOf {G : KW} {l : Launch} {cc : ByteArray} {nL : Nat} {own : String} {rt : Option FieldType} {R : Room} {α : Type} {X : State → Array Value → Method → Prop} {Z : α → List Frame → Array Value → State → State → Prop} {k0 n0 pc index : Nat} {L : List (Option Value)} {S : List Value} {σ : Sg} {F : Int32 → Sg → Option α} {x1 : Int32} (lk : MLk own index yX5_seatOf)  (hR : R.frames ≥ 2 + 1 ∧ R.locals ≥ 8 + (2 + 11) + 44) (hcs : k0 ≤ R.cells ∧ n0 ≤ R.slots) (hro : (S.map fun v => v.category).sum ≤ 8) (d : decode cc pc = .ok (.invokevirtual index, 3)) (kk : ∀ (r : Int32) (σ' : Sg), Okg G l cc nL own rt R X Z k0 n0 (pc + 3) L (.int r :: S) σ' (F r σ')) : Okg G l cc nL own rt R X Z k0 n0 pc L (.int x1 :: k_rr G 65 :: S) σ (e_cI (m_X5_seatOf x1 σ) F) :=
  ok_cV (cb := ccI) (As := [.int x1]) (ct_X5_seatOf _  σ) mo_X5_seatOf hi_X5_seatOf lk rfl (ci := 5) rfl rfl (by decide) ko_65 hR rfl hcs hro d (fun b => kk b.1 b.2)
/-! CoatDinner$Ways.sightsHold()Z -/
def m_X5_sightsHold  (σ : Sg) : Option (Int32 × Sg) := e_cV (m_X3_sit 66 σ) (fun σ1 => e_cI (m_X3_sightsHold 66 σ1) (fun r3 σ2 => e_rz r3 σ2))
theorem om_X5_sightsHold {G : KW} {l : Launch}   (σ : Sg) : Okk G l cX5_sightsHold 1 RX5 (some .boolean) (rmo 2 44) ccI 0 [some (k_rr G 65)] [] σ (m_X5_sightsHold  σ) := by
  unfold m_X5_sightsHold
  refine ok_aload0 (dq_of td_X5_sightsHold 0 rfl) ?_
  refine ok_get (v := k_rr G 60) fl_X5_25 (by decide) ko_65 rfl (dq_of td_X5_sightsHold 1 rfl) ?_
  refine ok_aload0 (dq_of td_X5_sightsHold 2 rfl) ?_
  refine ok_get (v := k_rr G 66) fl_X5_12 (by decide) ko_65 rfl (dq_of td_X5_sightsHold 3 rfl) ?_
  refine call_X3_sit ml_X5_62 tw_66 ⟨Nat.le_of_ble_eq_true rfl, Nat.le_of_ble_eq_true rfl⟩ ⟨Nat.zero_le _, Nat.zero_le _⟩ (Nat.le_of_ble_eq_true rfl) (dq_of td_X5_sightsHold 4 rfl) (fun σ1 => ?_)
  refine ok_aload0 (dq_of td_X5_sightsHold 5 rfl) ?_
  refine ok_get (v := k_rr G 60) fl_X5_25 (by decide) ko_65 rfl (dq_of td_X5_sightsHold 6 rfl) ?_
  refine ok_aload0 (dq_of td_X5_sightsHold 7 rfl) ?_
  refine ok_get (v := k_rr G 66) fl_X5_12 (by decide) ko_65 rfl (dq_of td_X5_sightsHold 8 rfl) ?_
  refine call_X3_sightsHold ml_X5_69 tw_66 ⟨Nat.le_of_ble_eq_true rfl, Nat.le_of_ble_eq_true rfl⟩ ⟨Nat.zero_le _, Nat.zero_le _⟩ (Nat.le_of_ble_eq_true rfl) (dq_of td_X5_sightsHold 9 rfl) (fun r3 σ2 => ?_)
  exact ok_zret (dq_of td_X5_sightsHold 10 rfl)
theorem ct_X5_sightsHold {G : KW} {l : Launch}   (σ : Sg) : ∀ b, m_X5_sightsHold  σ = some b → MetF G l yX5_sightsHold cX5_sightsHold 1 (some .boolean) 2 44 [k_rr G 65] (k_wl G σ) (ccI b).1 (k_wl G (ccI b).2) :=
  met_of (by decide) (Nat.le_of_ble_eq_true rfl) rfl (om_X5_sightsHold   σ)
theorem call_X5_sightsHold {G : KW} {l : Launch} {cc : ByteArray} {nL : Nat} {own : String} {rt : Option FieldType} {R : Room} {α : Type} {X : State → Array Value → Method → Prop} {Z : α → List Frame → Array Value → State → State → Prop} {k0 n0 pc index : Nat} {L : List (Option Value)} {S : List Value} {σ : Sg} {F : Int32 → Sg → Option α}  (lk : MLk own index yX5_sightsHold)  (hR : R.frames ≥ 2 + 1 ∧ R.locals ≥ 8 + (1 + 11) + 44) (hcs : k0 ≤ R.cells ∧ n0 ≤ R.slots) (hro : (S.map fun v => v.category).sum ≤ 8) (d : decode cc pc = .ok (.invokevirtual index, 3)) (kk : ∀ (r : Int32) (σ' : Sg), Okg G l cc nL own rt R X Z k0 n0 (pc + 3) L (.int r :: S) σ' (F r σ')) : Okg G l cc nL own rt R X Z k0 n0 pc L (k_rr G 65 :: S) σ (e_cI (m_X5_sightsHold  σ) F) :=
  ok_cV (cb := ccI) (As := []) (ct_X5_sightsHold   σ) mo_X5_sightsHold hi_X5_sightsHold lk rfl (ci := 5) rfl rfl (by decide) ko_65 hR rfl hcs hro d (fun b => kk b.1 b.2)
/-! CoatDinner$Ways.winner()I -/
def m_X5_winner  (σ : Sg) : Option (Int32 × Sg) := e_cV (m_X3_sit 66 σ) (fun σ1 => e_cI (m_X3_winner 66 σ1) (fun r3 σ2 => some (r3, σ2)))
theorem om_X5_winner {G : KW} {l : Launch}   (σ : Sg) : Okk G l cX5_winner 1 RX5 (some .int) (rmo 2 47) ccI 0 [some (k_rr G 65)] [] σ (m_X5_winner  σ) := by
  unfold m_X5_winner
  refine ok_aload0 (dq_of td_X5_winner 0 rfl) ?_
  refine ok_get (v := k_rr G 60) fl_X5_25 (by decide) ko_65 rfl (dq_of td_X5_winner 1 rfl) ?_
  refine ok_aload0 (dq_of td_X5_winner 2 rfl) ?_
  refine ok_get (v := k_rr G 66) fl_X5_12 (by decide) ko_65 rfl (dq_of td_X5_winner 3 rfl) ?_
  refine call_X3_sit ml_X5_62 tw_66 ⟨Nat.le_of_ble_eq_true rfl, Nat.le_of_ble_eq_true rfl⟩ ⟨Nat.zero_le _, Nat.zero_le _⟩ (Nat.le_of_ble_eq_true rfl) (dq_of td_X5_winner 4 rfl) (fun σ1 => ?_)
  refine ok_aload0 (dq_of td_X5_winner 5 rfl) ?_
  refine ok_get (v := k_rr G 60) fl_X5_25 (by decide) ko_65 rfl (dq_of td_X5_winner 6 rfl) ?_
  refine ok_aload0 (dq_of td_X5_winner 7 rfl) ?_
  refine ok_get (v := k_rr G 66) fl_X5_12 (by decide) ko_65 rfl (dq_of td_X5_winner 8 rfl) ?_
  refine call_X3_winner ml_X5_73 tw_66 ⟨Nat.le_of_ble_eq_true rfl, Nat.le_of_ble_eq_true rfl⟩ ⟨Nat.zero_le _, Nat.zero_le _⟩ (Nat.le_of_ble_eq_true rfl) (dq_of td_X5_winner 9 rfl) (fun r3 σ2 => ?_)
  exact ok_iret (dq_of td_X5_winner 10 rfl)
theorem ct_X5_winner {G : KW} {l : Launch}   (σ : Sg) : ∀ b, m_X5_winner  σ = some b → MetF G l yX5_winner cX5_winner 1 (some .int) 2 47 [k_rr G 65] (k_wl G σ) (ccI b).1 (k_wl G (ccI b).2) :=
  met_of (by decide) (Nat.le_of_ble_eq_true rfl) rfl (om_X5_winner   σ)
theorem call_X5_winner {G : KW} {l : Launch} {cc : ByteArray} {nL : Nat} {own : String} {rt : Option FieldType} {R : Room} {α : Type} {X : State → Array Value → Method → Prop} {Z : α → List Frame → Array Value → State → State → Prop} {k0 n0 pc index : Nat} {L : List (Option Value)} {S : List Value} {σ : Sg} {F : Int32 → Sg → Option α}  (lk : MLk own index yX5_winner)  (hR : R.frames ≥ 2 + 1 ∧ R.locals ≥ 8 + (1 + 11) + 47) (hcs : k0 ≤ R.cells ∧ n0 ≤ R.slots) (hro : (S.map fun v => v.category).sum ≤ 8) (d : decode cc pc = .ok (.invokevirtual index, 3)) (kk : ∀ (r : Int32) (σ' : Sg), Okg G l cc nL own rt R X Z k0 n0 (pc + 3) L (.int r :: S) σ' (F r σ')) : Okg G l cc nL own rt R X Z k0 n0 pc L (k_rr G 65 :: S) σ (e_cI (m_X5_winner  σ) F) :=
  ok_cV (cb := ccI) (As := []) (ct_X5_winner   σ) mo_X5_winner hi_X5_winner lk rfl (ci := 5) rfl rfl (by decide) ko_65 hR rfl hcs hro d (fun b => kk b.1 b.2)
/-! CoatDinner$Ways.wearersOf(I)I -/
def m_X5_wearersOf (x1 : Int32) (σ : Sg) : Option (Int32 × Sg) := e_cI (m_X4_wearers 66 x1 σ) (fun r2 σ1 => (if r2 = 0 then some (32, σ1) else some (r2, σ1)))
theorem om_X5_wearersOf {G : KW} {l : Launch} (x1 : Int32)  (σ : Sg) : Okk G l cX5_wearersOf 3 RX5 (some .int) (rmo 1 23) ccI 0 [some (k_rr G 65), some (.int x1), none] [] σ (m_X5_wearersOf x1 σ) := by
  unfold m_X5_wearersOf
  refine ok_aload0 (dq_of td_X5_wearersOf 0 rfl) ?_
  refine ok_get (v := k_rr G 66) fl_X5_12 (by decide) ko_65 rfl (dq_of td_X5_wearersOf 1 rfl) ?_
  refine ok_iload1 (dq_of td_X5_wearersOf 2 rfl) ?_
  refine call_X4_wearers ml_X5_77 tw_66 ⟨Nat.le_of_ble_eq_true rfl, Nat.le_of_ble_eq_true rfl⟩ ⟨Nat.zero_le _, Nat.zero_le _⟩ (Nat.le_of_ble_eq_true rfl) (dq_of td_X5_wearersOf 3 rfl) (fun r2 σ1 => ?_)
  refine ok_istore2 (dq_of td_X5_wearersOf 4 rfl) rfl (by decide) ?_
  refine ok_iload2 (dq_of td_X5_wearersOf 5 rfl) ?_
  refine ok_if_ne (tgt := 18) (dq_of td_X5_wearersOf 6 rfl) (by decide) ?_ ?_
  · refine ok_iload2 (dq_of td_X5_wearersOf 9 rfl) ?_
    exact ok_iret (dq_of td_X5_wearersOf 10 rfl)
  · refine ok_bipush (v := 32) (dq_of td_X5_wearersOf 7 rfl) (by decide) ?_
    refine ok_goto (tgt := 19) (dq_of td_X5_wearersOf 8 rfl) (by decide) ?_
    exact ok_iret (dq_of td_X5_wearersOf 10 rfl)
theorem ct_X5_wearersOf {G : KW} {l : Launch} (x1 : Int32)  (σ : Sg) : ∀ b, m_X5_wearersOf x1 σ = some b → MetF G l yX5_wearersOf cX5_wearersOf 3 (some .int) 1 23 [k_rr G 65, .int x1] (k_wl G σ) (ccI b).1 (k_wl G (ccI b).2) :=
  met_of (by decide) (Nat.le_of_ble_eq_true rfl) rfl (om_X5_wearersOf _  σ)
theorem call_X5_wearersOf {G : KW} {l : Launch} {cc : ByteArray} {nL : Nat} {own : String} {rt : Option FieldType} {R : Room} {α : Type} {X : State → Array Value → Method → Prop} {Z : α → List Frame → Array Value → State → State → Prop} {k0 n0 pc index : Nat} {L : List (Option Value)} {S : List Value} {σ : Sg} {F : Int32 → Sg → Option α} {x1 : Int32} (lk : MLk own index yX5_wearersOf)  (hR : R.frames ≥ 1 + 1 ∧ R.locals ≥ 8 + (3 + 11) + 23) (hcs : k0 ≤ R.cells ∧ n0 ≤ R.slots) (hro : (S.map fun v => v.category).sum ≤ 8) (d : decode cc pc = .ok (.invokevirtual index, 3)) (kk : ∀ (r : Int32) (σ' : Sg), Okg G l cc nL own rt R X Z k0 n0 (pc + 3) L (.int r :: S) σ' (F r σ')) : Okg G l cc nL own rt R X Z k0 n0 pc L (.int x1 :: k_rr G 65 :: S) σ (e_cI (m_X5_wearersOf x1 σ) F) :=
  ok_cV (cb := ccI) (As := [.int x1]) (ct_X5_wearersOf _  σ) mo_X5_wearersOf hi_X5_wearersOf lk rfl (ci := 5) rfl rfl (by decide) ko_65 hR rfl hcs hro d (fun b => kk b.1 b.2)
/-! CoatDinner$Ways.rowNumber()I -/
def d_X5_rowNumber_15  (K : Int32 → Sg → Option (Int32 × Sg)) (H : Int32 → Int32 → Sg → Option (Int32 × Sg)) (x1 : Int32) (x2 : Int32) (σ : Sg) : Option (Int32 × Sg) := (if 5 ≤ x2 then K x1 σ else e_cI (m_X4_hasPerson 66 x2 σ) (fun r3 σ2 => (if r3 = 0 then H x1 (x2 + 1) σ2 else e_cI (m_X3_seatOf x2 σ2) (fun r5 σ4 => e_gd (k_in x2 5) (e_lt (x1 + (r5 * (stv 1 (Int32.toNatClampNeg x2)))) (fun v6 => H v6 (x2 + 1) σ4))))))
theorem od_X5_rowNumber_15 {G : KW} {l : Launch}   {K : Int32 → Sg → Option (Int32 × Sg)} {H : Int32 → Int32 → Sg → Option (Int32 × Sg)} (hK : ∀ (x1 : Int32) (σ : Sg), Okk G l cX5_rowNumber 3 RX5 (some .int) (rmo 2 44) ccI 54 [none, some (.int x1), none] [] σ (K x1 σ)) (hH : ∀ (x1 : Int32) (x2 : Int32) (σ : Sg), Okk G l cX5_rowNumber 3 RX5 (some .int) (rmo 2 44) ccI 15 [some (k_rr G 65), some (.int x1), some (.int x2)] [] σ (H x1 x2 σ)) (x1 : Int32) (x2 : Int32)  (σ : Sg) : Okk G l cX5_rowNumber 3 RX5 (some .int) (rmo 2 44) ccI 15 [some (k_rr G 65), some (.int x1), some (.int x2)] [] σ (d_X5_rowNumber_15  K H x1 x2 σ) := by
  unfold d_X5_rowNumber_15
  refine ok_iload2 (dq_of td_X5_rowNumber 9 rfl) ?_
  refine ok_iconst (v := 5) (dq_of td_X5_rowNumber 10 rfl) (by decide) ?_
  refine ok_ic_ge (tgt := 54) (dq_of td_X5_rowNumber 11 rfl) (by decide) ?_ ?_
  · refine ok_wk (wk_n (wk_s (wk_n wk_0))) ?_
    exact hK _ _
  · refine ok_aload0 (dq_of td_X5_rowNumber 12 rfl) ?_
    refine ok_get (v := k_rr G 66) fl_X5_12 (by decide) ko_65 rfl (dq_of td_X5_rowNumber 13 rfl) ?_
    refine ok_iload2 (dq_of td_X5_rowNumber 14 rfl) ?_
    refine call_X4_hasPerson ml_X5_52 tw_66 ⟨Nat.le_of_ble_eq_true rfl, Nat.le_of_ble_eq_true rfl⟩ ⟨Nat.zero_le _, Nat.zero_le _⟩ (Nat.le_of_ble_eq_true rfl) (dq_of td_X5_rowNumber 15 rfl) (fun r3 σ2 => ?_)
    refine ok_if_eq (tgt := 48) (dq_of td_X5_rowNumber 16 rfl) (by decide) ?_ ?_
    · refine ok_jinc2 (w := 1) (dq_of td_X5_rowNumber 28 rfl) (by decide) rfl (by decide) ?_
      refine ok_goto (tgt := 15) (dq_of td_X5_rowNumber 29 rfl) (by decide) ?_
      refine ok_wk (wk_s (wk_s (wk_s wk_0))) ?_
      exact hH _ _ _
    · refine ok_iload1 (dq_of td_X5_rowNumber 17 rfl) ?_
      refine ok_aload0 (dq_of td_X5_rowNumber 18 rfl) ?_
      refine ok_get (v := k_rr G 60) fl_X5_25 (by decide) ko_65 rfl (dq_of td_X5_rowNumber 19 rfl) ?_
      refine ok_iload2 (dq_of td_X5_rowNumber 20 rfl) ?_
      refine call_X3_seatOf ml_X5_65  ⟨Nat.le_of_ble_eq_true rfl, Nat.le_of_ble_eq_true rfl⟩ ⟨Nat.zero_le _, Nat.zero_le _⟩ (Nat.le_of_ble_eq_true rfl) (dq_of td_X5_rowNumber 21 rfl) (fun r5 σ4 => ?_)
      refine ok_gets (t := 1) (by decide) sl_X5_90 (dq_of td_X5_rowNumber 22 rfl) ?_
      refine ok_iload2 (dq_of td_X5_rowNumber 23 rfl) ?_
      refine ok_sald (by decide) rfl (dq_of td_X5_rowNumber 24 rfl) ?_
      refine ok_imul (dq_of td_X5_rowNumber 25 rfl) ?_
      refine ok_iadd (dq_of td_X5_rowNumber 26 rfl) ?_
      refine ok_gI (fun v6 => ?_)
      refine ok_istore1 (dq_of td_X5_rowNumber 27 rfl) rfl (by decide) ?_
      refine ok_jinc2 (w := 1) (dq_of td_X5_rowNumber 28 rfl) (by decide) rfl (by decide) ?_
      refine ok_goto (tgt := 15) (dq_of td_X5_rowNumber 29 rfl) (by decide) ?_
      refine ok_wk (wk_s (wk_s (wk_s wk_0))) ?_
      exact hH _ _ _
theorem ld_X5_rowNumber_15 {G : KW} {l : Launch}   {K : Int32 → Sg → Option (Int32 × Sg)} (hK : ∀ (x1 : Int32) (σ : Sg), Okk G l cX5_rowNumber 3 RX5 (some .int) (rmo 2 44) ccI 54 [none, some (.int x1), none] [] σ (K x1 σ)) (n : Nat) (x1 : Int32) (x2 : Int32) (σ : Sg) : Okk G l cX5_rowNumber 3 RX5 (some .int) (rmo 2 44) ccI 15 [some (k_rr G 65), some (.int x1), some (.int x2)] [] σ (e_lp2 (d_X5_rowNumber_15  K) n x1 x2 σ) :=
  ok_lp2 (Lf := fun (x1 : Int32) (x2 : Int32) => [some (k_rr G 65), some (.int x1), some (.int x2)]) (fun _ hH x1 x2 σ => od_X5_rowNumber_15   hK hH x1 x2 σ) n x1 x2 σ
def m_X5_rowNumber  (σ : Sg) : Option (Int32 × Sg) := e_cV (m_X3_sit 66 σ) (fun σ1 => e_lp2 (d_X5_rowNumber_15  (fun x1q7 σ7 => some (x1q7, σ7))) e_F 0 0 σ1)
theorem om_X5_rowNumber {G : KW} {l : Launch}   (σ : Sg) : Okk G l cX5_rowNumber 3 RX5 (some .int) (rmo 2 44) ccI 0 [some (k_rr G 65), none, none] [] σ (m_X5_rowNumber  σ) := by
  unfold m_X5_rowNumber
  refine ok_aload0 (dq_of td_X5_rowNumber 0 rfl) ?_
  refine ok_get (v := k_rr G 60) fl_X5_25 (by decide) ko_65 rfl (dq_of td_X5_rowNumber 1 rfl) ?_
  refine ok_aload0 (dq_of td_X5_rowNumber 2 rfl) ?_
  refine ok_get (v := k_rr G 66) fl_X5_12 (by decide) ko_65 rfl (dq_of td_X5_rowNumber 3 rfl) ?_
  refine call_X3_sit ml_X5_62 tw_66 ⟨Nat.le_of_ble_eq_true rfl, Nat.le_of_ble_eq_true rfl⟩ ⟨Nat.zero_le _, Nat.zero_le _⟩ (Nat.le_of_ble_eq_true rfl) (dq_of td_X5_rowNumber 4 rfl) (fun σ1 => ?_)
  refine ok_iconst (v := 0) (dq_of td_X5_rowNumber 5 rfl) (by decide) ?_
  refine ok_istore1 (dq_of td_X5_rowNumber 6 rfl) rfl (by decide) ?_
  refine ok_iconst (v := 0) (dq_of td_X5_rowNumber 7 rfl) (by decide) ?_
  refine ok_istore2 (dq_of td_X5_rowNumber 8 rfl) rfl (by decide) ?_
  refine ok_wk (wk_s (wk_s (wk_s wk_0))) ?_
  refine ld_X5_rowNumber_15   (fun x1q7 σ7 => ?_) _ _ _ _
  refine ok_iload1 (dq_of td_X5_rowNumber 30 rfl) ?_
  exact ok_iret (dq_of td_X5_rowNumber 31 rfl)
theorem ct_X5_rowNumber {G : KW} {l : Launch}   (σ : Sg) : ∀ b, m_X5_rowNumber  σ = some b → MetF G l yX5_rowNumber cX5_rowNumber 3 (some .int) 2 44 [k_rr G 65] (k_wl G σ) (ccI b).1 (k_wl G (ccI b).2) :=
  met_of (by decide) (Nat.le_of_ble_eq_true rfl) rfl (om_X5_rowNumber   σ)
theorem call_X5_rowNumber {G : KW} {l : Launch} {cc : ByteArray} {nL : Nat} {own : String} {rt : Option FieldType} {R : Room} {α : Type} {X : State → Array Value → Method → Prop} {Z : α → List Frame → Array Value → State → State → Prop} {k0 n0 pc index : Nat} {L : List (Option Value)} {S : List Value} {σ : Sg} {F : Int32 → Sg → Option α}  (lk : MLk own index yX5_rowNumber)  (hR : R.frames ≥ 2 + 1 ∧ R.locals ≥ 8 + (3 + 11) + 44) (hcs : k0 ≤ R.cells ∧ n0 ≤ R.slots) (hro : (S.map fun v => v.category).sum ≤ 8) (d : decode cc pc = .ok (.invokevirtual index, 3)) (kk : ∀ (r : Int32) (σ' : Sg), Okg G l cc nL own rt R X Z k0 n0 (pc + 3) L (.int r :: S) σ' (F r σ')) : Okg G l cc nL own rt R X Z k0 n0 pc L (k_rr G 65 :: S) σ (e_cI (m_X5_rowNumber  σ) F) :=
  ok_cV (cb := ccI) (As := []) (ct_X5_rowNumber   σ) mo_X5_rowNumber hi_X5_rowNumber lk rfl (ci := 5) rfl rfl (by decide) ko_65 hR rfl hcs hro d (fun b => kk b.1 b.2)
/-! CoatDinner$Ways.countRows(LCoatDinner$Town;)I -/
def d_X5_countRows_2 (x1 : Nat) (K : Sg → Option (Int32 × Sg)) (H : Int32 → Sg → Option (Int32 × Sg)) (x2 : Int32) (σ : Sg) : Option (Int32 × Sg) := (if 98 ≤ x2 then K σ else e_wr σ 81 x2 98 0 (fun σ1 => H (x2 + 1) σ1))
def b_X5_countRows_104 (x1 : Nat) (K : Int32 → Sg → Option (Int32 × Sg)) (H : Int32 → Int32 → Sg → Option (Int32 × Sg)) (x2 : Int32) (x3 : Int32) (σ : Sg) : Option (Int32 × Sg) := e_cV (m_X5_goOn σ) (fun σ10 => H x2 (x3 + 1) σ10)
def d_X5_countRows_30 (x1 : Nat) (K : Int32 → Sg → Option (Int32 × Sg)) (H : Int32 → Int32 → Sg → Option (Int32 × Sg)) (x2 : Int32) (x3 : Int32) (σ : Sg) : Option (Int32 × Sg) := (if 7776 ≤ x3 then K x2 σ else (if (σ 65 4) = 0 then K x2 σ else e_cI (m_X5_rowNumber σ) (fun r5 σ4 => e_lt (r5 / 32) (fun v6 => e_lt (jsl 1 (jrm r5 32)) (fun v7 => e_cI (m_X6_within v6 97 σ4) (fun r9 σ8 => (if r9 = 0 then b_X5_countRows_104 x1 K H x2 x3 σ8 else e_gd (k_in v6 98) ((if ((σ8 81 (Int32.toNatClampNeg v6)) &&& v7) = 0 then e_gd (k_in v6 98) (e_wr σ8 81 v6 98 ((σ8 81 (Int32.toNatClampNeg v6)) ||| v7) (fun σ11 => b_X5_countRows_104 x1 K H (x2 + 1) x3 σ11)) else b_X5_countRows_104 x1 K H x2 x3 σ8)))))))))
theorem od_X5_countRows_2 {G : KW} {l : Launch} (x1 : Nat) (hx1 : k_tw x1) {K : Sg → Option (Int32 × Sg)} {H : Int32 → Sg → Option (Int32 × Sg)} (hK : ∀  (σ : Sg), Okk G l cX5_countRows 7 RX5 (some .int) (rmo 4 88) ccI 21 [some (k_rr G 65), some (k_rr G x1), none, none, none, none, none] [] σ (K  σ)) (hH : ∀ (x2 : Int32) (σ : Sg), Okk G l cX5_countRows 7 RX5 (some .int) (rmo 4 88) ccI 2 [some (k_rr G 65), some (k_rr G x1), some (.int x2), none, none, none, none] [] σ (H x2 σ)) (x2 : Int32)  (σ : Sg) : Okk G l cX5_countRows 7 RX5 (some .int) (rmo 4 88) ccI 2 [some (k_rr G 65), some (k_rr G x1), some (.int x2), none, none, none, none] [] σ (d_X5_countRows_2 x1 K H x2 σ) := by
  unfold d_X5_countRows_2
  refine ok_iload2 (dq_of td_X5_countRows 2 rfl) ?_
  refine ok_bipush (v := 98) (dq_of td_X5_countRows 3 rfl) (by decide) ?_
  refine ok_ic_ge (tgt := 21) (dq_of td_X5_countRows 4 rfl) (by decide) ?_ ?_
  · refine ok_wk (wk_s (wk_s (wk_n (wk_n (wk_n (wk_n (wk_n wk_0))))))) ?_
    exact hK _
  · refine ok_aload0 (dq_of td_X5_countRows 5 rfl) ?_
    refine ok_get (v := k_rr G 81) fl_X5_22 (by decide) ko_65 rfl (dq_of td_X5_countRows 6 rfl) ?_
    refine ok_iload2 (dq_of td_X5_countRows 7 rfl) ?_
    refine ok_iconst (v := 0) (dq_of td_X5_countRows 8 rfl) (by decide) ?_
    refine ok_iast ka_81 (dq_of td_X5_countRows 9 rfl) (fun σ1 => ?_)
    refine ok_jinc2 (w := 1) (dq_of td_X5_countRows 10 rfl) (by decide) rfl (by decide) ?_
    refine ok_goto (tgt := 2) (dq_of td_X5_countRows 11 rfl) (by decide) ?_
    refine ok_wk (wk_s (wk_s (wk_s (wk_n (wk_n (wk_n (wk_n wk_0))))))) ?_
    exact hH _ _
theorem ld_X5_countRows_2 {G : KW} {l : Launch} (x1 : Nat) (hx1 : k_tw x1) {K : Sg → Option (Int32 × Sg)} (hK : ∀  (σ : Sg), Okk G l cX5_countRows 7 RX5 (some .int) (rmo 4 88) ccI 21 [some (k_rr G 65), some (k_rr G x1), none, none, none, none, none] [] σ (K  σ)) (n : Nat) (x2 : Int32) (σ : Sg) : Okk G l cX5_countRows 7 RX5 (some .int) (rmo 4 88) ccI 2 [some (k_rr G 65), some (k_rr G x1), some (.int x2), none, none, none, none] [] σ (e_lp1 (d_X5_countRows_2 x1 K) n x2 σ) :=
  ok_lp1 (Lf := fun (x2 : Int32) => [some (k_rr G 65), some (k_rr G x1), some (.int x2), none, none, none, none]) (fun _ hH x2 σ => od_X5_countRows_2 _ hx1 hK hH x2 σ) n x2 σ
theorem ob_X5_countRows_104 {G : KW} {l : Launch} (x1 : Nat) (hx1 : k_tw x1) {K : Int32 → Sg → Option (Int32 × Sg)} {H : Int32 → Int32 → Sg → Option (Int32 × Sg)} (hK : ∀ (x2 : Int32) (σ : Sg), Okk G l cX5_countRows 7 RX5 (some .int) (rmo 4 88) ccI 114 [none, none, some (.int x2), none, none, none, none] [] σ (K x2 σ)) (hH : ∀ (x2 : Int32) (x3 : Int32) (σ : Sg), Okk G l cX5_countRows 7 RX5 (some .int) (rmo 4 88) ccI 30 [some (k_rr G 65), none, some (.int x2), some (.int x3), none, none, none] [] σ (H x2 x3 σ)) (x2 : Int32) (x3 : Int32)  (σ : Sg) : Okk G l cX5_countRows 7 RX5 (some .int) (rmo 4 88) ccI 104 [some (k_rr G 65), none, some (.int x2), some (.int x3), none, none, none] [] σ (b_X5_countRows_104 x1 K H x2 x3 σ) := by
  unfold b_X5_countRows_104
  refine ok_aload0 (dq_of td_X5_countRows 58 rfl) ?_
  refine call_X5_goOn ml_X5_87  ⟨Nat.le_of_ble_eq_true rfl, Nat.le_of_ble_eq_true rfl⟩ ⟨Nat.zero_le _, Nat.zero_le _⟩ (Nat.le_of_ble_eq_true rfl) (dq_of td_X5_countRows 59 rfl) (fun σ10 => ?_)
  refine ok_jinc3 (w := 1) (dq_of td_X5_countRows 60 rfl) (by decide) rfl (by decide) ?_
  refine ok_goto (tgt := 30) (dq_of td_X5_countRows 61 rfl) (by decide) ?_
  refine ok_wk (wk_s (wk_n (wk_s (wk_s (wk_n (wk_n (wk_n wk_0))))))) ?_
  exact hH _ _ _
theorem od_X5_countRows_30 {G : KW} {l : Launch} (x1 : Nat) (hx1 : k_tw x1) {K : Int32 → Sg → Option (Int32 × Sg)} {H : Int32 → Int32 → Sg → Option (Int32 × Sg)} (hK : ∀ (x2 : Int32) (σ : Sg), Okk G l cX5_countRows 7 RX5 (some .int) (rmo 4 88) ccI 114 [none, none, some (.int x2), none, none, none, none] [] σ (K x2 σ)) (hH : ∀ (x2 : Int32) (x3 : Int32) (σ : Sg), Okk G l cX5_countRows 7 RX5 (some .int) (rmo 4 88) ccI 30 [some (k_rr G 65), none, some (.int x2), some (.int x3), none, none, none] [] σ (H x2 x3 σ)) (x2 : Int32) (x3 : Int32)  (σ : Sg) : Okk G l cX5_countRows 7 RX5 (some .int) (rmo 4 88) ccI 30 [some (k_rr G 65), none, some (.int x2), some (.int x3), none, none, none] [] σ (d_X5_countRows_30 x1 K H x2 x3 σ) := by
  unfold d_X5_countRows_30
  refine ok_iload3 (dq_of td_X5_countRows 19 rfl) ?_
  refine ok_sipush (v := 7776) (dq_of td_X5_countRows 20 rfl) (by decide) ?_
  refine ok_ic_ge (tgt := 114) (dq_of td_X5_countRows 21 rfl) (by decide) ?_ ?_
  · refine ok_wk (wk_n (wk_n (wk_s (wk_n (wk_n (wk_n (wk_n wk_0))))))) ?_
    exact hK _ _
  · refine ok_aload0 (dq_of td_X5_countRows 22 rfl) ?_
    refine ok_get (v := .int (σ 65 4)) fl_X5_48 (by decide) ko_65 rfl (dq_of td_X5_countRows 23 rfl) ?_
    refine ok_if_eq (tgt := 114) (dq_of td_X5_countRows 24 rfl) (by decide) ?_ ?_
    · refine ok_wk (wk_n (wk_n (wk_s (wk_n (wk_n (wk_n (wk_n wk_0))))))) ?_
      exact hK _ _
    · refine ok_aload0 (dq_of td_X5_countRows 25 rfl) ?_
      refine call_X5_rowNumber ml_X5_83  ⟨Nat.le_of_ble_eq_true rfl, Nat.le_of_ble_eq_true rfl⟩ ⟨Nat.zero_le _, Nat.zero_le _⟩ (Nat.le_of_ble_eq_true rfl) (dq_of td_X5_countRows 26 rfl) (fun r5 σ4 => ?_)
      refine ok_istore4 (dq_of td_X5_countRows 27 rfl) rfl (by decide) ?_
      refine ok_iload4 (dq_of td_X5_countRows 28 rfl) ?_
      refine ok_bipush (v := 32) (dq_of td_X5_countRows 29 rfl) (by decide) ?_
      refine ok_idiv (dq_of td_X5_countRows 30 rfl) (by decide) ?_
      refine ok_gI (fun v6 => ?_)
      refine ok_istore5 (dq_of td_X5_countRows 31 rfl) rfl (by decide) ?_
      refine ok_iconst (v := 1) (dq_of td_X5_countRows 32 rfl) (by decide) ?_
      refine ok_iload4 (dq_of td_X5_countRows 33 rfl) ?_
      refine ok_bipush (v := 32) (dq_of td_X5_countRows 34 rfl) (by decide) ?_
      refine ok_irem (dq_of td_X5_countRows 35 rfl) (by decide) ?_
      refine ok_ishl (dq_of td_X5_countRows 36 rfl) ?_
      refine ok_gI (fun v7 => ?_)
      refine ok_istore6 (dq_of td_X5_countRows 37 rfl) rfl (by decide) ?_
      refine ok_iload5 (dq_of td_X5_countRows 38 rfl) ?_
      refine ok_bipush (v := 97) (dq_of td_X5_countRows 39 rfl) (by decide) ?_
      refine call_X6_within ml_X5_58  ⟨Nat.le_of_ble_eq_true rfl, Nat.le_of_ble_eq_true rfl⟩ ⟨Nat.zero_le _, Nat.zero_le _⟩ (Nat.le_of_ble_eq_true rfl) (dq_of td_X5_countRows 40 rfl) (fun r9 σ8 => ?_)
      refine ok_if_eq (tgt := 104) (dq_of td_X5_countRows 41 rfl) (by decide) ?_ ?_
      · refine ok_wk (wk_s (wk_n (wk_s (wk_s (wk_n (wk_n (wk_n wk_0))))))) ?_
        exact ob_X5_countRows_104 _ hx1 hK hH _ _  _
      · refine ok_aload0 (dq_of td_X5_countRows 42 rfl) ?_
        refine ok_get (v := k_rr G 81) fl_X5_22 (by decide) ko_65 rfl (dq_of td_X5_countRows 43 rfl) ?_
        refine ok_iload5 (dq_of td_X5_countRows 44 rfl) ?_
        refine ok_iald ka_81 (dq_of td_X5_countRows 45 rfl) ?_
        refine ok_iload6 (dq_of td_X5_countRows 46 rfl) ?_
        refine ok_iand (dq_of td_X5_countRows 47 rfl) ?_
        refine ok_if_ne (tgt := 104) (dq_of td_X5_countRows 48 rfl) (by decide) ?_ ?_
        · refine ok_wk (wk_s (wk_n (wk_s (wk_s (wk_n (wk_n (wk_n wk_0))))))) ?_
          exact ob_X5_countRows_104 _ hx1 hK hH _ _  _
        · refine ok_aload0 (dq_of td_X5_countRows 49 rfl) ?_
          refine ok_get (v := k_rr G 81) fl_X5_22 (by decide) ko_65 rfl (dq_of td_X5_countRows 50 rfl) ?_
          refine ok_iload5 (dq_of td_X5_countRows 51 rfl) ?_
          refine ok_dup2 (dq_of td_X5_countRows 52 rfl) rfl rfl ?_
          refine ok_iald ka_81 (dq_of td_X5_countRows 53 rfl) ?_
          refine ok_iload6 (dq_of td_X5_countRows 54 rfl) ?_
          refine ok_ior (dq_of td_X5_countRows 55 rfl) ?_
          refine ok_iast ka_81 (dq_of td_X5_countRows 56 rfl) (fun σ11 => ?_)
          refine ok_jinc2 (w := 1) (dq_of td_X5_countRows 57 rfl) (by decide) rfl (by decide) ?_
          refine ok_wk (wk_s (wk_n (wk_s (wk_s (wk_n (wk_n (wk_n wk_0))))))) ?_
          exact ob_X5_countRows_104 _ hx1 hK hH _ _  _
theorem ld_X5_countRows_30 {G : KW} {l : Launch} (x1 : Nat) (hx1 : k_tw x1) {K : Int32 → Sg → Option (Int32 × Sg)} (hK : ∀ (x2 : Int32) (σ : Sg), Okk G l cX5_countRows 7 RX5 (some .int) (rmo 4 88) ccI 114 [none, none, some (.int x2), none, none, none, none] [] σ (K x2 σ)) (n : Nat) (x2 : Int32) (x3 : Int32) (σ : Sg) : Okk G l cX5_countRows 7 RX5 (some .int) (rmo 4 88) ccI 30 [some (k_rr G 65), none, some (.int x2), some (.int x3), none, none, none] [] σ (e_lp2 (d_X5_countRows_30 x1 K) n x2 x3 σ) :=
  ok_lp2 (Lf := fun (x2 : Int32) (x3 : Int32) => [some (k_rr G 65), none, some (.int x2), some (.int x3), none, none, none]) (fun _ hH x2 x3 σ => od_X5_countRows_30 _ hx1 hK hH x2 x3 σ) n x2 x3 σ
def m_X5_countRows (x1 : Nat) (σ : Sg) : Option (Int32 × Sg) := e_lp1 (d_X5_countRows_2 x1 (fun σ2 => e_cV (m_X5_begin x1 σ2) (fun σ3 => e_lp2 (d_X5_countRows_30 x1 (fun x2q12 σ12 => some (x2q12, σ12))) e_F 0 0 σ3))) e_F 0 σ
theorem om_X5_countRows {G : KW} {l : Launch} (x1 : Nat) (hx1 : k_tw x1) (σ : Sg) : Okk G l cX5_countRows 7 RX5 (some .int) (rmo 4 88) ccI 0 [some (k_rr G 65), some (k_rr G x1), none, none, none, none, none] [] σ (m_X5_countRows x1 σ) := by
  unfold m_X5_countRows
  refine ok_iconst (v := 0) (dq_of td_X5_countRows 0 rfl) (by decide) ?_
  refine ok_istore2 (dq_of td_X5_countRows 1 rfl) rfl (by decide) ?_
  refine ok_wk (wk_s (wk_s (wk_s (wk_n (wk_n (wk_n (wk_n wk_0))))))) ?_
  refine ld_X5_countRows_2 _ hx1 (fun σ2 => ?_) _ _ _
  refine ok_iconst (v := 0) (dq_of td_X5_countRows 12 rfl) (by decide) ?_
  refine ok_istore2 (dq_of td_X5_countRows 13 rfl) rfl (by decide) ?_
  refine ok_aload0 (dq_of td_X5_countRows 14 rfl) ?_
  refine ok_aload1 (dq_of td_X5_countRows 15 rfl) ?_
  refine call_X5_begin ml_X5_80 hx1 ⟨Nat.le_of_ble_eq_true rfl, Nat.le_of_ble_eq_true rfl⟩ ⟨Nat.zero_le _, Nat.zero_le _⟩ (Nat.le_of_ble_eq_true rfl) (dq_of td_X5_countRows 16 rfl) (fun σ3 => ?_)
  refine ok_iconst (v := 0) (dq_of td_X5_countRows 17 rfl) (by decide) ?_
  refine ok_istore3 (dq_of td_X5_countRows 18 rfl) rfl (by decide) ?_
  refine ok_wk (wk_s (wk_n (wk_s (wk_s (wk_n (wk_n (wk_n wk_0))))))) ?_
  refine ld_X5_countRows_30 _ hx1 (fun x2q12 σ12 => ?_) _ _ _ _
  refine ok_iload2 (dq_of td_X5_countRows 62 rfl) ?_
  exact ok_iret (dq_of td_X5_countRows 63 rfl)
theorem ct_X5_countRows {G : KW} {l : Launch} (x1 : Nat) (hx1 : k_tw x1) (σ : Sg) : ∀ b, m_X5_countRows x1 σ = some b → MetF G l yX5_countRows cX5_countRows 7 (some .int) 4 88 [k_rr G 65, k_rr G x1] (k_wl G σ) (ccI b).1 (k_wl G (ccI b).2) :=
  met_of (by decide) (Nat.le_of_ble_eq_true rfl) rfl (om_X5_countRows _ hx1 σ)
theorem call_X5_countRows {G : KW} {l : Launch} {cc : ByteArray} {nL : Nat} {own : String} {rt : Option FieldType} {R : Room} {α : Type} {X : State → Array Value → Method → Prop} {Z : α → List Frame → Array Value → State → State → Prop} {k0 n0 pc index : Nat} {L : List (Option Value)} {S : List Value} {σ : Sg} {F : Int32 → Sg → Option α} {x1 : Nat} (lk : MLk own index yX5_countRows) (hx1 : k_tw x1) (hR : R.frames ≥ 4 + 1 ∧ R.locals ≥ 8 + (7 + 11) + 88) (hcs : k0 ≤ R.cells ∧ n0 ≤ R.slots) (hro : (S.map fun v => v.category).sum ≤ 8) (d : decode cc pc = .ok (.invokevirtual index, 3)) (kk : ∀ (r : Int32) (σ' : Sg), Okg G l cc nL own rt R X Z k0 n0 (pc + 3) L (.int r :: S) σ' (F r σ')) : Okg G l cc nL own rt R X Z k0 n0 pc L (k_rr G x1 :: k_rr G 65 :: S) σ (e_cI (m_X5_countRows x1 σ) F) :=
  ok_cV (cb := ccI) (As := [k_rr G x1]) (ct_X5_countRows _ hx1 σ) mo_X5_countRows hi_X5_countRows lk rfl (ci := 5) rfl rfl (by decide) ko_65 hR rfl hcs hro d (fun b => kk b.1 b.2)
/-! CoatDinner.person(I)I -/
def m_X6_person (x1 : Int32) (σ : Sg) : Option (Int32 × Sg) := e_cI (m_X6_within x1 4 σ) (fun r2 σ1 => (if r2 = 0 then some ((-1), σ1) else e_cI (m_X4_hasPerson 1 x1 σ1) (fun r4 σ3 => (if r4 = 0 then e_cV (m_X4_welcome 1 x1 σ3) (fun σ5 => e_cI (m_J6_bitCount_0f7a4 (σ5 1 0) σ5) (fun r7 σ6 => some (r7, σ6))) else some ((-3), σ3)))))
theorem om_X6_person {G : KW} {l : Launch} (x1 : Int32)  (σ : Sg) : Okk G l cX6_person 2 RX6 (some .int) (rmo 2 42) ccI 0 [some (k_rr G 0), some (.int x1)] [] σ (m_X6_person x1 σ) := by
  unfold m_X6_person
  refine ok_iload1 (dq_of td_X6_person 0 rfl) ?_
  refine ok_iconst (v := 4) (dq_of td_X6_person 1 rfl) (by decide) ?_
  refine call_X6_within ml_X6_66  ⟨Nat.le_of_ble_eq_true rfl, Nat.le_of_ble_eq_true rfl⟩ ⟨Nat.zero_le _, Nat.zero_le _⟩ (Nat.le_of_ble_eq_true rfl) (dq_of td_X6_person 2 rfl) (fun r2 σ1 => ?_)
  refine ok_if_ne (tgt := 10) (dq_of td_X6_person 3 rfl) (by decide) ?_ ?_
  · refine ok_aload0 (dq_of td_X6_person 6 rfl) ?_
    refine ok_get (v := k_rr G 1) fl_X6_10 (by decide) ko_0 rfl (dq_of td_X6_person 7 rfl) ?_
    refine ok_iload1 (dq_of td_X6_person 8 rfl) ?_
    refine call_X4_hasPerson ml_X6_70 tw_1 ⟨Nat.le_of_ble_eq_true rfl, Nat.le_of_ble_eq_true rfl⟩ ⟨Nat.zero_le _, Nat.zero_le _⟩ (Nat.le_of_ble_eq_true rfl) (dq_of td_X6_person 9 rfl) (fun r4 σ3 => ?_)
    refine ok_if_eq (tgt := 24) (dq_of td_X6_person 10 rfl) (by decide) ?_ ?_
    · refine ok_aload0 (dq_of td_X6_person 13 rfl) ?_
      refine ok_get (v := k_rr G 1) fl_X6_10 (by decide) ko_0 rfl (dq_of td_X6_person 14 rfl) ?_
      refine ok_iload1 (dq_of td_X6_person 15 rfl) ?_
      refine call_X4_welcome ml_X6_74 tw_1 ⟨Nat.le_of_ble_eq_true rfl, Nat.le_of_ble_eq_true rfl⟩ ⟨Nat.zero_le _, Nat.zero_le _⟩ (Nat.le_of_ble_eq_true rfl) (dq_of td_X6_person 16 rfl) (fun σ5 => ?_)
      refine ok_aload0 (dq_of td_X6_person 17 rfl) ?_
      refine ok_get (v := k_rr G 1) fl_X6_10 (by decide) ko_0 rfl (dq_of td_X6_person 18 rfl) ?_
      refine ok_get (v := .int (σ5 1 0)) fl_X6_78 (by decide) (isT_kd tw_1) rfl (dq_of td_X6_person 19 rfl) ?_
      refine call_J6_bitCount_0f7a4 ml_X6_82  ⟨Nat.le_of_ble_eq_true rfl, Nat.le_of_ble_eq_true rfl⟩ ⟨Nat.zero_le _, Nat.zero_le _⟩ (Nat.le_of_ble_eq_true rfl) (dq_of td_X6_person 20 rfl) (fun r7 σ6 => ?_)
      exact ok_iret (dq_of td_X6_person 21 rfl)
    · refine ok_bipush (v := (-3)) (dq_of td_X6_person 11 rfl) (by decide) ?_
      exact ok_iret (dq_of td_X6_person 12 rfl)
  · refine ok_iconst (v := (-1)) (dq_of td_X6_person 4 rfl) (by decide) ?_
    exact ok_iret (dq_of td_X6_person 5 rfl)
theorem ct_X6_person {G : KW} {l : Launch} (x1 : Int32)  (σ : Sg) : ∀ b, m_X6_person x1 σ = some b → MetF G l yX6_person cX6_person 2 (some .int) 2 42 [k_rr G 0, .int x1] (k_wl G σ) (ccI b).1 (k_wl G (ccI b).2) :=
  met_of (by decide) (Nat.le_of_ble_eq_true rfl) rfl (om_X6_person _  σ)
theorem call_X6_person {G : KW} {l : Launch} {cc : ByteArray} {nL : Nat} {own : String} {rt : Option FieldType} {R : Room} {α : Type} {X : State → Array Value → Method → Prop} {Z : α → List Frame → Array Value → State → State → Prop} {k0 n0 pc index : Nat} {L : List (Option Value)} {S : List Value} {σ : Sg} {F : Int32 → Sg → Option α} {x1 : Int32} (lk : MLk own index yX6_person)  (hR : R.frames ≥ 2 + 1 ∧ R.locals ≥ 8 + (2 + 11) + 42) (hcs : k0 ≤ R.cells ∧ n0 ≤ R.slots) (hro : (S.map fun v => v.category).sum ≤ 8) (d : decode cc pc = .ok (.invokevirtual index, 3)) (kk : ∀ (r : Int32) (σ' : Sg), Okg G l cc nL own rt R X Z k0 n0 (pc + 3) L (.int r :: S) σ' (F r σ')) : Okg G l cc nL own rt R X Z k0 n0 pc L (.int x1 :: k_rr G 0 :: S) σ (e_cI (m_X6_person x1 σ) F) :=
  ok_cV (cb := ccI) (As := [.int x1]) (ct_X6_person _  σ) mo_X6_person hi_X6_person lk rfl (ci := 6) rfl rfl (by decide) ko_0 hR rfl hcs hro d (fun b => kk b.1 b.2)
/-! CoatDinner.leave(I)I -/
def m_X6_leave (x1 : Int32) (σ : Sg) : Option (Int32 × Sg) := e_cI (m_X4_hasPerson 1 x1 σ) (fun r2 σ1 => (if r2 = 0 then some ((-1), σ1) else e_cV (m_X4_depart 1 x1 σ1) (fun σ3 => e_cI (m_J6_bitCount_0f7a4 (σ3 1 0) σ3) (fun r5 σ4 => some (r5, σ4)))))
theorem om_X6_leave {G : KW} {l : Launch} (x1 : Int32)  (σ : Sg) : Okk G l cX6_leave 2 RX6 (some .int) (rmo 2 44) ccI 0 [some (k_rr G 0), some (.int x1)] [] σ (m_X6_leave x1 σ) := by
  unfold m_X6_leave
  refine ok_aload0 (dq_of td_X6_leave 0 rfl) ?_
  refine ok_get (v := k_rr G 1) fl_X6_10 (by decide) ko_0 rfl (dq_of td_X6_leave 1 rfl) ?_
  refine ok_iload1 (dq_of td_X6_leave 2 rfl) ?_
  refine call_X4_hasPerson ml_X6_70 tw_1 ⟨Nat.le_of_ble_eq_true rfl, Nat.le_of_ble_eq_true rfl⟩ ⟨Nat.zero_le _, Nat.zero_le _⟩ (Nat.le_of_ble_eq_true rfl) (dq_of td_X6_leave 3 rfl) (fun r2 σ1 => ?_)
  refine ok_if_ne (tgt := 13) (dq_of td_X6_leave 4 rfl) (by decide) ?_ ?_
  · refine ok_aload0 (dq_of td_X6_leave 7 rfl) ?_
    refine ok_get (v := k_rr G 1) fl_X6_10 (by decide) ko_0 rfl (dq_of td_X6_leave 8 rfl) ?_
    refine ok_iload1 (dq_of td_X6_leave 9 rfl) ?_
    refine call_X4_depart ml_X6_88 tw_1 ⟨Nat.le_of_ble_eq_true rfl, Nat.le_of_ble_eq_true rfl⟩ ⟨Nat.zero_le _, Nat.zero_le _⟩ (Nat.le_of_ble_eq_true rfl) (dq_of td_X6_leave 10 rfl) (fun σ3 => ?_)
    refine ok_aload0 (dq_of td_X6_leave 11 rfl) ?_
    refine ok_get (v := k_rr G 1) fl_X6_10 (by decide) ko_0 rfl (dq_of td_X6_leave 12 rfl) ?_
    refine ok_get (v := .int (σ3 1 0)) fl_X6_78 (by decide) (isT_kd tw_1) rfl (dq_of td_X6_leave 13 rfl) ?_
    refine call_J6_bitCount_0f7a4 ml_X6_82  ⟨Nat.le_of_ble_eq_true rfl, Nat.le_of_ble_eq_true rfl⟩ ⟨Nat.zero_le _, Nat.zero_le _⟩ (Nat.le_of_ble_eq_true rfl) (dq_of td_X6_leave 14 rfl) (fun r5 σ4 => ?_)
    exact ok_iret (dq_of td_X6_leave 15 rfl)
  · refine ok_iconst (v := (-1)) (dq_of td_X6_leave 5 rfl) (by decide) ?_
    exact ok_iret (dq_of td_X6_leave 6 rfl)
theorem ct_X6_leave {G : KW} {l : Launch} (x1 : Int32)  (σ : Sg) : ∀ b, m_X6_leave x1 σ = some b → MetF G l yX6_leave cX6_leave 2 (some .int) 2 44 [k_rr G 0, .int x1] (k_wl G σ) (ccI b).1 (k_wl G (ccI b).2) :=
  met_of (by decide) (Nat.le_of_ble_eq_true rfl) rfl (om_X6_leave _  σ)
theorem call_X6_leave {G : KW} {l : Launch} {cc : ByteArray} {nL : Nat} {own : String} {rt : Option FieldType} {R : Room} {α : Type} {X : State → Array Value → Method → Prop} {Z : α → List Frame → Array Value → State → State → Prop} {k0 n0 pc index : Nat} {L : List (Option Value)} {S : List Value} {σ : Sg} {F : Int32 → Sg → Option α} {x1 : Int32} (lk : MLk own index yX6_leave)  (hR : R.frames ≥ 2 + 1 ∧ R.locals ≥ 8 + (2 + 11) + 44) (hcs : k0 ≤ R.cells ∧ n0 ≤ R.slots) (hro : (S.map fun v => v.category).sum ≤ 8) (d : decode cc pc = .ok (.invokevirtual index, 3)) (kk : ∀ (r : Int32) (σ' : Sg), Okg G l cc nL own rt R X Z k0 n0 (pc + 3) L (.int r :: S) σ' (F r σ')) : Okg G l cc nL own rt R X Z k0 n0 pc L (.int x1 :: k_rr G 0 :: S) σ (e_cI (m_X6_leave x1 σ) F) :=
  ok_cV (cb := ccI) (As := [.int x1]) (ct_X6_leave _  σ) mo_X6_leave hi_X6_leave lk rfl (ci := 6) rfl rfl (by decide) ko_0 hR rfl hcs hro d (fun b => kk b.1 b.2)
/-! CoatDinner.coat(III)I -/
def m_X6_coat (x1 : Int32) (x2 : Int32) (x3 : Int32) (σ : Sg) : Option (Int32 × Sg) := e_cI (m_X6_within x1 4 σ) (fun r2 σ1 => (if r2 = 0 then some ((-1), σ1) else e_cI (m_X4_hasPerson 1 x3 σ1) (fun r4 σ3 => (if r4 = 0 then some ((-1), σ3) else e_cI (m_X6_within x2 99 σ3) (fun r6 σ5 => (if r6 = 0 then some ((-2), σ5) else e_cV (m_X4_bring 1 x1 x2 x3 σ5) (fun σ7 => e_cI (m_J6_bitCount_0f7a4 (σ7 1 1) σ7) (fun r9 σ8 => some (r9, σ8)))))))))
theorem om_X6_coat {G : KW} {l : Launch} (x1 : Int32) (x2 : Int32) (x3 : Int32)  (σ : Sg) : Okk G l cX6_coat 4 RX6 (some .int) (rmo 2 45) ccI 0 [some (k_rr G 0), some (.int x1), some (.int x2), some (.int x3)] [] σ (m_X6_coat x1 x2 x3 σ) := by
  unfold m_X6_coat
  refine ok_iload1 (dq_of td_X6_coat 0 rfl) ?_
  refine ok_iconst (v := 4) (dq_of td_X6_coat 1 rfl) (by decide) ?_
  refine call_X6_within ml_X6_66  ⟨Nat.le_of_ble_eq_true rfl, Nat.le_of_ble_eq_true rfl⟩ ⟨Nat.zero_le _, Nat.zero_le _⟩ (Nat.le_of_ble_eq_true rfl) (dq_of td_X6_coat 2 rfl) (fun r2 σ1 => ?_)
  refine ok_if_eq (tgt := 19) (dq_of td_X6_coat 3 rfl) (by decide) ?_ ?_
  · refine ok_iconst (v := (-1)) (dq_of td_X6_coat 9 rfl) (by decide) ?_
    exact ok_iret (dq_of td_X6_coat 10 rfl)
  · refine ok_aload0 (dq_of td_X6_coat 4 rfl) ?_
    refine ok_get (v := k_rr G 1) fl_X6_10 (by decide) ko_0 rfl (dq_of td_X6_coat 5 rfl) ?_
    refine ok_iload3 (dq_of td_X6_coat 6 rfl) ?_
    refine call_X4_hasPerson ml_X6_70 tw_1 ⟨Nat.le_of_ble_eq_true rfl, Nat.le_of_ble_eq_true rfl⟩ ⟨Nat.zero_le _, Nat.zero_le _⟩ (Nat.le_of_ble_eq_true rfl) (dq_of td_X6_coat 7 rfl) (fun r4 σ3 => ?_)
    refine ok_if_ne (tgt := 21) (dq_of td_X6_coat 8 rfl) (by decide) ?_ ?_
    · refine ok_iload2 (dq_of td_X6_coat 11 rfl) ?_
      refine ok_bipush (v := 99) (dq_of td_X6_coat 12 rfl) (by decide) ?_
      refine call_X6_within ml_X6_66  ⟨Nat.le_of_ble_eq_true rfl, Nat.le_of_ble_eq_true rfl⟩ ⟨Nat.zero_le _, Nat.zero_le _⟩ (Nat.le_of_ble_eq_true rfl) (dq_of td_X6_coat 13 rfl) (fun r6 σ5 => ?_)
      refine ok_if_ne (tgt := 33) (dq_of td_X6_coat 14 rfl) (by decide) ?_ ?_
      · refine ok_aload0 (dq_of td_X6_coat 17 rfl) ?_
        refine ok_get (v := k_rr G 1) fl_X6_10 (by decide) ko_0 rfl (dq_of td_X6_coat 18 rfl) ?_
        refine ok_iload1 (dq_of td_X6_coat 19 rfl) ?_
        refine ok_iload2 (dq_of td_X6_coat 20 rfl) ?_
        refine ok_iload3 (dq_of td_X6_coat 21 rfl) ?_
        refine call_X4_bring ml_X6_91 tw_1 ⟨Nat.le_of_ble_eq_true rfl, Nat.le_of_ble_eq_true rfl⟩ ⟨Nat.zero_le _, Nat.zero_le _⟩ (Nat.le_of_ble_eq_true rfl) (dq_of td_X6_coat 22 rfl) (fun σ7 => ?_)
        refine ok_aload0 (dq_of td_X6_coat 23 rfl) ?_
        refine ok_get (v := k_rr G 1) fl_X6_10 (by decide) ko_0 rfl (dq_of td_X6_coat 24 rfl) ?_
        refine ok_get (v := .int (σ7 1 1)) fl_X6_95 (by decide) (isT_kd tw_1) rfl (dq_of td_X6_coat 25 rfl) ?_
        refine call_J6_bitCount_0f7a4 ml_X6_82  ⟨Nat.le_of_ble_eq_true rfl, Nat.le_of_ble_eq_true rfl⟩ ⟨Nat.zero_le _, Nat.zero_le _⟩ (Nat.le_of_ble_eq_true rfl) (dq_of td_X6_coat 26 rfl) (fun r9 σ8 => ?_)
        exact ok_iret (dq_of td_X6_coat 27 rfl)
      · refine ok_bipush (v := (-2)) (dq_of td_X6_coat 15 rfl) (by decide) ?_
        exact ok_iret (dq_of td_X6_coat 16 rfl)
    · refine ok_iconst (v := (-1)) (dq_of td_X6_coat 9 rfl) (by decide) ?_
      exact ok_iret (dq_of td_X6_coat 10 rfl)
theorem ct_X6_coat {G : KW} {l : Launch} (x1 : Int32) (x2 : Int32) (x3 : Int32)  (σ : Sg) : ∀ b, m_X6_coat x1 x2 x3 σ = some b → MetF G l yX6_coat cX6_coat 4 (some .int) 2 45 [k_rr G 0, .int x1, .int x2, .int x3] (k_wl G σ) (ccI b).1 (k_wl G (ccI b).2) :=
  met_of (by decide) (Nat.le_of_ble_eq_true rfl) rfl (om_X6_coat _ _ _  σ)
theorem call_X6_coat {G : KW} {l : Launch} {cc : ByteArray} {nL : Nat} {own : String} {rt : Option FieldType} {R : Room} {α : Type} {X : State → Array Value → Method → Prop} {Z : α → List Frame → Array Value → State → State → Prop} {k0 n0 pc index : Nat} {L : List (Option Value)} {S : List Value} {σ : Sg} {F : Int32 → Sg → Option α} {x1 : Int32} {x2 : Int32} {x3 : Int32} (lk : MLk own index yX6_coat)  (hR : R.frames ≥ 2 + 1 ∧ R.locals ≥ 8 + (4 + 11) + 45) (hcs : k0 ≤ R.cells ∧ n0 ≤ R.slots) (hro : (S.map fun v => v.category).sum ≤ 8) (d : decode cc pc = .ok (.invokevirtual index, 3)) (kk : ∀ (r : Int32) (σ' : Sg), Okg G l cc nL own rt R X Z k0 n0 (pc + 3) L (.int r :: S) σ' (F r σ')) : Okg G l cc nL own rt R X Z k0 n0 pc L (.int x3 :: .int x2 :: .int x1 :: k_rr G 0 :: S) σ (e_cI (m_X6_coat x1 x2 x3 σ) F) :=
  ok_cV (cb := ccI) (As := [.int x1, .int x2, .int x3]) (ct_X6_coat _ _ _  σ) mo_X6_coat hi_X6_coat lk rfl (ci := 6) rfl rfl (by decide) ko_0 hR rfl hcs hro d (fun b => kk b.1 b.2)
/-! CoatDinner.mostOfTrait(I)I -/
def m_X6_mostOfTrait (x0 : Int32) (σ : Sg) : Option (Int32 × Sg) := (if x0 = 0 then some (99, σ) else (if x0 = 1 then some (10, σ) else some (1, σ)))
theorem om_X6_mostOfTrait {G : KW} {l : Launch} (x0 : Int32)  (σ : Sg) : Okk G l cX6_mostOfTrait 1 RX6 (some .int) (rmo 0 0) ccI 0 [some (.int x0)] [] σ (m_X6_mostOfTrait x0 σ) := by
  unfold m_X6_mostOfTrait
  refine ok_iload0 (dq_of td_X6_mostOfTrait 0 rfl) ?_
  refine ok_if_ne (tgt := 7) (dq_of td_X6_mostOfTrait 1 rfl) (by decide) ?_ ?_
  · refine ok_iload0 (dq_of td_X6_mostOfTrait 4 rfl) ?_
    refine ok_iconst (v := 1) (dq_of td_X6_mostOfTrait 5 rfl) (by decide) ?_
    refine ok_ic_ne (tgt := 17) (dq_of td_X6_mostOfTrait 6 rfl) (by decide) ?_ ?_
    · refine ok_iconst (v := 1) (dq_of td_X6_mostOfTrait 9 rfl) (by decide) ?_
      exact ok_iret (dq_of td_X6_mostOfTrait 10 rfl)
    · refine ok_bipush (v := 10) (dq_of td_X6_mostOfTrait 7 rfl) (by decide) ?_
      refine ok_goto (tgt := 18) (dq_of td_X6_mostOfTrait 8 rfl) (by decide) ?_
      exact ok_iret (dq_of td_X6_mostOfTrait 10 rfl)
  · refine ok_bipush (v := 99) (dq_of td_X6_mostOfTrait 2 rfl) (by decide) ?_
    exact ok_iret (dq_of td_X6_mostOfTrait 3 rfl)
theorem ct_X6_mostOfTrait {G : KW} {l : Launch} (x0 : Int32)  (σ : Sg) : ∀ b, m_X6_mostOfTrait x0 σ = some b → MetF G l yX6_mostOfTrait cX6_mostOfTrait 1 (some .int) 0 0 [.int x0] (k_wl G σ) (ccI b).1 (k_wl G (ccI b).2) :=
  met_of (by decide) (Nat.le_of_ble_eq_true rfl) rfl (om_X6_mostOfTrait _  σ)
theorem call_X6_mostOfTrait {G : KW} {l : Launch} {cc : ByteArray} {nL : Nat} {own : String} {rt : Option FieldType} {R : Room} {α : Type} {X : State → Array Value → Method → Prop} {Z : α → List Frame → Array Value → State → State → Prop} {k0 n0 pc index : Nat} {L : List (Option Value)} {S : List Value} {σ : Sg} {F : Int32 → Sg → Option α} {x0 : Int32} (lk : MLk own index yX6_mostOfTrait)  (hR : R.frames ≥ 0 + 1 ∧ R.locals ≥ 8 + (1 + 11) + 0) (hcs : k0 ≤ R.cells ∧ n0 ≤ R.slots) (hro : (S.map fun v => v.category).sum ≤ 8) (d : decode cc pc = .ok (.invokestatic index, 3)) (kk : ∀ (r : Int32) (σ' : Sg), Okg G l cc nL own rt R X Z k0 n0 (pc + 3) L (.int r :: S) σ' (F r σ')) : Okg G l cc nL own rt R X Z k0 n0 pc L (.int x0 :: S) σ (e_cI (m_X6_mostOfTrait x0 σ) F) :=
  ok_cS (cb := ccI) (ct_X6_mostOfTrait _  σ) mo_X6_mostOfTrait hi_X6_mostOfTrait lk rfl hR rfl hcs hro d (fun b => kk b.1 b.2)
/-! CoatDinner.set(III)I -/
def b_X6_set_62 (x1 : Int32) (x2 : Int32) (x3 : Int32)  (σ : Sg) : Option (Int32 × Sg) := e_cR (m_X4_trait 1 x2 σ) (fun r10 σ9 => e_gd (k_ar r10) (e_gd (k_in x1 (k_ln r10)) (e_lt (σ9 r10 (Int32.toNatClampNeg x1)) (fun v12 => e_gd (k_ar r10) (e_wr σ9 r10 x1 (k_ln r10) x3 (fun σ13 => some (v12, σ13)))))))
theorem ob_X6_set_62 {G : KW} {l : Launch} (x1 : Int32) (x2 : Int32) (x3 : Int32)    (σ : Sg) : Okk G l cX6_set 6 RX6 (some .int) (rmo 1 23) ccI 62 [some (k_rr G 0), some (.int x1), some (.int x2), some (.int x3), none, none] [] σ (b_X6_set_62 x1 x2 x3  σ) := by
  unfold b_X6_set_62
  refine ok_aload0 (dq_of td_X6_set 32 rfl) ?_
  refine ok_get (v := k_rr G 1) fl_X6_10 (by decide) ko_0 rfl (dq_of td_X6_set 33 rfl) ?_
  refine ok_iload2 (dq_of td_X6_set 34 rfl) ?_
  refine call_X4_trait ml_X6_107 tw_1 ⟨Nat.le_of_ble_eq_true rfl, Nat.le_of_ble_eq_true rfl⟩ ⟨Nat.zero_le _, Nat.zero_le _⟩ (Nat.le_of_ble_eq_true rfl) (dq_of td_X6_set 35 rfl) (fun r10 σ9 => ?_)
  refine ok_astore4 (dq_of td_X6_set 36 rfl) rfl (by decide) ?_
  refine ok_aload4 (dq_of td_X6_set 37 rfl) ?_
  refine ok_iload1 (dq_of td_X6_set 38 rfl) ?_
  refine ok_gd (fun hg11 => ?_)
  refine ok_iald (k_ar_of hg11) (dq_of td_X6_set 39 rfl) ?_
  refine ok_gI (fun v12 => ?_)
  refine ok_istore5 (dq_of td_X6_set 40 rfl) rfl (by decide) ?_
  refine ok_aload4 (dq_of td_X6_set 41 rfl) ?_
  refine ok_iload1 (dq_of td_X6_set 42 rfl) ?_
  refine ok_iload3 (dq_of td_X6_set 43 rfl) ?_
  refine ok_gd (fun hg14 => ?_)
  refine ok_iast (k_ar_of hg14) (dq_of td_X6_set 44 rfl) (fun σ13 => ?_)
  refine ok_iload5 (dq_of td_X6_set 45 rfl) ?_
  exact ok_iret (dq_of td_X6_set 46 rfl)
def m_X6_set (x1 : Int32) (x2 : Int32) (x3 : Int32) (σ : Sg) : Option (Int32 × Sg) := e_cI (m_X4_hasCoat 1 x1 σ) (fun r2 σ1 => (if r2 = 0 then some ((-1), σ1) else e_cI (m_X6_within x2 2 σ1) (fun r4 σ3 => (if r4 = 0 then some ((-2), σ3) else e_cI (m_X6_mostOfTrait x2 σ3) (fun r6 σ5 => e_cI (m_X6_within x3 r6 σ5) (fun r8 σ7 => (if r8 = 0 then some ((-2), σ7) else (if x2 = 2 then (if x3 = 0 then e_cI (m_X4_wearers 1 x1 σ7) (fun r16 σ15 => e_cI (m_J6_bitCount_0f7a4 r16 σ15) (fun r18 σ17 => (if r18 ≤ 1 then b_X6_set_62 x1 x2 x3 σ17 else some ((-3), σ17)))) else b_X6_set_62 x1 x2 x3 σ7) else b_X6_set_62 x1 x2 x3 σ7))))))))
theorem om_X6_set {G : KW} {l : Launch} (x1 : Int32) (x2 : Int32) (x3 : Int32)  (σ : Sg) : Okk G l cX6_set 6 RX6 (some .int) (rmo 1 23) ccI 0 [some (k_rr G 0), some (.int x1), some (.int x2), some (.int x3), none, none] [] σ (m_X6_set x1 x2 x3 σ) := by
  unfold m_X6_set
  refine ok_aload0 (dq_of td_X6_set 0 rfl) ?_
  refine ok_get (v := k_rr G 1) fl_X6_10 (by decide) ko_0 rfl (dq_of td_X6_set 1 rfl) ?_
  refine ok_iload1 (dq_of td_X6_set 2 rfl) ?_
  refine call_X4_hasCoat ml_X6_98 tw_1 ⟨Nat.le_of_ble_eq_true rfl, Nat.le_of_ble_eq_true rfl⟩ ⟨Nat.zero_le _, Nat.zero_le _⟩ (Nat.le_of_ble_eq_true rfl) (dq_of td_X6_set 3 rfl) (fun r2 σ1 => ?_)
  refine ok_if_ne (tgt := 13) (dq_of td_X6_set 4 rfl) (by decide) ?_ ?_
  · refine ok_iload2 (dq_of td_X6_set 7 rfl) ?_
    refine ok_iconst (v := 2) (dq_of td_X6_set 8 rfl) (by decide) ?_
    refine call_X6_within ml_X6_66  ⟨Nat.le_of_ble_eq_true rfl, Nat.le_of_ble_eq_true rfl⟩ ⟨Nat.zero_le _, Nat.zero_le _⟩ (Nat.le_of_ble_eq_true rfl) (dq_of td_X6_set 9 rfl) (fun r4 σ3 => ?_)
    refine ok_if_eq (tgt := 32) (dq_of td_X6_set 10 rfl) (by decide) ?_ ?_
    · refine ok_bipush (v := (-2)) (dq_of td_X6_set 16 rfl) (by decide) ?_
      exact ok_iret (dq_of td_X6_set 17 rfl)
    · refine ok_iload3 (dq_of td_X6_set 11 rfl) ?_
      refine ok_iload2 (dq_of td_X6_set 12 rfl) ?_
      refine call_X6_mostOfTrait ml_X6_101  ⟨Nat.le_of_ble_eq_true rfl, Nat.le_of_ble_eq_true rfl⟩ ⟨Nat.zero_le _, Nat.zero_le _⟩ (Nat.le_of_ble_eq_true rfl) (dq_of td_X6_set 13 rfl) (fun r6 σ5 => ?_)
      refine call_X6_within ml_X6_66  ⟨Nat.le_of_ble_eq_true rfl, Nat.le_of_ble_eq_true rfl⟩ ⟨Nat.zero_le _, Nat.zero_le _⟩ (Nat.le_of_ble_eq_true rfl) (dq_of td_X6_set 14 rfl) (fun r8 σ7 => ?_)
      refine ok_if_ne (tgt := 35) (dq_of td_X6_set 15 rfl) (by decide) ?_ ?_
      · refine ok_iload2 (dq_of td_X6_set 18 rfl) ?_
        refine ok_iconst (v := 2) (dq_of td_X6_set 19 rfl) (by decide) ?_
        refine ok_ic_ne (tgt := 62) (dq_of td_X6_set 20 rfl) (by decide) ?_ ?_
        · refine ok_wk (wk_s (wk_s (wk_s (wk_s (wk_n (wk_n wk_0)))))) ?_
          exact ob_X6_set_62 _ _ _   _
        · refine ok_iload3 (dq_of td_X6_set 21 rfl) ?_
          refine ok_if_ne (tgt := 62) (dq_of td_X6_set 22 rfl) (by decide) ?_ ?_
          · refine ok_wk (wk_s (wk_s (wk_s (wk_s (wk_n (wk_n wk_0)))))) ?_
            exact ob_X6_set_62 _ _ _   _
          · refine ok_aload0 (dq_of td_X6_set 23 rfl) ?_
            refine ok_get (v := k_rr G 1) fl_X6_10 (by decide) ko_0 rfl (dq_of td_X6_set 24 rfl) ?_
            refine ok_iload1 (dq_of td_X6_set 25 rfl) ?_
            refine call_X4_wearers ml_X6_104 tw_1 ⟨Nat.le_of_ble_eq_true rfl, Nat.le_of_ble_eq_true rfl⟩ ⟨Nat.zero_le _, Nat.zero_le _⟩ (Nat.le_of_ble_eq_true rfl) (dq_of td_X6_set 26 rfl) (fun r16 σ15 => ?_)
            refine call_J6_bitCount_0f7a4 ml_X6_82  ⟨Nat.le_of_ble_eq_true rfl, Nat.le_of_ble_eq_true rfl⟩ ⟨Nat.zero_le _, Nat.zero_le _⟩ (Nat.le_of_ble_eq_true rfl) (dq_of td_X6_set 27 rfl) (fun r18 σ17 => ?_)
            refine ok_iconst (v := 1) (dq_of td_X6_set 28 rfl) (by decide) ?_
            refine ok_ic_le (tgt := 62) (dq_of td_X6_set 29 rfl) (by decide) ?_ ?_
            · refine ok_wk (wk_s (wk_s (wk_s (wk_s (wk_n (wk_n wk_0)))))) ?_
              exact ob_X6_set_62 _ _ _   _
            · refine ok_bipush (v := (-3)) (dq_of td_X6_set 30 rfl) (by decide) ?_
              exact ok_iret (dq_of td_X6_set 31 rfl)
      · refine ok_bipush (v := (-2)) (dq_of td_X6_set 16 rfl) (by decide) ?_
        exact ok_iret (dq_of td_X6_set 17 rfl)
  · refine ok_iconst (v := (-1)) (dq_of td_X6_set 5 rfl) (by decide) ?_
    exact ok_iret (dq_of td_X6_set 6 rfl)
theorem ct_X6_set {G : KW} {l : Launch} (x1 : Int32) (x2 : Int32) (x3 : Int32)  (σ : Sg) : ∀ b, m_X6_set x1 x2 x3 σ = some b → MetF G l yX6_set cX6_set 6 (some .int) 1 23 [k_rr G 0, .int x1, .int x2, .int x3] (k_wl G σ) (ccI b).1 (k_wl G (ccI b).2) :=
  met_of (by decide) (Nat.le_of_ble_eq_true rfl) rfl (om_X6_set _ _ _  σ)
theorem call_X6_set {G : KW} {l : Launch} {cc : ByteArray} {nL : Nat} {own : String} {rt : Option FieldType} {R : Room} {α : Type} {X : State → Array Value → Method → Prop} {Z : α → List Frame → Array Value → State → State → Prop} {k0 n0 pc index : Nat} {L : List (Option Value)} {S : List Value} {σ : Sg} {F : Int32 → Sg → Option α} {x1 : Int32} {x2 : Int32} {x3 : Int32} (lk : MLk own index yX6_set)  (hR : R.frames ≥ 1 + 1 ∧ R.locals ≥ 8 + (6 + 11) + 23) (hcs : k0 ≤ R.cells ∧ n0 ≤ R.slots) (hro : (S.map fun v => v.category).sum ≤ 8) (d : decode cc pc = .ok (.invokevirtual index, 3)) (kk : ∀ (r : Int32) (σ' : Sg), Okg G l cc nL own rt R X Z k0 n0 (pc + 3) L (.int r :: S) σ' (F r σ')) : Okg G l cc nL own rt R X Z k0 n0 pc L (.int x3 :: .int x2 :: .int x1 :: k_rr G 0 :: S) σ (e_cI (m_X6_set x1 x2 x3 σ) F) :=
  ok_cV (cb := ccI) (As := [.int x1, .int x2, .int x3]) (ct_X6_set _ _ _  σ) mo_X6_set hi_X6_set lk rfl (ci := 6) rfl rfl (by decide) ko_0 hR rfl hcs hro d (fun b => kk b.1 b.2)
/-! CoatDinner.isCap(I)Z -/
def m_X6_isCap (x0 : Int32) (σ : Sg) : Option (Int32 × Sg) := (if x0 < 1 then e_rz 0 σ else (if 99 < x0 then e_rz 0 σ else e_rz 1 σ))
theorem om_X6_isCap {G : KW} {l : Launch} (x0 : Int32)  (σ : Sg) : Okk G l cX6_isCap 1 RX6 (some .boolean) (rmo 0 0) ccI 0 [some (.int x0)] [] σ (m_X6_isCap x0 σ) := by
  unfold m_X6_isCap
  refine ok_iload0 (dq_of td_X6_isCap 0 rfl) ?_
  refine ok_iconst (v := 1) (dq_of td_X6_isCap 1 rfl) (by decide) ?_
  refine ok_ic_lt (tgt := 15) (dq_of td_X6_isCap 2 rfl) (by decide) ?_ ?_
  · refine ok_iconst (v := 0) (dq_of td_X6_isCap 8 rfl) (by decide) ?_
    exact ok_zret (dq_of td_X6_isCap 9 rfl)
  · refine ok_iload0 (dq_of td_X6_isCap 3 rfl) ?_
    refine ok_bipush (v := 99) (dq_of td_X6_isCap 4 rfl) (by decide) ?_
    refine ok_ic_gt (tgt := 15) (dq_of td_X6_isCap 5 rfl) (by decide) ?_ ?_
    · refine ok_iconst (v := 0) (dq_of td_X6_isCap 8 rfl) (by decide) ?_
      exact ok_zret (dq_of td_X6_isCap 9 rfl)
    · refine ok_iconst (v := 1) (dq_of td_X6_isCap 6 rfl) (by decide) ?_
      refine ok_goto (tgt := 16) (dq_of td_X6_isCap 7 rfl) (by decide) ?_
      exact ok_zret (dq_of td_X6_isCap 9 rfl)
theorem ct_X6_isCap {G : KW} {l : Launch} (x0 : Int32)  (σ : Sg) : ∀ b, m_X6_isCap x0 σ = some b → MetF G l yX6_isCap cX6_isCap 1 (some .boolean) 0 0 [.int x0] (k_wl G σ) (ccI b).1 (k_wl G (ccI b).2) :=
  met_of (by decide) (Nat.le_of_ble_eq_true rfl) rfl (om_X6_isCap _  σ)
theorem call_X6_isCap {G : KW} {l : Launch} {cc : ByteArray} {nL : Nat} {own : String} {rt : Option FieldType} {R : Room} {α : Type} {X : State → Array Value → Method → Prop} {Z : α → List Frame → Array Value → State → State → Prop} {k0 n0 pc index : Nat} {L : List (Option Value)} {S : List Value} {σ : Sg} {F : Int32 → Sg → Option α} {x0 : Int32} (lk : MLk own index yX6_isCap)  (hR : R.frames ≥ 0 + 1 ∧ R.locals ≥ 8 + (1 + 11) + 0) (hcs : k0 ≤ R.cells ∧ n0 ≤ R.slots) (hro : (S.map fun v => v.category).sum ≤ 8) (d : decode cc pc = .ok (.invokestatic index, 3)) (kk : ∀ (r : Int32) (σ' : Sg), Okg G l cc nL own rt R X Z k0 n0 (pc + 3) L (.int r :: S) σ' (F r σ')) : Okg G l cc nL own rt R X Z k0 n0 pc L (.int x0 :: S) σ (e_cI (m_X6_isCap x0 σ) F) :=
  ok_cS (cb := ccI) (ct_X6_isCap _  σ) mo_X6_isCap hi_X6_isCap lk rfl hR rfl hcs hro d (fun b => kk b.1 b.2)
/-! CoatDinner.cap(I)I -/
def m_X6_cap (x1 : Int32) (σ : Sg) : Option (Int32 × Sg) := e_cI (m_X6_isCap x1 σ) (fun r2 σ1 => (if r2 = 0 then some ((-2), σ1) else e_lt (σ1 1 2) (fun v3 => e_lt (k_up σ1 1 2 x1) (fun σ4 => some (v3, σ4)))))
theorem om_X6_cap {G : KW} {l : Launch} (x1 : Int32)  (σ : Sg) : Okk G l cX6_cap 3 RX6 (some .int) (rmo 1 20) ccI 0 [some (k_rr G 0), some (.int x1), none] [] σ (m_X6_cap x1 σ) := by
  unfold m_X6_cap
  refine ok_iload1 (dq_of td_X6_cap 0 rfl) ?_
  refine call_X6_isCap ml_X6_111  ⟨Nat.le_of_ble_eq_true rfl, Nat.le_of_ble_eq_true rfl⟩ ⟨Nat.zero_le _, Nat.zero_le _⟩ (Nat.le_of_ble_eq_true rfl) (dq_of td_X6_cap 1 rfl) (fun r2 σ1 => ?_)
  refine ok_if_ne (tgt := 10) (dq_of td_X6_cap 2 rfl) (by decide) ?_ ?_
  · refine ok_aload0 (dq_of td_X6_cap 5 rfl) ?_
    refine ok_get (v := k_rr G 1) fl_X6_10 (by decide) ko_0 rfl (dq_of td_X6_cap 6 rfl) ?_
    refine ok_get (v := .int (σ1 1 2)) fl_X6_114 (by decide) (isT_kd tw_1) rfl (dq_of td_X6_cap 7 rfl) ?_
    refine ok_gI (fun v3 => ?_)
    refine ok_istore2 (dq_of td_X6_cap 8 rfl) rfl (by decide) ?_
    refine ok_aload0 (dq_of td_X6_cap 9 rfl) ?_
    refine ok_get (v := k_rr G 1) fl_X6_10 (by decide) ko_0 rfl (dq_of td_X6_cap 10 rfl) ?_
    refine ok_iload1 (dq_of td_X6_cap 11 rfl) ?_
    refine put_4_2 fl_X6_114 (isT_kd tw_1) (dq_of td_X6_cap 12 rfl) (fun σ4 => ?_)
    refine ok_iload2 (dq_of td_X6_cap 13 rfl) ?_
    exact ok_iret (dq_of td_X6_cap 14 rfl)
  · refine ok_bipush (v := (-2)) (dq_of td_X6_cap 3 rfl) (by decide) ?_
    exact ok_iret (dq_of td_X6_cap 4 rfl)
theorem ct_X6_cap {G : KW} {l : Launch} (x1 : Int32)  (σ : Sg) : ∀ b, m_X6_cap x1 σ = some b → MetF G l yX6_cap cX6_cap 3 (some .int) 1 20 [k_rr G 0, .int x1] (k_wl G σ) (ccI b).1 (k_wl G (ccI b).2) :=
  met_of (by decide) (Nat.le_of_ble_eq_true rfl) rfl (om_X6_cap _  σ)
theorem call_X6_cap {G : KW} {l : Launch} {cc : ByteArray} {nL : Nat} {own : String} {rt : Option FieldType} {R : Room} {α : Type} {X : State → Array Value → Method → Prop} {Z : α → List Frame → Array Value → State → State → Prop} {k0 n0 pc index : Nat} {L : List (Option Value)} {S : List Value} {σ : Sg} {F : Int32 → Sg → Option α} {x1 : Int32} (lk : MLk own index yX6_cap)  (hR : R.frames ≥ 1 + 1 ∧ R.locals ≥ 8 + (3 + 11) + 20) (hcs : k0 ≤ R.cells ∧ n0 ≤ R.slots) (hro : (S.map fun v => v.category).sum ≤ 8) (d : decode cc pc = .ok (.invokevirtual index, 3)) (kk : ∀ (r : Int32) (σ' : Sg), Okg G l cc nL own rt R X Z k0 n0 (pc + 3) L (.int r :: S) σ' (F r σ')) : Okg G l cc nL own rt R X Z k0 n0 pc L (.int x1 :: k_rr G 0 :: S) σ (e_cI (m_X6_cap x1 σ) F) :=
  ok_cV (cb := ccI) (As := [.int x1]) (ct_X6_cap _  σ) mo_X6_cap hi_X6_cap lk rfl (ci := 6) rfl rfl (by decide) ko_0 hR rfl hcs hro d (fun b => kk b.1 b.2)
/-! CoatDinner.give(III)I -/
def b_X6_give_63 (x1 : Int32) (x2 : Int32) (x3 : Int32) (s0 : Nat) (σ : Sg) : Option (Int32 × Sg) := e_gd (k_ar s0) (e_gd (k_in x1 (k_ln s0)) (e_lt (σ s0 (Int32.toNatClampNeg x1)) (fun v8 => e_gd (k_ar s0) (e_wr σ s0 x1 (k_ln s0) x3 (fun σ9 => some (v8, σ9))))))
def b_X6_give_33 (x1 : Int32) (x2 : Int32) (x3 : Int32) (s0 : Int32) (s1 : Int32) (σ : Sg) : Option (Int32 × Sg) := e_cI (m_X6_within s1 s0 σ) (fun r6 σ5 => (if r6 = 0 then some ((-2), σ5) else (if x2 = 0 then b_X6_give_63 x1 x2 x3 6 σ5 else b_X6_give_63 x1 x2 x3 7 σ5)))
theorem ob_X6_give_63 {G : KW} {l : Launch} (x1 : Int32) (x2 : Int32) (x3 : Int32)  (s0 : Nat)  (σ : Sg) : Okk G l cX6_give 6 RX6 (some .int) (rmo 1 21) ccI 63 [none, some (.int x1), none, some (.int x3), none, none] [k_rr G s0] σ (b_X6_give_63 x1 x2 x3 s0 σ) := by
  unfold b_X6_give_63
  refine ok_astore4 (dq_of td_X6_give 30 rfl) rfl (by decide) ?_
  refine ok_aload4 (dq_of td_X6_give 31 rfl) ?_
  refine ok_iload1 (dq_of td_X6_give 32 rfl) ?_
  refine ok_gd (fun hg7 => ?_)
  refine ok_iald (k_ar_of hg7) (dq_of td_X6_give 33 rfl) ?_
  refine ok_gI (fun v8 => ?_)
  refine ok_istore5 (dq_of td_X6_give 34 rfl) rfl (by decide) ?_
  refine ok_aload4 (dq_of td_X6_give 35 rfl) ?_
  refine ok_iload1 (dq_of td_X6_give 36 rfl) ?_
  refine ok_iload3 (dq_of td_X6_give 37 rfl) ?_
  refine ok_gd (fun hg10 => ?_)
  refine ok_iast (k_ar_of hg10) (dq_of td_X6_give 38 rfl) (fun σ9 => ?_)
  refine ok_iload5 (dq_of td_X6_give 39 rfl) ?_
  exact ok_iret (dq_of td_X6_give 40 rfl)
theorem ob_X6_give_33 {G : KW} {l : Launch} (x1 : Int32) (x2 : Int32) (x3 : Int32)  (s0 : Int32) (s1 : Int32)  (σ : Sg) : Okk G l cX6_give 6 RX6 (some .int) (rmo 1 21) ccI 33 [some (k_rr G 0), some (.int x1), some (.int x2), some (.int x3), none, none] [.int s0, .int s1] σ (b_X6_give_33 x1 x2 x3 s0 s1 σ) := by
  unfold b_X6_give_33
  refine call_X6_within ml_X6_66  ⟨Nat.le_of_ble_eq_true rfl, Nat.le_of_ble_eq_true rfl⟩ ⟨Nat.zero_le _, Nat.zero_le _⟩ (Nat.le_of_ble_eq_true rfl) (dq_of td_X6_give 17 rfl) (fun r6 σ5 => ?_)
  refine ok_if_ne (tgt := 42) (dq_of td_X6_give 18 rfl) (by decide) ?_ ?_
  · refine ok_iload2 (dq_of td_X6_give 21 rfl) ?_
    refine ok_if_ne (tgt := 56) (dq_of td_X6_give 22 rfl) (by decide) ?_ ?_
    · refine ok_aload0 (dq_of td_X6_give 27 rfl) ?_
      refine ok_get (v := k_rr G 1) fl_X6_10 (by decide) ko_0 rfl (dq_of td_X6_give 28 rfl) ?_
      refine ok_get (v := k_rr G 7) fl_X6_121 (by decide) (isT_kd tw_1) rfl (dq_of td_X6_give 29 rfl) ?_
      refine ok_wk (wk_n (wk_s (wk_n (wk_s (wk_n (wk_n wk_0)))))) ?_
      exact ob_X6_give_63 _ _ _  _  _
    · refine ok_aload0 (dq_of td_X6_give 23 rfl) ?_
      refine ok_get (v := k_rr G 1) fl_X6_10 (by decide) ko_0 rfl (dq_of td_X6_give 24 rfl) ?_
      refine ok_get (v := k_rr G 6) fl_X6_117 (by decide) (isT_kd tw_1) rfl (dq_of td_X6_give 25 rfl) ?_
      refine ok_goto (tgt := 63) (dq_of td_X6_give 26 rfl) (by decide) ?_
      refine ok_wk (wk_n (wk_s (wk_n (wk_s (wk_n (wk_n wk_0)))))) ?_
      exact ob_X6_give_63 _ _ _  _  _
  · refine ok_bipush (v := (-2)) (dq_of td_X6_give 19 rfl) (by decide) ?_
    exact ok_iret (dq_of td_X6_give 20 rfl)
def m_X6_give (x1 : Int32) (x2 : Int32) (x3 : Int32) (σ : Sg) : Option (Int32 × Sg) := e_cI (m_X4_hasPerson 1 x1 σ) (fun r2 σ1 => (if r2 = 0 then some ((-1), σ1) else e_cI (m_X6_within x2 1 σ1) (fun r4 σ3 => (if r4 = 0 then some ((-2), σ3) else (if x2 = 0 then b_X6_give_33 x1 x2 x3 999 x3 σ3 else b_X6_give_33 x1 x2 x3 2 x3 σ3)))))
theorem om_X6_give {G : KW} {l : Launch} (x1 : Int32) (x2 : Int32) (x3 : Int32)  (σ : Sg) : Okk G l cX6_give 6 RX6 (some .int) (rmo 1 21) ccI 0 [some (k_rr G 0), some (.int x1), some (.int x2), some (.int x3), none, none] [] σ (m_X6_give x1 x2 x3 σ) := by
  unfold m_X6_give
  refine ok_aload0 (dq_of td_X6_give 0 rfl) ?_
  refine ok_get (v := k_rr G 1) fl_X6_10 (by decide) ko_0 rfl (dq_of td_X6_give 1 rfl) ?_
  refine ok_iload1 (dq_of td_X6_give 2 rfl) ?_
  refine call_X4_hasPerson ml_X6_70 tw_1 ⟨Nat.le_of_ble_eq_true rfl, Nat.le_of_ble_eq_true rfl⟩ ⟨Nat.zero_le _, Nat.zero_le _⟩ (Nat.le_of_ble_eq_true rfl) (dq_of td_X6_give 3 rfl) (fun r2 σ1 => ?_)
  refine ok_if_ne (tgt := 13) (dq_of td_X6_give 4 rfl) (by decide) ?_ ?_
  · refine ok_iload2 (dq_of td_X6_give 7 rfl) ?_
    refine ok_iconst (v := 1) (dq_of td_X6_give 8 rfl) (by decide) ?_
    refine call_X6_within ml_X6_66  ⟨Nat.le_of_ble_eq_true rfl, Nat.le_of_ble_eq_true rfl⟩ ⟨Nat.zero_le _, Nat.zero_le _⟩ (Nat.le_of_ble_eq_true rfl) (dq_of td_X6_give 9 rfl) (fun r4 σ3 => ?_)
    refine ok_if_eq (tgt := 39) (dq_of td_X6_give 10 rfl) (by decide) ?_ ?_
    · refine ok_bipush (v := (-2)) (dq_of td_X6_give 19 rfl) (by decide) ?_
      exact ok_iret (dq_of td_X6_give 20 rfl)
    · refine ok_iload3 (dq_of td_X6_give 11 rfl) ?_
      refine ok_iload2 (dq_of td_X6_give 12 rfl) ?_
      refine ok_if_ne (tgt := 32) (dq_of td_X6_give 13 rfl) (by decide) ?_ ?_
      · refine ok_iconst (v := 2) (dq_of td_X6_give 16 rfl) (by decide) ?_
        refine ok_wk (wk_s (wk_s (wk_s (wk_s (wk_n (wk_n wk_0)))))) ?_
        exact ob_X6_give_33 _ _ _  _ _  _
      · refine ok_sipush (v := 999) (dq_of td_X6_give 14 rfl) (by decide) ?_
        refine ok_goto (tgt := 33) (dq_of td_X6_give 15 rfl) (by decide) ?_
        refine ok_wk (wk_s (wk_s (wk_s (wk_s (wk_n (wk_n wk_0)))))) ?_
        exact ob_X6_give_33 _ _ _  _ _  _
  · refine ok_iconst (v := (-1)) (dq_of td_X6_give 5 rfl) (by decide) ?_
    exact ok_iret (dq_of td_X6_give 6 rfl)
theorem ct_X6_give {G : KW} {l : Launch} (x1 : Int32) (x2 : Int32) (x3 : Int32)  (σ : Sg) : ∀ b, m_X6_give x1 x2 x3 σ = some b → MetF G l yX6_give cX6_give 6 (some .int) 1 21 [k_rr G 0, .int x1, .int x2, .int x3] (k_wl G σ) (ccI b).1 (k_wl G (ccI b).2) :=
  met_of (by decide) (Nat.le_of_ble_eq_true rfl) rfl (om_X6_give _ _ _  σ)
theorem call_X6_give {G : KW} {l : Launch} {cc : ByteArray} {nL : Nat} {own : String} {rt : Option FieldType} {R : Room} {α : Type} {X : State → Array Value → Method → Prop} {Z : α → List Frame → Array Value → State → State → Prop} {k0 n0 pc index : Nat} {L : List (Option Value)} {S : List Value} {σ : Sg} {F : Int32 → Sg → Option α} {x1 : Int32} {x2 : Int32} {x3 : Int32} (lk : MLk own index yX6_give)  (hR : R.frames ≥ 1 + 1 ∧ R.locals ≥ 8 + (6 + 11) + 21) (hcs : k0 ≤ R.cells ∧ n0 ≤ R.slots) (hro : (S.map fun v => v.category).sum ≤ 8) (d : decode cc pc = .ok (.invokevirtual index, 3)) (kk : ∀ (r : Int32) (σ' : Sg), Okg G l cc nL own rt R X Z k0 n0 (pc + 3) L (.int r :: S) σ' (F r σ')) : Okg G l cc nL own rt R X Z k0 n0 pc L (.int x3 :: .int x2 :: .int x1 :: k_rr G 0 :: S) σ (e_cI (m_X6_give x1 x2 x3 σ) F) :=
  ok_cV (cb := ccI) (As := [.int x1, .int x2, .int x3]) (ct_X6_give _ _ _  σ) mo_X6_give hi_X6_give lk rfl (ci := 6) rfl rfl (by decide) ko_0 hR rfl hcs hro d (fun b => kk b.1 b.2)
/-! CoatDinner.say(I)I -/
def m_X6_say (x1 : Int32) (σ : Sg) : Option (Int32 × Sg) := (if x1 < 33 then some ((-2), σ) else (if x1 ≤ 126 then e_cI (m_X1_add x1 σ) (fun r2 σ1 => (if r2 = 0 then some ((-4), σ1) else some (σ1 58 1, σ1))) else some ((-2), σ)))
theorem om_X6_say {G : KW} {l : Launch} (x1 : Int32)  (σ : Sg) : Okk G l cX6_say 2 RX6 (some .int) (rmo 2 42) ccI 0 [some (k_rr G 0), some (.int x1)] [] σ (m_X6_say x1 σ) := by
  unfold m_X6_say
  refine ok_iload1 (dq_of td_X6_say 0 rfl) ?_
  refine ok_bipush (v := 33) (dq_of td_X6_say 1 rfl) (by decide) ?_
  refine ok_ic_lt (tgt := 12) (dq_of td_X6_say 2 rfl) (by decide) ?_ ?_
  · refine ok_bipush (v := (-2)) (dq_of td_X6_say 6 rfl) (by decide) ?_
    exact ok_iret (dq_of td_X6_say 7 rfl)
  · refine ok_iload1 (dq_of td_X6_say 3 rfl) ?_
    refine ok_bipush (v := 126) (dq_of td_X6_say 4 rfl) (by decide) ?_
    refine ok_ic_le (tgt := 15) (dq_of td_X6_say 5 rfl) (by decide) ?_ ?_
    · refine ok_aload0 (dq_of td_X6_say 8 rfl) ?_
      refine ok_get (v := k_rr G 58) fl_X6_32 (by decide) ko_0 rfl (dq_of td_X6_say 9 rfl) ?_
      refine ok_iload1 (dq_of td_X6_say 10 rfl) ?_
      refine call_X1_add ml_X6_124  ⟨Nat.le_of_ble_eq_true rfl, Nat.le_of_ble_eq_true rfl⟩ ⟨Nat.zero_le _, Nat.zero_le _⟩ (Nat.le_of_ble_eq_true rfl) (dq_of td_X6_say 11 rfl) (fun r2 σ1 => ?_)
      refine ok_if_eq (tgt := 36) (dq_of td_X6_say 12 rfl) (by decide) ?_ ?_
      · refine ok_bipush (v := (-4)) (dq_of td_X6_say 17 rfl) (by decide) ?_
        exact ok_iret (dq_of td_X6_say 18 rfl)
      · refine ok_aload0 (dq_of td_X6_say 13 rfl) ?_
        refine ok_get (v := k_rr G 58) fl_X6_32 (by decide) ko_0 rfl (dq_of td_X6_say 14 rfl) ?_
        refine ok_get (v := .int (σ1 58 1)) fl_X6_127 (by decide) ko_58 rfl (dq_of td_X6_say 15 rfl) ?_
        refine ok_goto (tgt := 38) (dq_of td_X6_say 16 rfl) (by decide) ?_
        exact ok_iret (dq_of td_X6_say 18 rfl)
    · refine ok_bipush (v := (-2)) (dq_of td_X6_say 6 rfl) (by decide) ?_
      exact ok_iret (dq_of td_X6_say 7 rfl)
theorem ct_X6_say {G : KW} {l : Launch} (x1 : Int32)  (σ : Sg) : ∀ b, m_X6_say x1 σ = some b → MetF G l yX6_say cX6_say 2 (some .int) 2 42 [k_rr G 0, .int x1] (k_wl G σ) (ccI b).1 (k_wl G (ccI b).2) :=
  met_of (by decide) (Nat.le_of_ble_eq_true rfl) rfl (om_X6_say _  σ)
theorem call_X6_say {G : KW} {l : Launch} {cc : ByteArray} {nL : Nat} {own : String} {rt : Option FieldType} {R : Room} {α : Type} {X : State → Array Value → Method → Prop} {Z : α → List Frame → Array Value → State → State → Prop} {k0 n0 pc index : Nat} {L : List (Option Value)} {S : List Value} {σ : Sg} {F : Int32 → Sg → Option α} {x1 : Int32} (lk : MLk own index yX6_say)  (hR : R.frames ≥ 2 + 1 ∧ R.locals ≥ 8 + (2 + 11) + 42) (hcs : k0 ≤ R.cells ∧ n0 ≤ R.slots) (hro : (S.map fun v => v.category).sum ≤ 8) (d : decode cc pc = .ok (.invokevirtual index, 3)) (kk : ∀ (r : Int32) (σ' : Sg), Okg G l cc nL own rt R X Z k0 n0 (pc + 3) L (.int r :: S) σ' (F r σ')) : Okg G l cc nL own rt R X Z k0 n0 pc L (.int x1 :: k_rr G 0 :: S) σ (e_cI (m_X6_say x1 σ) F) :=
  ok_cV (cb := ccI) (As := [.int x1]) (ct_X6_say _  σ) mo_X6_say hi_X6_say lk rfl (ci := 6) rfl rfl (by decide) ko_0 hR rfl hcs hro d (fun b => kk b.1 b.2)
/-! CoatDinner.wipe()I -/
def m_X6_wipe  (σ : Sg) : Option (Int32 × Sg) := e_cI (m_X1_clear σ) (fun r2 σ1 => some (r2, σ1))
theorem om_X6_wipe {G : KW} {l : Launch}   (σ : Sg) : Okk G l cX6_wipe 1 RX6 (some .int) (rmo 1 21) ccI 0 [some (k_rr G 0)] [] σ (m_X6_wipe  σ) := by
  unfold m_X6_wipe
  refine ok_aload0 (dq_of td_X6_wipe 0 rfl) ?_
  refine ok_get (v := k_rr G 58) fl_X6_32 (by decide) ko_0 rfl (dq_of td_X6_wipe 1 rfl) ?_
  refine call_X1_clear ml_X6_130  ⟨Nat.le_of_ble_eq_true rfl, Nat.le_of_ble_eq_true rfl⟩ ⟨Nat.zero_le _, Nat.zero_le _⟩ (Nat.le_of_ble_eq_true rfl) (dq_of td_X6_wipe 2 rfl) (fun r2 σ1 => ?_)
  exact ok_iret (dq_of td_X6_wipe 3 rfl)
theorem ct_X6_wipe {G : KW} {l : Launch}   (σ : Sg) : ∀ b, m_X6_wipe  σ = some b → MetF G l yX6_wipe cX6_wipe 1 (some .int) 1 21 [k_rr G 0] (k_wl G σ) (ccI b).1 (k_wl G (ccI b).2) :=
  met_of (by decide) (Nat.le_of_ble_eq_true rfl) rfl (om_X6_wipe   σ)
theorem call_X6_wipe {G : KW} {l : Launch} {cc : ByteArray} {nL : Nat} {own : String} {rt : Option FieldType} {R : Room} {α : Type} {X : State → Array Value → Method → Prop} {Z : α → List Frame → Array Value → State → State → Prop} {k0 n0 pc index : Nat} {L : List (Option Value)} {S : List Value} {σ : Sg} {F : Int32 → Sg → Option α}  (lk : MLk own index yX6_wipe)  (hR : R.frames ≥ 1 + 1 ∧ R.locals ≥ 8 + (1 + 11) + 21) (hcs : k0 ≤ R.cells ∧ n0 ≤ R.slots) (hro : (S.map fun v => v.category).sum ≤ 8) (d : decode cc pc = .ok (.invokevirtual index, 3)) (kk : ∀ (r : Int32) (σ' : Sg), Okg G l cc nL own rt R X Z k0 n0 (pc + 3) L (.int r :: S) σ' (F r σ')) : Okg G l cc nL own rt R X Z k0 n0 pc L (k_rr G 0 :: S) σ (e_cI (m_X6_wipe  σ) F) :=
  ok_cV (cb := ccI) (As := []) (ct_X6_wipe   σ) mo_X6_wipe hi_X6_wipe lk rfl (ci := 6) rfl rfl (by decide) ko_0 hR rfl hcs hro d (fun b => kk b.1 b.2)
/-! CoatDinner.fault()I -/
def m_X6_fault  (σ : Sg) : Option (Int32 × Sg) := e_cI (m_X1_firstFault σ) (fun r2 σ1 => some (r2, σ1))
theorem om_X6_fault {G : KW} {l : Launch}   (σ : Sg) : Okk G l cX6_fault 1 RX6 (some .int) (rmo 4 88) ccI 0 [some (k_rr G 0)] [] σ (m_X6_fault  σ) := by
  unfold m_X6_fault
  refine ok_aload0 (dq_of td_X6_fault 0 rfl) ?_
  refine ok_get (v := k_rr G 58) fl_X6_32 (by decide) ko_0 rfl (dq_of td_X6_fault 1 rfl) ?_
  refine call_X1_firstFault ml_X6_134  ⟨Nat.le_of_ble_eq_true rfl, Nat.le_of_ble_eq_true rfl⟩ ⟨Nat.zero_le _, Nat.zero_le _⟩ (Nat.le_of_ble_eq_true rfl) (dq_of td_X6_fault 2 rfl) (fun r2 σ1 => ?_)
  exact ok_iret (dq_of td_X6_fault 3 rfl)
theorem ct_X6_fault {G : KW} {l : Launch}   (σ : Sg) : ∀ b, m_X6_fault  σ = some b → MetF G l yX6_fault cX6_fault 1 (some .int) 4 88 [k_rr G 0] (k_wl G σ) (ccI b).1 (k_wl G (ccI b).2) :=
  met_of (by decide) (Nat.le_of_ble_eq_true rfl) rfl (om_X6_fault   σ)
theorem call_X6_fault {G : KW} {l : Launch} {cc : ByteArray} {nL : Nat} {own : String} {rt : Option FieldType} {R : Room} {α : Type} {X : State → Array Value → Method → Prop} {Z : α → List Frame → Array Value → State → State → Prop} {k0 n0 pc index : Nat} {L : List (Option Value)} {S : List Value} {σ : Sg} {F : Int32 → Sg → Option α}  (lk : MLk own index yX6_fault)  (hR : R.frames ≥ 4 + 1 ∧ R.locals ≥ 8 + (1 + 11) + 88) (hcs : k0 ≤ R.cells ∧ n0 ≤ R.slots) (hro : (S.map fun v => v.category).sum ≤ 8) (d : decode cc pc = .ok (.invokevirtual index, 3)) (kk : ∀ (r : Int32) (σ' : Sg), Okg G l cc nL own rt R X Z k0 n0 (pc + 3) L (.int r :: S) σ' (F r σ')) : Okg G l cc nL own rt R X Z k0 n0 pc L (k_rr G 0 :: S) σ (e_cI (m_X6_fault  σ) F) :=
  ok_cV (cb := ccI) (As := []) (ct_X6_fault   σ) mo_X6_fault hi_X6_fault lk rfl (ci := 6) rfl rfl (by decide) ko_0 hR rfl hcs hro d (fun b => kk b.1 b.2)
/-! CoatDinner.tryFeast()Z -/
def m_X6_tryFeast  (σ : Sg) : Option (Int32 × Sg) := e_cI (m_X1_firstFault σ) (fun r2 σ1 => (if r2 = ((-6)) then e_cV (m_X4_become 15 1 σ1) (fun σ3 => e_cV (m_X0_hold 15 σ3) (fun σ4 => (if (σ4 64 2) = 0 then e_rz 1 σ4 else e_rz 0 σ4))) else e_rz 0 σ1))
theorem om_X6_tryFeast {G : KW} {l : Launch}   (σ : Sg) : Okk G l cX6_tryFeast 1 RX6 (some .boolean) (rmo 5 118) ccI 0 [some (k_rr G 0)] [] σ (m_X6_tryFeast  σ) := by
  unfold m_X6_tryFeast
  refine ok_aload0 (dq_of td_X6_tryFeast 0 rfl) ?_
  refine ok_get (v := k_rr G 58) fl_X6_32 (by decide) ko_0 rfl (dq_of td_X6_tryFeast 1 rfl) ?_
  refine call_X1_firstFault ml_X6_134  ⟨Nat.le_of_ble_eq_true rfl, Nat.le_of_ble_eq_true rfl⟩ ⟨Nat.zero_le _, Nat.zero_le _⟩ (Nat.le_of_ble_eq_true rfl) (dq_of td_X6_tryFeast 2 rfl) (fun r2 σ1 => ?_)
  refine ok_bipush (v := (-6)) (dq_of td_X6_tryFeast 3 rfl) (by decide) ?_
  refine ok_ic_eq (tgt := 14) (dq_of td_X6_tryFeast 4 rfl) (by decide) ?_ ?_
  · refine ok_aload0 (dq_of td_X6_tryFeast 7 rfl) ?_
    refine ok_get (v := k_rr G 15) fl_X6_16 (by decide) ko_0 rfl (dq_of td_X6_tryFeast 8 rfl) ?_
    refine ok_aload0 (dq_of td_X6_tryFeast 9 rfl) ?_
    refine ok_get (v := k_rr G 1) fl_X6_10 (by decide) ko_0 rfl (dq_of td_X6_tryFeast 10 rfl) ?_
    refine call_X4_become ml_X6_147 tw_15 tw_1 ⟨Nat.le_of_ble_eq_true rfl, Nat.le_of_ble_eq_true rfl⟩ ⟨Nat.zero_le _, Nat.zero_le _⟩ (Nat.le_of_ble_eq_true rfl) (dq_of td_X6_tryFeast 11 rfl) (fun σ3 => ?_)
    refine ok_aload0 (dq_of td_X6_tryFeast 12 rfl) ?_
    refine ok_get (v := k_rr G 64) fl_X6_48 (by decide) ko_0 rfl (dq_of td_X6_tryFeast 13 rfl) ?_
    refine ok_aload0 (dq_of td_X6_tryFeast 14 rfl) ?_
    refine ok_get (v := k_rr G 15) fl_X6_16 (by decide) ko_0 rfl (dq_of td_X6_tryFeast 15 rfl) ?_
    refine ok_aload0 (dq_of td_X6_tryFeast 16 rfl) ?_
    refine ok_get (v := k_rr G 58) fl_X6_32 (by decide) ko_0 rfl (dq_of td_X6_tryFeast 17 rfl) ?_
    refine call_X0_hold ml_X6_293 tw_15 ⟨Nat.le_of_ble_eq_true rfl, Nat.le_of_ble_eq_true rfl⟩ ⟨Nat.zero_le _, Nat.zero_le _⟩ (Nat.le_of_ble_eq_true rfl) (dq_of td_X6_tryFeast 18 rfl) (fun σ4 => ?_)
    refine ok_aload0 (dq_of td_X6_tryFeast 19 rfl) ?_
    refine ok_get (v := k_rr G 64) fl_X6_48 (by decide) ko_0 rfl (dq_of td_X6_tryFeast 20 rfl) ?_
    refine ok_get (v := .int (σ4 64 2)) fl_X6_144 (by decide) ko_64 rfl (dq_of td_X6_tryFeast 21 rfl) ?_
    refine ok_if_ne (tgt := 54) (dq_of td_X6_tryFeast 22 rfl) (by decide) ?_ ?_
    · refine ok_iconst (v := 0) (dq_of td_X6_tryFeast 25 rfl) (by decide) ?_
      exact ok_zret (dq_of td_X6_tryFeast 26 rfl)
    · refine ok_iconst (v := 1) (dq_of td_X6_tryFeast 23 rfl) (by decide) ?_
      refine ok_goto (tgt := 55) (dq_of td_X6_tryFeast 24 rfl) (by decide) ?_
      exact ok_zret (dq_of td_X6_tryFeast 26 rfl)
  · refine ok_iconst (v := 0) (dq_of td_X6_tryFeast 5 rfl) (by decide) ?_
    exact ok_zret (dq_of td_X6_tryFeast 6 rfl)
theorem ct_X6_tryFeast {G : KW} {l : Launch}   (σ : Sg) : ∀ b, m_X6_tryFeast  σ = some b → MetF G l yX6_tryFeast cX6_tryFeast 1 (some .boolean) 5 118 [k_rr G 0] (k_wl G σ) (ccI b).1 (k_wl G (ccI b).2) :=
  met_of (by decide) (Nat.le_of_ble_eq_true rfl) rfl (om_X6_tryFeast   σ)
theorem call_X6_tryFeast {G : KW} {l : Launch} {cc : ByteArray} {nL : Nat} {own : String} {rt : Option FieldType} {R : Room} {α : Type} {X : State → Array Value → Method → Prop} {Z : α → List Frame → Array Value → State → State → Prop} {k0 n0 pc index : Nat} {L : List (Option Value)} {S : List Value} {σ : Sg} {F : Int32 → Sg → Option α}  (lk : MLk own index yX6_tryFeast)  (hR : R.frames ≥ 5 + 1 ∧ R.locals ≥ 8 + (1 + 11) + 118) (hcs : k0 ≤ R.cells ∧ n0 ≤ R.slots) (hro : (S.map fun v => v.category).sum ≤ 8) (d : decode cc pc = .ok (.invokevirtual index, 3)) (kk : ∀ (r : Int32) (σ' : Sg), Okg G l cc nL own rt R X Z k0 n0 (pc + 3) L (.int r :: S) σ' (F r σ')) : Okg G l cc nL own rt R X Z k0 n0 pc L (k_rr G 0 :: S) σ (e_cI (m_X6_tryFeast  σ) F) :=
  ok_cV (cb := ccI) (As := []) (ct_X6_tryFeast   σ) mo_X6_tryFeast hi_X6_tryFeast lk rfl (ci := 6) rfl rfl (by decide) ko_0 hR rfl hcs hro d (fun b => kk b.1 b.2)
/-! CoatDinner.judge(I)I -/
def m_X6_judge (x1 : Int32) (σ : Sg) : Option (Int32 × Sg) := e_cI (m_X6_within x1 1 σ) (fun r2 σ1 => (if r2 = 0 then some ((-2), σ1) else e_cI (m_X1_firstFault σ1) (fun r4 σ3 => (if r4 = ((-6)) then e_cI (m_X6_tryFeast σ3) (fun r6 σ5 => (if r6 = 0 then (if x1 = 0 then some (σ5 64 1, σ5) else some (σ5 64 2, σ5)) else some ((-6), σ5))) else some ((-5), σ3)))))
theorem om_X6_judge {G : KW} {l : Launch} (x1 : Int32)  (σ : Sg) : Okk G l cX6_judge 2 RX6 (some .int) (rmo 6 138) ccI 0 [some (k_rr G 0), some (.int x1)] [] σ (m_X6_judge x1 σ) := by
  unfold m_X6_judge
  refine ok_iload1 (dq_of td_X6_judge 0 rfl) ?_
  refine ok_iconst (v := 1) (dq_of td_X6_judge 1 rfl) (by decide) ?_
  refine call_X6_within ml_X6_66  ⟨Nat.le_of_ble_eq_true rfl, Nat.le_of_ble_eq_true rfl⟩ ⟨Nat.zero_le _, Nat.zero_le _⟩ (Nat.le_of_ble_eq_true rfl) (dq_of td_X6_judge 2 rfl) (fun r2 σ1 => ?_)
  refine ok_if_ne (tgt := 11) (dq_of td_X6_judge 3 rfl) (by decide) ?_ ?_
  · refine ok_aload0 (dq_of td_X6_judge 6 rfl) ?_
    refine ok_get (v := k_rr G 58) fl_X6_32 (by decide) ko_0 rfl (dq_of td_X6_judge 7 rfl) ?_
    refine call_X1_firstFault ml_X6_134  ⟨Nat.le_of_ble_eq_true rfl, Nat.le_of_ble_eq_true rfl⟩ ⟨Nat.zero_le _, Nat.zero_le _⟩ (Nat.le_of_ble_eq_true rfl) (dq_of td_X6_judge 8 rfl) (fun r4 σ3 => ?_)
    refine ok_bipush (v := (-6)) (dq_of td_X6_judge 9 rfl) (by decide) ?_
    refine ok_ic_eq (tgt := 26) (dq_of td_X6_judge 10 rfl) (by decide) ?_ ?_
    · refine ok_aload0 (dq_of td_X6_judge 13 rfl) ?_
      refine call_X6_tryFeast ml_X6_137  ⟨Nat.le_of_ble_eq_true rfl, Nat.le_of_ble_eq_true rfl⟩ ⟨Nat.zero_le _, Nat.zero_le _⟩ (Nat.le_of_ble_eq_true rfl) (dq_of td_X6_judge 14 rfl) (fun r6 σ5 => ?_)
      refine ok_if_eq (tgt := 36) (dq_of td_X6_judge 15 rfl) (by decide) ?_ ?_
      · refine ok_iload1 (dq_of td_X6_judge 18 rfl) ?_
        refine ok_if_ne (tgt := 50) (dq_of td_X6_judge 19 rfl) (by decide) ?_ ?_
        · refine ok_aload0 (dq_of td_X6_judge 24 rfl) ?_
          refine ok_get (v := k_rr G 64) fl_X6_48 (by decide) ko_0 rfl (dq_of td_X6_judge 25 rfl) ?_
          refine ok_get (v := .int (σ5 64 2)) fl_X6_144 (by decide) ko_64 rfl (dq_of td_X6_judge 26 rfl) ?_
          exact ok_iret (dq_of td_X6_judge 27 rfl)
        · refine ok_aload0 (dq_of td_X6_judge 20 rfl) ?_
          refine ok_get (v := k_rr G 64) fl_X6_48 (by decide) ko_0 rfl (dq_of td_X6_judge 21 rfl) ?_
          refine ok_get (v := .int (σ5 64 1)) fl_X6_141 (by decide) ko_64 rfl (dq_of td_X6_judge 22 rfl) ?_
          refine ok_goto (tgt := 57) (dq_of td_X6_judge 23 rfl) (by decide) ?_
          exact ok_iret (dq_of td_X6_judge 27 rfl)
      · refine ok_bipush (v := (-6)) (dq_of td_X6_judge 16 rfl) (by decide) ?_
        exact ok_iret (dq_of td_X6_judge 17 rfl)
    · refine ok_bipush (v := (-5)) (dq_of td_X6_judge 11 rfl) (by decide) ?_
      exact ok_iret (dq_of td_X6_judge 12 rfl)
  · refine ok_bipush (v := (-2)) (dq_of td_X6_judge 4 rfl) (by decide) ?_
    exact ok_iret (dq_of td_X6_judge 5 rfl)
theorem ct_X6_judge {G : KW} {l : Launch} (x1 : Int32)  (σ : Sg) : ∀ b, m_X6_judge x1 σ = some b → MetF G l yX6_judge cX6_judge 2 (some .int) 6 138 [k_rr G 0, .int x1] (k_wl G σ) (ccI b).1 (k_wl G (ccI b).2) :=
  met_of (by decide) (Nat.le_of_ble_eq_true rfl) rfl (om_X6_judge _  σ)
theorem call_X6_judge {G : KW} {l : Launch} {cc : ByteArray} {nL : Nat} {own : String} {rt : Option FieldType} {R : Room} {α : Type} {X : State → Array Value → Method → Prop} {Z : α → List Frame → Array Value → State → State → Prop} {k0 n0 pc index : Nat} {L : List (Option Value)} {S : List Value} {σ : Sg} {F : Int32 → Sg → Option α} {x1 : Int32} (lk : MLk own index yX6_judge)  (hR : R.frames ≥ 6 + 1 ∧ R.locals ≥ 8 + (2 + 11) + 138) (hcs : k0 ≤ R.cells ∧ n0 ≤ R.slots) (hro : (S.map fun v => v.category).sum ≤ 8) (d : decode cc pc = .ok (.invokevirtual index, 3)) (kk : ∀ (r : Int32) (σ' : Sg), Okg G l cc nL own rt R X Z k0 n0 (pc + 3) L (.int r :: S) σ' (F r σ')) : Okg G l cc nL own rt R X Z k0 n0 pc L (.int x1 :: k_rr G 0 :: S) σ (e_cI (m_X6_judge x1 σ) F) :=
  ok_cV (cb := ccI) (As := [.int x1]) (ct_X6_judge _  σ) mo_X6_judge hi_X6_judge lk rfl (ci := 6) rfl rfl (by decide) ko_0 hR rfl hcs hro d (fun b => kk b.1 b.2)
/-! CoatDinner.done()I -/
def m_X6_done  (σ : Sg) : Option (Int32 × Sg) := e_cI (m_X6_tryFeast σ) (fun r2 σ1 => (if r2 = 0 then some ((-5), σ1) else e_cV (m_X4_become 1 15 σ1) (fun σ3 => e_cI (m_X1_clear σ3) (fun r5 σ4 => some (σ4 64 1, σ4)))))
theorem om_X6_done {G : KW} {l : Launch}   (σ : Sg) : Okk G l cX6_done 1 RX6 (some .int) (rmo 6 138) ccI 0 [some (k_rr G 0)] [] σ (m_X6_done  σ) := by
  unfold m_X6_done
  refine ok_aload0 (dq_of td_X6_done 0 rfl) ?_
  refine call_X6_tryFeast ml_X6_137  ⟨Nat.le_of_ble_eq_true rfl, Nat.le_of_ble_eq_true rfl⟩ ⟨Nat.zero_le _, Nat.zero_le _⟩ (Nat.le_of_ble_eq_true rfl) (dq_of td_X6_done 1 rfl) (fun r2 σ1 => ?_)
  refine ok_if_ne (tgt := 10) (dq_of td_X6_done 2 rfl) (by decide) ?_ ?_
  · refine ok_aload0 (dq_of td_X6_done 5 rfl) ?_
    refine ok_get (v := k_rr G 1) fl_X6_10 (by decide) ko_0 rfl (dq_of td_X6_done 6 rfl) ?_
    refine ok_aload0 (dq_of td_X6_done 7 rfl) ?_
    refine ok_get (v := k_rr G 15) fl_X6_16 (by decide) ko_0 rfl (dq_of td_X6_done 8 rfl) ?_
    refine call_X4_become ml_X6_147 tw_1 tw_15 ⟨Nat.le_of_ble_eq_true rfl, Nat.le_of_ble_eq_true rfl⟩ ⟨Nat.zero_le _, Nat.zero_le _⟩ (Nat.le_of_ble_eq_true rfl) (dq_of td_X6_done 9 rfl) (fun σ3 => ?_)
    refine ok_aload0 (dq_of td_X6_done 10 rfl) ?_
    refine ok_get (v := k_rr G 58) fl_X6_32 (by decide) ko_0 rfl (dq_of td_X6_done 11 rfl) ?_
    refine call_X1_clear ml_X6_130  ⟨Nat.le_of_ble_eq_true rfl, Nat.le_of_ble_eq_true rfl⟩ ⟨Nat.zero_le _, Nat.zero_le _⟩ (Nat.le_of_ble_eq_true rfl) (dq_of td_X6_done 12 rfl) (fun r5 σ4 => ?_)
    refine ok_pop (dq_of td_X6_done 13 rfl) rfl ?_
    refine ok_aload0 (dq_of td_X6_done 14 rfl) ?_
    refine ok_get (v := k_rr G 64) fl_X6_48 (by decide) ko_0 rfl (dq_of td_X6_done 15 rfl) ?_
    refine ok_get (v := .int (σ4 64 1)) fl_X6_141 (by decide) ko_64 rfl (dq_of td_X6_done 16 rfl) ?_
    exact ok_iret (dq_of td_X6_done 17 rfl)
  · refine ok_bipush (v := (-5)) (dq_of td_X6_done 3 rfl) (by decide) ?_
    exact ok_iret (dq_of td_X6_done 4 rfl)
theorem ct_X6_done {G : KW} {l : Launch}   (σ : Sg) : ∀ b, m_X6_done  σ = some b → MetF G l yX6_done cX6_done 1 (some .int) 6 138 [k_rr G 0] (k_wl G σ) (ccI b).1 (k_wl G (ccI b).2) :=
  met_of (by decide) (Nat.le_of_ble_eq_true rfl) rfl (om_X6_done   σ)
theorem call_X6_done {G : KW} {l : Launch} {cc : ByteArray} {nL : Nat} {own : String} {rt : Option FieldType} {R : Room} {α : Type} {X : State → Array Value → Method → Prop} {Z : α → List Frame → Array Value → State → State → Prop} {k0 n0 pc index : Nat} {L : List (Option Value)} {S : List Value} {σ : Sg} {F : Int32 → Sg → Option α}  (lk : MLk own index yX6_done)  (hR : R.frames ≥ 6 + 1 ∧ R.locals ≥ 8 + (1 + 11) + 138) (hcs : k0 ≤ R.cells ∧ n0 ≤ R.slots) (hro : (S.map fun v => v.category).sum ≤ 8) (d : decode cc pc = .ok (.invokevirtual index, 3)) (kk : ∀ (r : Int32) (σ' : Sg), Okg G l cc nL own rt R X Z k0 n0 (pc + 3) L (.int r :: S) σ' (F r σ')) : Okg G l cc nL own rt R X Z k0 n0 pc L (k_rr G 0 :: S) σ (e_cI (m_X6_done  σ) F) :=
  ok_cV (cb := ccI) (As := []) (ct_X6_done   σ) mo_X6_done hi_X6_done lk rfl (ci := 6) rfl rfl (by decide) ko_0 hR rfl hcs hro d (fun b => kk b.1 b.2)
/-! CoatDinner.seatIn(LCoatDinner$Town;I)I -/
def m_X6_seatIn (x1 : Nat) (x2 : Int32) (σ : Sg) : Option (Int32 × Sg) := e_cV (m_X3_lay x1 σ) (fun σ1 => e_cI (m_X3_seatOf x2 σ1) (fun r3 σ2 => some (r3, σ2)))
theorem om_X6_seatIn {G : KW} {l : Launch} (x1 : Nat) (x2 : Int32) (hx1 : k_tw x1) (σ : Sg) : Okk G l cX6_seatIn 3 RX6 (some .int) (rmo 3 66) ccI 0 [some (k_rr G 0), some (k_rr G x1), some (.int x2)] [] σ (m_X6_seatIn x1 x2 σ) := by
  unfold m_X6_seatIn
  refine ok_aload0 (dq_of td_X6_seatIn 0 rfl) ?_
  refine ok_get (v := k_rr G 60) fl_X6_39 (by decide) ko_0 rfl (dq_of td_X6_seatIn 1 rfl) ?_
  refine ok_aload1 (dq_of td_X6_seatIn 2 rfl) ?_
  refine call_X3_lay ml_X6_155 hx1 ⟨Nat.le_of_ble_eq_true rfl, Nat.le_of_ble_eq_true rfl⟩ ⟨Nat.zero_le _, Nat.zero_le _⟩ (Nat.le_of_ble_eq_true rfl) (dq_of td_X6_seatIn 3 rfl) (fun σ1 => ?_)
  refine ok_aload0 (dq_of td_X6_seatIn 4 rfl) ?_
  refine ok_get (v := k_rr G 60) fl_X6_39 (by decide) ko_0 rfl (dq_of td_X6_seatIn 5 rfl) ?_
  refine ok_iload2 (dq_of td_X6_seatIn 6 rfl) ?_
  refine call_X3_seatOf ml_X6_158  ⟨Nat.le_of_ble_eq_true rfl, Nat.le_of_ble_eq_true rfl⟩ ⟨Nat.zero_le _, Nat.zero_le _⟩ (Nat.le_of_ble_eq_true rfl) (dq_of td_X6_seatIn 7 rfl) (fun r3 σ2 => ?_)
  exact ok_iret (dq_of td_X6_seatIn 8 rfl)
theorem ct_X6_seatIn {G : KW} {l : Launch} (x1 : Nat) (x2 : Int32) (hx1 : k_tw x1) (σ : Sg) : ∀ b, m_X6_seatIn x1 x2 σ = some b → MetF G l yX6_seatIn cX6_seatIn 3 (some .int) 3 66 [k_rr G 0, k_rr G x1, .int x2] (k_wl G σ) (ccI b).1 (k_wl G (ccI b).2) :=
  met_of (by decide) (Nat.le_of_ble_eq_true rfl) rfl (om_X6_seatIn _ _ hx1 σ)
theorem call_X6_seatIn {G : KW} {l : Launch} {cc : ByteArray} {nL : Nat} {own : String} {rt : Option FieldType} {R : Room} {α : Type} {X : State → Array Value → Method → Prop} {Z : α → List Frame → Array Value → State → State → Prop} {k0 n0 pc index : Nat} {L : List (Option Value)} {S : List Value} {σ : Sg} {F : Int32 → Sg → Option α} {x1 : Nat} {x2 : Int32} (lk : MLk own index yX6_seatIn) (hx1 : k_tw x1) (hR : R.frames ≥ 3 + 1 ∧ R.locals ≥ 8 + (3 + 11) + 66) (hcs : k0 ≤ R.cells ∧ n0 ≤ R.slots) (hro : (S.map fun v => v.category).sum ≤ 8) (d : decode cc pc = .ok (.invokevirtual index, 3)) (kk : ∀ (r : Int32) (σ' : Sg), Okg G l cc nL own rt R X Z k0 n0 (pc + 3) L (.int r :: S) σ' (F r σ')) : Okg G l cc nL own rt R X Z k0 n0 pc L (.int x2 :: k_rr G x1 :: k_rr G 0 :: S) σ (e_cI (m_X6_seatIn x1 x2 σ) F) :=
  ok_cV (cb := ccI) (As := [k_rr G x1, .int x2]) (ct_X6_seatIn _ _ hx1 σ) mo_X6_seatIn hi_X6_seatIn lk rfl (ci := 6) rfl rfl (by decide) ko_0 hR rfl hcs hro d (fun b => kk b.1 b.2)
/-! CoatDinner.stateIn(LCoatDinner$Town;II)I -/
def m_X6_stateIn (x1 : Nat) (x2 : Int32) (x3 : Int32) (σ : Sg) : Option (Int32 × Sg) := e_cI (m_X6_within x2 4 σ) (fun r2 σ1 => (if r2 = 0 then some ((-1), σ1) else e_sw x3 4 (fun j => match j with | 0 => e_gd (k_in x2 5) ((if (σ1 (x1 + 1) (Int32.toNatClampNeg x2)) = ((-1)) then some ((-6), σ1) else e_gd (k_in x2 5) (some (σ1 (x1 + 1) (Int32.toNatClampNeg x2), σ1)))) | 1 => e_gd (k_in x2 5) (some (σ1 (x1 + 2) (Int32.toNatClampNeg x2), σ1)) | 2 => e_gd (k_in x2 5) (some (σ1 (x1 + 3) (Int32.toNatClampNeg x2), σ1)) | _ => e_gd (k_in x2 5) (some (σ1 (x1 + 4) (Int32.toNatClampNeg x2), σ1))) (e_cI (m_X6_seatIn x1 x2 σ1) (fun r4 σ3 => some (r4, σ3)))))
theorem om_X6_stateIn {G : KW} {l : Launch} (x1 : Nat) (x2 : Int32) (x3 : Int32) (hx1 : k_tw x1) (σ : Sg) : Okk G l cX6_stateIn 4 RX6 (some .int) (rmo 4 88) ccI 0 [some (k_rr G 0), some (k_rr G x1), some (.int x2), some (.int x3)] [] σ (m_X6_stateIn x1 x2 x3 σ) := by
  unfold m_X6_stateIn
  refine ok_iload2 (dq_of td_X6_stateIn 0 rfl) ?_
  refine ok_iconst (v := 4) (dq_of td_X6_stateIn 1 rfl) (by decide) ?_
  refine call_X6_within ml_X6_66  ⟨Nat.le_of_ble_eq_true rfl, Nat.le_of_ble_eq_true rfl⟩ ⟨Nat.zero_le _, Nat.zero_le _⟩ (Nat.le_of_ble_eq_true rfl) (dq_of td_X6_stateIn 2 rfl) (fun r2 σ1 => ?_)
  refine ok_if_ne (tgt := 10) (dq_of td_X6_stateIn 3 rfl) (by decide) ?_ ?_
  · refine ok_iload3 (dq_of td_X6_stateIn 6 rfl) ?_
    refine ok_tsw (tgt := 83) (dq_of td_X6_stateIn 7 rfl) (by decide) (by decide) ?_ ?_
    · refine ok_aload0 (dq_of td_X6_stateIn 36 rfl) ?_
      refine ok_aload1 (dq_of td_X6_stateIn 37 rfl) ?_
      refine ok_iload2 (dq_of td_X6_stateIn 38 rfl) ?_
      refine call_X6_seatIn ml_X6_189 hx1 ⟨Nat.le_of_ble_eq_true rfl, Nat.le_of_ble_eq_true rfl⟩ ⟨Nat.zero_le _, Nat.zero_le _⟩ (Nat.le_of_ble_eq_true rfl) (dq_of td_X6_stateIn 39 rfl) (fun r4 σ3 => ?_)
      exact ok_iret (dq_of td_X6_stateIn 40 rfl)
    · intro j hj
      match j, hj with
      | 0, _ =>
        refine ⟨_, 40, rfl, by decide, ?_⟩
        refine ok_aload1 (dq_of td_X6_stateIn 8 rfl) ?_
        refine ok_get (v := k_rr G (x1 + 1)) fl_X6_186 (by decide) (isT_kd hx1) rfl (dq_of td_X6_stateIn 9 rfl) ?_
        refine ok_iload2 (dq_of td_X6_stateIn 10 rfl) ?_
        refine ok_iald (isT_a1 hx1) (dq_of td_X6_stateIn 11 rfl) ?_
        refine ok_iconst (v := (-1)) (dq_of td_X6_stateIn 12 rfl) (by decide) ?_
        refine ok_ic_ne (tgt := 55) (dq_of td_X6_stateIn 13 rfl) (by decide) ?_ ?_
        · refine ok_aload1 (dq_of td_X6_stateIn 16 rfl) ?_
          refine ok_get (v := k_rr G (x1 + 1)) fl_X6_186 (by decide) (isT_kd hx1) rfl (dq_of td_X6_stateIn 17 rfl) ?_
          refine ok_iload2 (dq_of td_X6_stateIn 18 rfl) ?_
          refine ok_iald (isT_a1 hx1) (dq_of td_X6_stateIn 19 rfl) ?_
          exact ok_iret (dq_of td_X6_stateIn 20 rfl)
        · refine ok_bipush (v := (-6)) (dq_of td_X6_stateIn 14 rfl) (by decide) ?_
          refine ok_goto (tgt := 61) (dq_of td_X6_stateIn 15 rfl) (by decide) ?_
          exact ok_iret (dq_of td_X6_stateIn 20 rfl)
      | 1, _ =>
        refine ⟨_, 62, rfl, by decide, ?_⟩
        refine ok_aload1 (dq_of td_X6_stateIn 21 rfl) ?_
        refine ok_get (v := k_rr G (x1 + 2)) fl_X6_270 (by decide) (isT_kd hx1) rfl (dq_of td_X6_stateIn 22 rfl) ?_
        refine ok_iload2 (dq_of td_X6_stateIn 23 rfl) ?_
        refine ok_iald (isT_a2 hx1) (dq_of td_X6_stateIn 24 rfl) ?_
        exact ok_iret (dq_of td_X6_stateIn 25 rfl)
      | 2, _ =>
        refine ⟨_, 69, rfl, by decide, ?_⟩
        refine ok_aload1 (dq_of td_X6_stateIn 26 rfl) ?_
        refine ok_get (v := k_rr G (x1 + 3)) fl_X6_297 (by decide) (isT_kd hx1) rfl (dq_of td_X6_stateIn 27 rfl) ?_
        refine ok_iload2 (dq_of td_X6_stateIn 28 rfl) ?_
        refine ok_iald (isT_a3 hx1) (dq_of td_X6_stateIn 29 rfl) ?_
        exact ok_iret (dq_of td_X6_stateIn 30 rfl)
      | 3, _ =>
        refine ⟨_, 76, rfl, by decide, ?_⟩
        refine ok_aload1 (dq_of td_X6_stateIn 31 rfl) ?_
        refine ok_get (v := k_rr G (x1 + 4)) fl_X6_300 (by decide) (isT_kd hx1) rfl (dq_of td_X6_stateIn 32 rfl) ?_
        refine ok_iload2 (dq_of td_X6_stateIn 33 rfl) ?_
        refine ok_iald (isT_a4 hx1) (dq_of td_X6_stateIn 34 rfl) ?_
        exact ok_iret (dq_of td_X6_stateIn 35 rfl)
      | j + 4, hj => exact absurd hj (by omega)
  · refine ok_iconst (v := (-1)) (dq_of td_X6_stateIn 4 rfl) (by decide) ?_
    exact ok_iret (dq_of td_X6_stateIn 5 rfl)
theorem ct_X6_stateIn {G : KW} {l : Launch} (x1 : Nat) (x2 : Int32) (x3 : Int32) (hx1 : k_tw x1) (σ : Sg) : ∀ b, m_X6_stateIn x1 x2 x3 σ = some b → MetF G l yX6_stateIn cX6_stateIn 4 (some .int) 4 88 [k_rr G 0, k_rr G x1, .int x2, .int x3] (k_wl G σ) (ccI b).1 (k_wl G (ccI b).2) :=
  met_of (by decide) (Nat.le_of_ble_eq_true rfl) rfl (om_X6_stateIn _ _ _ hx1 σ)
theorem call_X6_stateIn {G : KW} {l : Launch} {cc : ByteArray} {nL : Nat} {own : String} {rt : Option FieldType} {R : Room} {α : Type} {X : State → Array Value → Method → Prop} {Z : α → List Frame → Array Value → State → State → Prop} {k0 n0 pc index : Nat} {L : List (Option Value)} {S : List Value} {σ : Sg} {F : Int32 → Sg → Option α} {x1 : Nat} {x2 : Int32} {x3 : Int32} (lk : MLk own index yX6_stateIn) (hx1 : k_tw x1) (hR : R.frames ≥ 4 + 1 ∧ R.locals ≥ 8 + (4 + 11) + 88) (hcs : k0 ≤ R.cells ∧ n0 ≤ R.slots) (hro : (S.map fun v => v.category).sum ≤ 8) (d : decode cc pc = .ok (.invokevirtual index, 3)) (kk : ∀ (r : Int32) (σ' : Sg), Okg G l cc nL own rt R X Z k0 n0 (pc + 3) L (.int r :: S) σ' (F r σ')) : Okg G l cc nL own rt R X Z k0 n0 pc L (.int x3 :: .int x2 :: k_rr G x1 :: k_rr G 0 :: S) σ (e_cI (m_X6_stateIn x1 x2 x3 σ) F) :=
  ok_cV (cb := ccI) (As := [k_rr G x1, .int x2, .int x3]) (ct_X6_stateIn _ _ _ hx1 σ) mo_X6_stateIn hi_X6_stateIn lk rfl (ci := 6) rfl rfl (by decide) ko_0 hR rfl hcs hro d (fun b => kk b.1 b.2)
/-! CoatDinner.state(II)I -/
def m_X6_state (x1 : Int32) (x2 : Int32) (σ : Sg) : Option (Int32 × Sg) := e_cI (m_X4_hasPerson 1 x1 σ) (fun r2 σ1 => (if r2 = 0 then some ((-1), σ1) else e_cI (m_X6_within x2 4 σ1) (fun r4 σ3 => (if r4 = 0 then some ((-2), σ3) else e_cI (m_X6_stateIn 1 x1 x2 σ3) (fun r6 σ5 => some (r6, σ5))))))
theorem om_X6_state {G : KW} {l : Launch} (x1 : Int32) (x2 : Int32)  (σ : Sg) : Okk G l cX6_state 3 RX6 (some .int) (rmo 5 111) ccI 0 [some (k_rr G 0), some (.int x1), some (.int x2)] [] σ (m_X6_state x1 x2 σ) := by
  unfold m_X6_state
  refine ok_aload0 (dq_of td_X6_state 0 rfl) ?_
  refine ok_get (v := k_rr G 1) fl_X6_10 (by decide) ko_0 rfl (dq_of td_X6_state 1 rfl) ?_
  refine ok_iload1 (dq_of td_X6_state 2 rfl) ?_
  refine call_X4_hasPerson ml_X6_70 tw_1 ⟨Nat.le_of_ble_eq_true rfl, Nat.le_of_ble_eq_true rfl⟩ ⟨Nat.zero_le _, Nat.zero_le _⟩ (Nat.le_of_ble_eq_true rfl) (dq_of td_X6_state 3 rfl) (fun r2 σ1 => ?_)
  refine ok_if_ne (tgt := 13) (dq_of td_X6_state 4 rfl) (by decide) ?_ ?_
  · refine ok_iload2 (dq_of td_X6_state 7 rfl) ?_
    refine ok_iconst (v := 4) (dq_of td_X6_state 8 rfl) (by decide) ?_
    refine call_X6_within ml_X6_66  ⟨Nat.le_of_ble_eq_true rfl, Nat.le_of_ble_eq_true rfl⟩ ⟨Nat.zero_le _, Nat.zero_le _⟩ (Nat.le_of_ble_eq_true rfl) (dq_of td_X6_state 9 rfl) (fun r4 σ3 => ?_)
    refine ok_if_ne (tgt := 24) (dq_of td_X6_state 10 rfl) (by decide) ?_ ?_
    · refine ok_aload0 (dq_of td_X6_state 13 rfl) ?_
      refine ok_aload0 (dq_of td_X6_state 14 rfl) ?_
      refine ok_get (v := k_rr G 1) fl_X6_10 (by decide) ko_0 rfl (dq_of td_X6_state 15 rfl) ?_
      refine ok_iload1 (dq_of td_X6_state 16 rfl) ?_
      refine ok_iload2 (dq_of td_X6_state 17 rfl) ?_
      refine call_X6_stateIn ml_X6_151 tw_1 ⟨Nat.le_of_ble_eq_true rfl, Nat.le_of_ble_eq_true rfl⟩ ⟨Nat.zero_le _, Nat.zero_le _⟩ (Nat.le_of_ble_eq_true rfl) (dq_of td_X6_state 18 rfl) (fun r6 σ5 => ?_)
      exact ok_iret (dq_of td_X6_state 19 rfl)
    · refine ok_bipush (v := (-2)) (dq_of td_X6_state 11 rfl) (by decide) ?_
      exact ok_iret (dq_of td_X6_state 12 rfl)
  · refine ok_iconst (v := (-1)) (dq_of td_X6_state 5 rfl) (by decide) ?_
    exact ok_iret (dq_of td_X6_state 6 rfl)
theorem ct_X6_state {G : KW} {l : Launch} (x1 : Int32) (x2 : Int32)  (σ : Sg) : ∀ b, m_X6_state x1 x2 σ = some b → MetF G l yX6_state cX6_state 3 (some .int) 5 111 [k_rr G 0, .int x1, .int x2] (k_wl G σ) (ccI b).1 (k_wl G (ccI b).2) :=
  met_of (by decide) (Nat.le_of_ble_eq_true rfl) rfl (om_X6_state _ _  σ)
theorem call_X6_state {G : KW} {l : Launch} {cc : ByteArray} {nL : Nat} {own : String} {rt : Option FieldType} {R : Room} {α : Type} {X : State → Array Value → Method → Prop} {Z : α → List Frame → Array Value → State → State → Prop} {k0 n0 pc index : Nat} {L : List (Option Value)} {S : List Value} {σ : Sg} {F : Int32 → Sg → Option α} {x1 : Int32} {x2 : Int32} (lk : MLk own index yX6_state)  (hR : R.frames ≥ 5 + 1 ∧ R.locals ≥ 8 + (3 + 11) + 111) (hcs : k0 ≤ R.cells ∧ n0 ≤ R.slots) (hro : (S.map fun v => v.category).sum ≤ 8) (d : decode cc pc = .ok (.invokevirtual index, 3)) (kk : ∀ (r : Int32) (σ' : Sg), Okg G l cc nL own rt R X Z k0 n0 (pc + 3) L (.int r :: S) σ' (F r σ')) : Okg G l cc nL own rt R X Z k0 n0 pc L (.int x2 :: .int x1 :: k_rr G 0 :: S) σ (e_cI (m_X6_state x1 x2 σ) F) :=
  ok_cV (cb := ccI) (As := [.int x1, .int x2]) (ct_X6_state _ _  σ) mo_X6_state hi_X6_state lk rfl (ci := 6) rfl rfl (by decide) ko_0 hR rfl hcs hro d (fun b => kk b.1 b.2)
/-! CoatDinner.behind(II)I -/
def m_X6_behind (x1 : Int32) (x2 : Int32) (σ : Sg) : Option (Int32 × Sg) := e_cI (m_X4_hasPerson 1 x1 σ) (fun r2 σ1 => (if r2 = 0 then some ((-1), σ1) else e_cI (m_X6_within x2 4 σ1) (fun r4 σ3 => (if r4 = 0 then some ((-2), σ3) else e_cI (m_X6_tryFeast σ3) (fun r6 σ5 => (if r6 = 0 then some ((-5), σ5) else e_cI (m_X6_stateIn 15 x1 x2 σ5) (fun r8 σ7 => some (r8, σ7))))))))
theorem om_X6_behind {G : KW} {l : Launch} (x1 : Int32) (x2 : Int32)  (σ : Sg) : Okk G l cX6_behind 3 RX6 (some .int) (rmo 6 138) ccI 0 [some (k_rr G 0), some (.int x1), some (.int x2)] [] σ (m_X6_behind x1 x2 σ) := by
  unfold m_X6_behind
  refine ok_aload0 (dq_of td_X6_behind 0 rfl) ?_
  refine ok_get (v := k_rr G 1) fl_X6_10 (by decide) ko_0 rfl (dq_of td_X6_behind 1 rfl) ?_
  refine ok_iload1 (dq_of td_X6_behind 2 rfl) ?_
  refine call_X4_hasPerson ml_X6_70 tw_1 ⟨Nat.le_of_ble_eq_true rfl, Nat.le_of_ble_eq_true rfl⟩ ⟨Nat.zero_le _, Nat.zero_le _⟩ (Nat.le_of_ble_eq_true rfl) (dq_of td_X6_behind 3 rfl) (fun r2 σ1 => ?_)
  refine ok_if_ne (tgt := 13) (dq_of td_X6_behind 4 rfl) (by decide) ?_ ?_
  · refine ok_iload2 (dq_of td_X6_behind 7 rfl) ?_
    refine ok_iconst (v := 4) (dq_of td_X6_behind 8 rfl) (by decide) ?_
    refine call_X6_within ml_X6_66  ⟨Nat.le_of_ble_eq_true rfl, Nat.le_of_ble_eq_true rfl⟩ ⟨Nat.zero_le _, Nat.zero_le _⟩ (Nat.le_of_ble_eq_true rfl) (dq_of td_X6_behind 9 rfl) (fun r4 σ3 => ?_)
    refine ok_if_ne (tgt := 24) (dq_of td_X6_behind 10 rfl) (by decide) ?_ ?_
    · refine ok_aload0 (dq_of td_X6_behind 13 rfl) ?_
      refine call_X6_tryFeast ml_X6_137  ⟨Nat.le_of_ble_eq_true rfl, Nat.le_of_ble_eq_true rfl⟩ ⟨Nat.zero_le _, Nat.zero_le _⟩ (Nat.le_of_ble_eq_true rfl) (dq_of td_X6_behind 14 rfl) (fun r6 σ5 => ?_)
      refine ok_if_eq (tgt := 44) (dq_of td_X6_behind 15 rfl) (by decide) ?_ ?_
      · refine ok_bipush (v := (-5)) (dq_of td_X6_behind 23 rfl) (by decide) ?_
        exact ok_iret (dq_of td_X6_behind 24 rfl)
      · refine ok_aload0 (dq_of td_X6_behind 16 rfl) ?_
        refine ok_aload0 (dq_of td_X6_behind 17 rfl) ?_
        refine ok_get (v := k_rr G 15) fl_X6_16 (by decide) ko_0 rfl (dq_of td_X6_behind 18 rfl) ?_
        refine ok_iload1 (dq_of td_X6_behind 19 rfl) ?_
        refine ok_iload2 (dq_of td_X6_behind 20 rfl) ?_
        refine call_X6_stateIn ml_X6_151 tw_15 ⟨Nat.le_of_ble_eq_true rfl, Nat.le_of_ble_eq_true rfl⟩ ⟨Nat.zero_le _, Nat.zero_le _⟩ (Nat.le_of_ble_eq_true rfl) (dq_of td_X6_behind 21 rfl) (fun r8 σ7 => ?_)
        refine ok_goto (tgt := 46) (dq_of td_X6_behind 22 rfl) (by decide) ?_
        exact ok_iret (dq_of td_X6_behind 24 rfl)
    · refine ok_bipush (v := (-2)) (dq_of td_X6_behind 11 rfl) (by decide) ?_
      exact ok_iret (dq_of td_X6_behind 12 rfl)
  · refine ok_iconst (v := (-1)) (dq_of td_X6_behind 5 rfl) (by decide) ?_
    exact ok_iret (dq_of td_X6_behind 6 rfl)
theorem ct_X6_behind {G : KW} {l : Launch} (x1 : Int32) (x2 : Int32)  (σ : Sg) : ∀ b, m_X6_behind x1 x2 σ = some b → MetF G l yX6_behind cX6_behind 3 (some .int) 6 138 [k_rr G 0, .int x1, .int x2] (k_wl G σ) (ccI b).1 (k_wl G (ccI b).2) :=
  met_of (by decide) (Nat.le_of_ble_eq_true rfl) rfl (om_X6_behind _ _  σ)
theorem call_X6_behind {G : KW} {l : Launch} {cc : ByteArray} {nL : Nat} {own : String} {rt : Option FieldType} {R : Room} {α : Type} {X : State → Array Value → Method → Prop} {Z : α → List Frame → Array Value → State → State → Prop} {k0 n0 pc index : Nat} {L : List (Option Value)} {S : List Value} {σ : Sg} {F : Int32 → Sg → Option α} {x1 : Int32} {x2 : Int32} (lk : MLk own index yX6_behind)  (hR : R.frames ≥ 6 + 1 ∧ R.locals ≥ 8 + (3 + 11) + 138) (hcs : k0 ≤ R.cells ∧ n0 ≤ R.slots) (hro : (S.map fun v => v.category).sum ≤ 8) (d : decode cc pc = .ok (.invokevirtual index, 3)) (kk : ∀ (r : Int32) (σ' : Sg), Okg G l cc nL own rt R X Z k0 n0 (pc + 3) L (.int r :: S) σ' (F r σ')) : Okg G l cc nL own rt R X Z k0 n0 pc L (.int x2 :: .int x1 :: k_rr G 0 :: S) σ (e_cI (m_X6_behind x1 x2 σ) F) :=
  ok_cV (cb := ccI) (As := [.int x1, .int x2]) (ct_X6_behind _ _  σ) mo_X6_behind hi_X6_behind lk rfl (ci := 6) rfl rfl (by decide) ko_0 hR rfl hcs hro d (fun b => kk b.1 b.2)
/-! CoatDinner.at(I)I -/
def d_X6_at_13 (x1 : Int32) (K : Sg → Option (Int32 × Sg)) (H : Int32 → Sg → Option (Int32 × Sg)) (x2 : Int32) (σ : Sg) : Option (Int32 × Sg) := (if 5 ≤ x2 then K σ else e_cI (m_X4_hasPerson 1 x2 σ) (fun r3 σ2 => (if r3 = 0 then H (x2 + 1) σ2 else e_cI (m_X3_seatOf x2 σ2) (fun r5 σ4 => (if r5 = x1 then some (x2, σ4) else H (x2 + 1) σ4)))))
theorem od_X6_at_13 {G : KW} {l : Launch} (x1 : Int32)  {K : Sg → Option (Int32 × Sg)} {H : Int32 → Sg → Option (Int32 × Sg)} (hK : ∀  (σ : Sg), Okk G l cX6_at 3 RX6 (some .int) (rmo 3 66) ccI 49 [none, none, none] [] σ (K  σ)) (hH : ∀ (x2 : Int32) (σ : Sg), Okk G l cX6_at 3 RX6 (some .int) (rmo 3 66) ccI 13 [some (k_rr G 0), some (.int x1), some (.int x2)] [] σ (H x2 σ)) (x2 : Int32)  (σ : Sg) : Okk G l cX6_at 3 RX6 (some .int) (rmo 3 66) ccI 13 [some (k_rr G 0), some (.int x1), some (.int x2)] [] σ (d_X6_at_13 x1 K H x2 σ) := by
  unfold d_X6_at_13
  refine ok_iload2 (dq_of td_X6_at 7 rfl) ?_
  refine ok_iconst (v := 5) (dq_of td_X6_at 8 rfl) (by decide) ?_
  refine ok_ic_ge (tgt := 49) (dq_of td_X6_at 9 rfl) (by decide) ?_ ?_
  · refine ok_wk (wk_n (wk_n (wk_n wk_0))) ?_
    exact hK _
  · refine ok_aload0 (dq_of td_X6_at 10 rfl) ?_
    refine ok_get (v := k_rr G 1) fl_X6_10 (by decide) ko_0 rfl (dq_of td_X6_at 11 rfl) ?_
    refine ok_iload2 (dq_of td_X6_at 12 rfl) ?_
    refine call_X4_hasPerson ml_X6_70 tw_1 ⟨Nat.le_of_ble_eq_true rfl, Nat.le_of_ble_eq_true rfl⟩ ⟨Nat.zero_le _, Nat.zero_le _⟩ (Nat.le_of_ble_eq_true rfl) (dq_of td_X6_at 13 rfl) (fun r3 σ2 => ?_)
    refine ok_if_eq (tgt := 43) (dq_of td_X6_at 14 rfl) (by decide) ?_ ?_
    · refine ok_jinc2 (w := 1) (dq_of td_X6_at 23 rfl) (by decide) rfl (by decide) ?_
      refine ok_goto (tgt := 13) (dq_of td_X6_at 24 rfl) (by decide) ?_
      refine ok_wk (wk_s (wk_s (wk_s wk_0))) ?_
      exact hH _ _
    · refine ok_aload0 (dq_of td_X6_at 15 rfl) ?_
      refine ok_get (v := k_rr G 60) fl_X6_39 (by decide) ko_0 rfl (dq_of td_X6_at 16 rfl) ?_
      refine ok_iload2 (dq_of td_X6_at 17 rfl) ?_
      refine call_X3_seatOf ml_X6_158  ⟨Nat.le_of_ble_eq_true rfl, Nat.le_of_ble_eq_true rfl⟩ ⟨Nat.zero_le _, Nat.zero_le _⟩ (Nat.le_of_ble_eq_true rfl) (dq_of td_X6_at 18 rfl) (fun r5 σ4 => ?_)
      refine ok_iload1 (dq_of td_X6_at 19 rfl) ?_
      refine ok_ic_ne (tgt := 43) (dq_of td_X6_at 20 rfl) (by decide) ?_ ?_
      · refine ok_jinc2 (w := 1) (dq_of td_X6_at 23 rfl) (by decide) rfl (by decide) ?_
        refine ok_goto (tgt := 13) (dq_of td_X6_at 24 rfl) (by decide) ?_
        refine ok_wk (wk_s (wk_s (wk_s wk_0))) ?_
        exact hH _ _
      · refine ok_iload2 (dq_of td_X6_at 21 rfl) ?_
        exact ok_iret (dq_of td_X6_at 22 rfl)
theorem ld_X6_at_13 {G : KW} {l : Launch} (x1 : Int32)  {K : Sg → Option (Int32 × Sg)} (hK : ∀  (σ : Sg), Okk G l cX6_at 3 RX6 (some .int) (rmo 3 66) ccI 49 [none, none, none] [] σ (K  σ)) (n : Nat) (x2 : Int32) (σ : Sg) : Okk G l cX6_at 3 RX6 (some .int) (rmo 3 66) ccI 13 [some (k_rr G 0), some (.int x1), some (.int x2)] [] σ (e_lp1 (d_X6_at_13 x1 K) n x2 σ) :=
  ok_lp1 (Lf := fun (x2 : Int32) => [some (k_rr G 0), some (.int x1), some (.int x2)]) (fun _ hH x2 σ => od_X6_at_13 _  hK hH x2 σ) n x2 σ
def m_X6_at (x1 : Int32) (σ : Sg) : Option (Int32 × Sg) := e_cV (m_X3_lay 1 σ) (fun σ1 => e_lp1 (d_X6_at_13 x1 (fun σ6 => some ((-6), σ6))) e_F 0 σ1)
theorem om_X6_at {G : KW} {l : Launch} (x1 : Int32)  (σ : Sg) : Okk G l cX6_at 3 RX6 (some .int) (rmo 3 66) ccI 0 [some (k_rr G 0), some (.int x1), none] [] σ (m_X6_at x1 σ) := by
  unfold m_X6_at
  refine ok_aload0 (dq_of td_X6_at 0 rfl) ?_
  refine ok_get (v := k_rr G 60) fl_X6_39 (by decide) ko_0 rfl (dq_of td_X6_at 1 rfl) ?_
  refine ok_aload0 (dq_of td_X6_at 2 rfl) ?_
  refine ok_get (v := k_rr G 1) fl_X6_10 (by decide) ko_0 rfl (dq_of td_X6_at 3 rfl) ?_
  refine call_X3_lay ml_X6_155 tw_1 ⟨Nat.le_of_ble_eq_true rfl, Nat.le_of_ble_eq_true rfl⟩ ⟨Nat.zero_le _, Nat.zero_le _⟩ (Nat.le_of_ble_eq_true rfl) (dq_of td_X6_at 4 rfl) (fun σ1 => ?_)
  refine ok_iconst (v := 0) (dq_of td_X6_at 5 rfl) (by decide) ?_
  refine ok_istore2 (dq_of td_X6_at 6 rfl) rfl (by decide) ?_
  refine ok_wk (wk_s (wk_s (wk_s wk_0))) ?_
  refine ld_X6_at_13 _  (fun σ6 => ?_) _ _ _
  refine ok_bipush (v := (-6)) (dq_of td_X6_at 25 rfl) (by decide) ?_
  exact ok_iret (dq_of td_X6_at 26 rfl)
theorem ct_X6_at {G : KW} {l : Launch} (x1 : Int32)  (σ : Sg) : ∀ b, m_X6_at x1 σ = some b → MetF G l yX6_at cX6_at 3 (some .int) 3 66 [k_rr G 0, .int x1] (k_wl G σ) (ccI b).1 (k_wl G (ccI b).2) :=
  met_of (by decide) (Nat.le_of_ble_eq_true rfl) rfl (om_X6_at _  σ)
theorem call_X6_at {G : KW} {l : Launch} {cc : ByteArray} {nL : Nat} {own : String} {rt : Option FieldType} {R : Room} {α : Type} {X : State → Array Value → Method → Prop} {Z : α → List Frame → Array Value → State → State → Prop} {k0 n0 pc index : Nat} {L : List (Option Value)} {S : List Value} {σ : Sg} {F : Int32 → Sg → Option α} {x1 : Int32} (lk : MLk own index yX6_at)  (hR : R.frames ≥ 3 + 1 ∧ R.locals ≥ 8 + (3 + 11) + 66) (hcs : k0 ≤ R.cells ∧ n0 ≤ R.slots) (hro : (S.map fun v => v.category).sum ≤ 8) (d : decode cc pc = .ok (.invokevirtual index, 3)) (kk : ∀ (r : Int32) (σ' : Sg), Okg G l cc nL own rt R X Z k0 n0 (pc + 3) L (.int r :: S) σ' (F r σ')) : Okg G l cc nL own rt R X Z k0 n0 pc L (.int x1 :: k_rr G 0 :: S) σ (e_cI (m_X6_at x1 σ) F) :=
  ok_cV (cb := ccI) (As := [.int x1]) (ct_X6_at _  σ) mo_X6_at hi_X6_at lk rfl (ci := 6) rfl rfl (by decide) ko_0 hR rfl hcs hro d (fun b => kk b.1 b.2)
/-! CoatDinner.beside(II)I -/
def m_X6_beside (x1 : Int32) (x2 : Int32) (σ : Sg) : Option (Int32 × Sg) := e_cI (m_X4_hasPerson 1 x1 σ) (fun r2 σ1 => (if r2 = 0 then some ((-1), σ1) else e_cI (m_X4_hasPerson 1 x2 σ1) (fun r4 σ3 => (if r4 = 0 then some ((-1), σ3) else (if x1 = x2 then some ((-1), σ3) else e_cI (m_X2_fewest 1 x1 x2 0 σ3) (fun r6 σ5 => some (r6, σ5)))))))
theorem om_X6_beside {G : KW} {l : Launch} (x1 : Int32) (x2 : Int32)  (σ : Sg) : Okk G l cX6_beside 3 RX6 (some .int) (rmo 6 139) ccI 0 [some (k_rr G 0), some (.int x1), some (.int x2)] [] σ (m_X6_beside x1 x2 σ) := by
  unfold m_X6_beside
  refine ok_aload0 (dq_of td_X6_beside 0 rfl) ?_
  refine ok_get (v := k_rr G 1) fl_X6_10 (by decide) ko_0 rfl (dq_of td_X6_beside 1 rfl) ?_
  refine ok_iload1 (dq_of td_X6_beside 2 rfl) ?_
  refine call_X4_hasPerson ml_X6_70 tw_1 ⟨Nat.le_of_ble_eq_true rfl, Nat.le_of_ble_eq_true rfl⟩ ⟨Nat.zero_le _, Nat.zero_le _⟩ (Nat.le_of_ble_eq_true rfl) (dq_of td_X6_beside 3 rfl) (fun r2 σ1 => ?_)
  refine ok_if_eq (tgt := 27) (dq_of td_X6_beside 4 rfl) (by decide) ?_ ?_
  · refine ok_iconst (v := (-1)) (dq_of td_X6_beside 13 rfl) (by decide) ?_
    exact ok_iret (dq_of td_X6_beside 14 rfl)
  · refine ok_aload0 (dq_of td_X6_beside 5 rfl) ?_
    refine ok_get (v := k_rr G 1) fl_X6_10 (by decide) ko_0 rfl (dq_of td_X6_beside 6 rfl) ?_
    refine ok_iload2 (dq_of td_X6_beside 7 rfl) ?_
    refine call_X4_hasPerson ml_X6_70 tw_1 ⟨Nat.le_of_ble_eq_true rfl, Nat.le_of_ble_eq_true rfl⟩ ⟨Nat.zero_le _, Nat.zero_le _⟩ (Nat.le_of_ble_eq_true rfl) (dq_of td_X6_beside 8 rfl) (fun r4 σ3 => ?_)
    refine ok_if_eq (tgt := 27) (dq_of td_X6_beside 9 rfl) (by decide) ?_ ?_
    · refine ok_iconst (v := (-1)) (dq_of td_X6_beside 13 rfl) (by decide) ?_
      exact ok_iret (dq_of td_X6_beside 14 rfl)
    · refine ok_iload1 (dq_of td_X6_beside 10 rfl) ?_
      refine ok_iload2 (dq_of td_X6_beside 11 rfl) ?_
      refine ok_ic_ne (tgt := 29) (dq_of td_X6_beside 12 rfl) (by decide) ?_ ?_
      · refine ok_aload0 (dq_of td_X6_beside 15 rfl) ?_
        refine ok_get (v := k_rr G 82) fl_X6_62 (by decide) ko_0 rfl (dq_of td_X6_beside 16 rfl) ?_
        refine ok_aload0 (dq_of td_X6_beside 17 rfl) ?_
        refine ok_get (v := k_rr G 1) fl_X6_10 (by decide) ko_0 rfl (dq_of td_X6_beside 18 rfl) ?_
        refine ok_iload1 (dq_of td_X6_beside 19 rfl) ?_
        refine ok_iload2 (dq_of td_X6_beside 20 rfl) ?_
        refine ok_iconst (v := 0) (dq_of td_X6_beside 21 rfl) (by decide) ?_
        refine call_X2_fewest ml_X6_161 tw_1 ⟨Nat.le_of_ble_eq_true rfl, Nat.le_of_ble_eq_true rfl⟩ ⟨Nat.zero_le _, Nat.zero_le _⟩ (Nat.le_of_ble_eq_true rfl) (dq_of td_X6_beside 22 rfl) (fun r6 σ5 => ?_)
        exact ok_iret (dq_of td_X6_beside 23 rfl)
      · refine ok_iconst (v := (-1)) (dq_of td_X6_beside 13 rfl) (by decide) ?_
        exact ok_iret (dq_of td_X6_beside 14 rfl)
theorem ct_X6_beside {G : KW} {l : Launch} (x1 : Int32) (x2 : Int32)  (σ : Sg) : ∀ b, m_X6_beside x1 x2 σ = some b → MetF G l yX6_beside cX6_beside 3 (some .int) 6 139 [k_rr G 0, .int x1, .int x2] (k_wl G σ) (ccI b).1 (k_wl G (ccI b).2) :=
  met_of (by decide) (Nat.le_of_ble_eq_true rfl) rfl (om_X6_beside _ _  σ)
theorem call_X6_beside {G : KW} {l : Launch} {cc : ByteArray} {nL : Nat} {own : String} {rt : Option FieldType} {R : Room} {α : Type} {X : State → Array Value → Method → Prop} {Z : α → List Frame → Array Value → State → State → Prop} {k0 n0 pc index : Nat} {L : List (Option Value)} {S : List Value} {σ : Sg} {F : Int32 → Sg → Option α} {x1 : Int32} {x2 : Int32} (lk : MLk own index yX6_beside)  (hR : R.frames ≥ 6 + 1 ∧ R.locals ≥ 8 + (3 + 11) + 139) (hcs : k0 ≤ R.cells ∧ n0 ≤ R.slots) (hro : (S.map fun v => v.category).sum ≤ 8) (d : decode cc pc = .ok (.invokevirtual index, 3)) (kk : ∀ (r : Int32) (σ' : Sg), Okg G l cc nL own rt R X Z k0 n0 (pc + 3) L (.int r :: S) σ' (F r σ')) : Okg G l cc nL own rt R X Z k0 n0 pc L (.int x2 :: .int x1 :: k_rr G 0 :: S) σ (e_cI (m_X6_beside x1 x2 σ) F) :=
  ok_cV (cb := ccI) (As := [.int x1, .int x2]) (ct_X6_beside _ _  σ) mo_X6_beside hi_X6_beside lk rfl (ci := 6) rfl rfl (by decide) ko_0 hR rfl hcs hro d (fun b => kk b.1 b.2)
/-! CoatDinner.isSeat(I)Z -/
def m_X6_isSeat (x0 : Int32) (σ : Sg) : Option (Int32 × Sg) := e_cI (m_X6_within x0 4 σ) (fun r2 σ1 => e_rz r2 σ1)
theorem om_X6_isSeat {G : KW} {l : Launch} (x0 : Int32)  (σ : Sg) : Okk G l cX6_isSeat 1 RX6 (some .boolean) (rmo 1 21) ccI 0 [some (.int x0)] [] σ (m_X6_isSeat x0 σ) := by
  unfold m_X6_isSeat
  refine ok_iload0 (dq_of td_X6_isSeat 0 rfl) ?_
  refine ok_iconst (v := 4) (dq_of td_X6_isSeat 1 rfl) (by decide) ?_
  refine call_X6_within ml_X6_66  ⟨Nat.le_of_ble_eq_true rfl, Nat.le_of_ble_eq_true rfl⟩ ⟨Nat.zero_le _, Nat.zero_le _⟩ (Nat.le_of_ble_eq_true rfl) (dq_of td_X6_isSeat 2 rfl) (fun r2 σ1 => ?_)
  exact ok_zret (dq_of td_X6_isSeat 3 rfl)
theorem ct_X6_isSeat {G : KW} {l : Launch} (x0 : Int32)  (σ : Sg) : ∀ b, m_X6_isSeat x0 σ = some b → MetF G l yX6_isSeat cX6_isSeat 1 (some .boolean) 1 21 [.int x0] (k_wl G σ) (ccI b).1 (k_wl G (ccI b).2) :=
  met_of (by decide) (Nat.le_of_ble_eq_true rfl) rfl (om_X6_isSeat _  σ)
theorem call_X6_isSeat {G : KW} {l : Launch} {cc : ByteArray} {nL : Nat} {own : String} {rt : Option FieldType} {R : Room} {α : Type} {X : State → Array Value → Method → Prop} {Z : α → List Frame → Array Value → State → State → Prop} {k0 n0 pc index : Nat} {L : List (Option Value)} {S : List Value} {σ : Sg} {F : Int32 → Sg → Option α} {x0 : Int32} (lk : MLk own index yX6_isSeat)  (hR : R.frames ≥ 1 + 1 ∧ R.locals ≥ 8 + (1 + 11) + 21) (hcs : k0 ≤ R.cells ∧ n0 ≤ R.slots) (hro : (S.map fun v => v.category).sum ≤ 8) (d : decode cc pc = .ok (.invokestatic index, 3)) (kk : ∀ (r : Int32) (σ' : Sg), Okg G l cc nL own rt R X Z k0 n0 (pc + 3) L (.int r :: S) σ' (F r σ')) : Okg G l cc nL own rt R X Z k0 n0 pc L (.int x0 :: S) σ (e_cI (m_X6_isSeat x0 σ) F) :=
  ok_cS (cb := ccI) (ct_X6_isSeat _  σ) mo_X6_isSeat hi_X6_isSeat lk rfl hR rfl hcs hro d (fun b => kk b.1 b.2)
/-! CoatDinner.head(II)I -/
def m_X6_head (x1 : Int32) (x2 : Int32) (σ : Sg) : Option (Int32 × Sg) := e_cI (m_X4_hasPerson 1 x1 σ) (fun r2 σ1 => (if r2 = 0 then some ((-1), σ1) else e_cI (m_X6_isSeat x2 σ1) (fun r4 σ3 => (if r4 = 0 then some ((-2), σ3) else e_cI (m_X2_fewest 1 x1 ((-1)) x2 σ3) (fun r6 σ5 => some (r6, σ5))))))
theorem om_X6_head {G : KW} {l : Launch} (x1 : Int32) (x2 : Int32)  (σ : Sg) : Okk G l cX6_head 3 RX6 (some .int) (rmo 6 139) ccI 0 [some (k_rr G 0), some (.int x1), some (.int x2)] [] σ (m_X6_head x1 x2 σ) := by
  unfold m_X6_head
  refine ok_aload0 (dq_of td_X6_head 0 rfl) ?_
  refine ok_get (v := k_rr G 1) fl_X6_10 (by decide) ko_0 rfl (dq_of td_X6_head 1 rfl) ?_
  refine ok_iload1 (dq_of td_X6_head 2 rfl) ?_
  refine call_X4_hasPerson ml_X6_70 tw_1 ⟨Nat.le_of_ble_eq_true rfl, Nat.le_of_ble_eq_true rfl⟩ ⟨Nat.zero_le _, Nat.zero_le _⟩ (Nat.le_of_ble_eq_true rfl) (dq_of td_X6_head 3 rfl) (fun r2 σ1 => ?_)
  refine ok_if_ne (tgt := 13) (dq_of td_X6_head 4 rfl) (by decide) ?_ ?_
  · refine ok_iload2 (dq_of td_X6_head 7 rfl) ?_
    refine call_X6_isSeat ml_X6_165  ⟨Nat.le_of_ble_eq_true rfl, Nat.le_of_ble_eq_true rfl⟩ ⟨Nat.zero_le _, Nat.zero_le _⟩ (Nat.le_of_ble_eq_true rfl) (dq_of td_X6_head 8 rfl) (fun r4 σ3 => ?_)
    refine ok_if_ne (tgt := 23) (dq_of td_X6_head 9 rfl) (by decide) ?_ ?_
    · refine ok_aload0 (dq_of td_X6_head 12 rfl) ?_
      refine ok_get (v := k_rr G 82) fl_X6_62 (by decide) ko_0 rfl (dq_of td_X6_head 13 rfl) ?_
      refine ok_aload0 (dq_of td_X6_head 14 rfl) ?_
      refine ok_get (v := k_rr G 1) fl_X6_10 (by decide) ko_0 rfl (dq_of td_X6_head 15 rfl) ?_
      refine ok_iload1 (dq_of td_X6_head 16 rfl) ?_
      refine ok_iconst (v := (-1)) (dq_of td_X6_head 17 rfl) (by decide) ?_
      refine ok_iload2 (dq_of td_X6_head 18 rfl) ?_
      refine call_X2_fewest ml_X6_161 tw_1 ⟨Nat.le_of_ble_eq_true rfl, Nat.le_of_ble_eq_true rfl⟩ ⟨Nat.zero_le _, Nat.zero_le _⟩ (Nat.le_of_ble_eq_true rfl) (dq_of td_X6_head 19 rfl) (fun r6 σ5 => ?_)
      exact ok_iret (dq_of td_X6_head 20 rfl)
    · refine ok_bipush (v := (-2)) (dq_of td_X6_head 10 rfl) (by decide) ?_
      exact ok_iret (dq_of td_X6_head 11 rfl)
  · refine ok_iconst (v := (-1)) (dq_of td_X6_head 5 rfl) (by decide) ?_
    exact ok_iret (dq_of td_X6_head 6 rfl)
theorem ct_X6_head {G : KW} {l : Launch} (x1 : Int32) (x2 : Int32)  (σ : Sg) : ∀ b, m_X6_head x1 x2 σ = some b → MetF G l yX6_head cX6_head 3 (some .int) 6 139 [k_rr G 0, .int x1, .int x2] (k_wl G σ) (ccI b).1 (k_wl G (ccI b).2) :=
  met_of (by decide) (Nat.le_of_ble_eq_true rfl) rfl (om_X6_head _ _  σ)
theorem call_X6_head {G : KW} {l : Launch} {cc : ByteArray} {nL : Nat} {own : String} {rt : Option FieldType} {R : Room} {α : Type} {X : State → Array Value → Method → Prop} {Z : α → List Frame → Array Value → State → State → Prop} {k0 n0 pc index : Nat} {L : List (Option Value)} {S : List Value} {σ : Sg} {F : Int32 → Sg → Option α} {x1 : Int32} {x2 : Int32} (lk : MLk own index yX6_head)  (hR : R.frames ≥ 6 + 1 ∧ R.locals ≥ 8 + (3 + 11) + 139) (hcs : k0 ≤ R.cells ∧ n0 ≤ R.slots) (hro : (S.map fun v => v.category).sum ≤ 8) (d : decode cc pc = .ok (.invokevirtual index, 3)) (kk : ∀ (r : Int32) (σ' : Sg), Okg G l cc nL own rt R X Z k0 n0 (pc + 3) L (.int r :: S) σ' (F r σ')) : Okg G l cc nL own rt R X Z k0 n0 pc L (.int x2 :: .int x1 :: k_rr G 0 :: S) σ (e_cI (m_X6_head x1 x2 σ) F) :=
  ok_cV (cb := ccI) (As := [.int x1, .int x2]) (ct_X6_head _ _  σ) mo_X6_head hi_X6_head lk rfl (ci := 6) rfl rfl (by decide) ko_0 hR rfl hcs hro d (fun b => kk b.1 b.2)
/-! CoatDinner.ways(II)I -/
def b_X6_ways_82 (x1 : Int32) (x2 : Int32) (K : Int32 → Sg → Option (Int32 × Sg)) (H : Int32 → Int32 → Sg → Option (Int32 × Sg)) (x3 : Int32) (x4 : Int32) (σ : Sg) : Option (Int32 × Sg) := e_cV (m_X5_goOn σ) (fun σ4 => H x3 (x4 + 1) σ4)
def b_X6_ways_79 (x1 : Int32) (x2 : Int32) (K : Int32 → Sg → Option (Int32 × Sg)) (H : Int32 → Int32 → Sg → Option (Int32 × Sg)) (x3 : Int32) (x4 : Int32) (σ : Sg) : Option (Int32 × Sg) := b_X6_ways_82 x1 x2 K H (x3 + 1) x4 σ
def d_X6_ways_44 (x1 : Int32) (x2 : Int32) (K : Int32 → Sg → Option (Int32 × Sg)) (H : Int32 → Int32 → Sg → Option (Int32 × Sg)) (x3 : Int32) (x4 : Int32) (σ : Sg) : Option (Int32 × Sg) := (if 7776 ≤ x4 then K x3 σ else (if (σ 65 4) = 0 then K x3 σ else (if x1 = ((-1)) then b_X6_ways_79 x1 x2 K H x3 x4 σ else e_cI (m_X5_seatOf x1 σ) (fun r6 σ5 => (if r6 = x2 then b_X6_ways_79 x1 x2 K H x3 x4 σ5 else b_X6_ways_82 x1 x2 K H x3 x4 σ5)))))
def b_X6_ways_18 (x1 : Int32) (x2 : Int32)  (σ : Sg) : Option (Int32 × Sg) := e_cI (m_X6_isSeat x2 σ) (fun r2 σ1 => (if r2 = 0 then some ((-2), σ1) else e_cV (m_X5_begin 1 σ1) (fun σ3 => e_lp2 (d_X6_ways_44 x1 x2 (fun x3q7 σ7 => some (x3q7, σ7))) e_F 0 0 σ3)))
theorem ob_X6_ways_82 {G : KW} {l : Launch} (x1 : Int32) (x2 : Int32)  {K : Int32 → Sg → Option (Int32 × Sg)} {H : Int32 → Int32 → Sg → Option (Int32 × Sg)} (hK : ∀ (x3 : Int32) (σ : Sg), Okk G l cX6_ways 5 RX6 (some .int) (rmo 4 88) ccI 95 [none, none, none, some (.int x3), none] [] σ (K x3 σ)) (hH : ∀ (x3 : Int32) (x4 : Int32) (σ : Sg), Okk G l cX6_ways 5 RX6 (some .int) (rmo 4 88) ccI 44 [some (k_rr G 0), some (.int x1), some (.int x2), some (.int x3), some (.int x4)] [] σ (H x3 x4 σ)) (x3 : Int32) (x4 : Int32)  (σ : Sg) : Okk G l cX6_ways 5 RX6 (some .int) (rmo 4 88) ccI 82 [some (k_rr G 0), some (.int x1), some (.int x2), some (.int x3), some (.int x4)] [] σ (b_X6_ways_82 x1 x2 K H x3 x4 σ) := by
  unfold b_X6_ways_82
  refine ok_aload0 (dq_of td_X6_ways 41 rfl) ?_
  refine ok_get (v := k_rr G 65) fl_X6_55 (by decide) ko_0 rfl (dq_of td_X6_ways 42 rfl) ?_
  refine call_X5_goOn ml_X6_176  ⟨Nat.le_of_ble_eq_true rfl, Nat.le_of_ble_eq_true rfl⟩ ⟨Nat.zero_le _, Nat.zero_le _⟩ (Nat.le_of_ble_eq_true rfl) (dq_of td_X6_ways 43 rfl) (fun σ4 => ?_)
  refine ok_jinc4 (w := 1) (dq_of td_X6_ways 44 rfl) (by decide) rfl (by decide) ?_
  refine ok_goto (tgt := 44) (dq_of td_X6_ways 45 rfl) (by decide) ?_
  refine ok_wk (wk_s (wk_s (wk_s (wk_s (wk_s wk_0))))) ?_
  exact hH _ _ _
theorem ob_X6_ways_79 {G : KW} {l : Launch} (x1 : Int32) (x2 : Int32)  {K : Int32 → Sg → Option (Int32 × Sg)} {H : Int32 → Int32 → Sg → Option (Int32 × Sg)} (hK : ∀ (x3 : Int32) (σ : Sg), Okk G l cX6_ways 5 RX6 (some .int) (rmo 4 88) ccI 95 [none, none, none, some (.int x3), none] [] σ (K x3 σ)) (hH : ∀ (x3 : Int32) (x4 : Int32) (σ : Sg), Okk G l cX6_ways 5 RX6 (some .int) (rmo 4 88) ccI 44 [some (k_rr G 0), some (.int x1), some (.int x2), some (.int x3), some (.int x4)] [] σ (H x3 x4 σ)) (x3 : Int32) (x4 : Int32)  (σ : Sg) : Okk G l cX6_ways 5 RX6 (some .int) (rmo 4 88) ccI 79 [some (k_rr G 0), some (.int x1), some (.int x2), some (.int x3), some (.int x4)] [] σ (b_X6_ways_79 x1 x2 K H x3 x4 σ) := by
  unfold b_X6_ways_79
  refine ok_jinc3 (w := 1) (dq_of td_X6_ways 40 rfl) (by decide) rfl (by decide) ?_
  refine ok_wk (wk_s (wk_s (wk_s (wk_s (wk_s wk_0))))) ?_
  exact ob_X6_ways_82 _ _  hK hH _ _  _
theorem od_X6_ways_44 {G : KW} {l : Launch} (x1 : Int32) (x2 : Int32)  {K : Int32 → Sg → Option (Int32 × Sg)} {H : Int32 → Int32 → Sg → Option (Int32 × Sg)} (hK : ∀ (x3 : Int32) (σ : Sg), Okk G l cX6_ways 5 RX6 (some .int) (rmo 4 88) ccI 95 [none, none, none, some (.int x3), none] [] σ (K x3 σ)) (hH : ∀ (x3 : Int32) (x4 : Int32) (σ : Sg), Okk G l cX6_ways 5 RX6 (some .int) (rmo 4 88) ccI 44 [some (k_rr G 0), some (.int x1), some (.int x2), some (.int x3), some (.int x4)] [] σ (H x3 x4 σ)) (x3 : Int32) (x4 : Int32)  (σ : Sg) : Okk G l cX6_ways 5 RX6 (some .int) (rmo 4 88) ccI 44 [some (k_rr G 0), some (.int x1), some (.int x2), some (.int x3), some (.int x4)] [] σ (d_X6_ways_44 x1 x2 K H x3 x4 σ) := by
  unfold d_X6_ways_44
  refine ok_iload4 (dq_of td_X6_ways 24 rfl) ?_
  refine ok_sipush (v := 7776) (dq_of td_X6_ways 25 rfl) (by decide) ?_
  refine ok_ic_ge (tgt := 95) (dq_of td_X6_ways 26 rfl) (by decide) ?_ ?_
  · refine ok_wk (wk_n (wk_n (wk_n (wk_s (wk_n wk_0))))) ?_
    exact hK _ _
  · refine ok_aload0 (dq_of td_X6_ways 27 rfl) ?_
    refine ok_get (v := k_rr G 65) fl_X6_55 (by decide) ko_0 rfl (dq_of td_X6_ways 28 rfl) ?_
    refine ok_get (v := .int (σ 65 4)) fl_X6_171 (by decide) ko_65 rfl (dq_of td_X6_ways 29 rfl) ?_
    refine ok_if_eq (tgt := 95) (dq_of td_X6_ways 30 rfl) (by decide) ?_ ?_
    · refine ok_wk (wk_n (wk_n (wk_n (wk_s (wk_n wk_0))))) ?_
      exact hK _ _
    · refine ok_iload1 (dq_of td_X6_ways 31 rfl) ?_
      refine ok_iconst (v := (-1)) (dq_of td_X6_ways 32 rfl) (by decide) ?_
      refine ok_ic_eq (tgt := 79) (dq_of td_X6_ways 33 rfl) (by decide) ?_ ?_
      · refine ok_wk (wk_s (wk_s (wk_s (wk_s (wk_s wk_0))))) ?_
        exact ob_X6_ways_79 _ _  hK hH _ _  _
      · refine ok_aload0 (dq_of td_X6_ways 34 rfl) ?_
        refine ok_get (v := k_rr G 65) fl_X6_55 (by decide) ko_0 rfl (dq_of td_X6_ways 35 rfl) ?_
        refine ok_iload1 (dq_of td_X6_ways 36 rfl) ?_
        refine call_X5_seatOf ml_X6_175  ⟨Nat.le_of_ble_eq_true rfl, Nat.le_of_ble_eq_true rfl⟩ ⟨Nat.zero_le _, Nat.zero_le _⟩ (Nat.le_of_ble_eq_true rfl) (dq_of td_X6_ways 37 rfl) (fun r6 σ5 => ?_)
        refine ok_iload2 (dq_of td_X6_ways 38 rfl) ?_
        refine ok_ic_ne (tgt := 82) (dq_of td_X6_ways 39 rfl) (by decide) ?_ ?_
        · refine ok_wk (wk_s (wk_s (wk_s (wk_s (wk_s wk_0))))) ?_
          exact ob_X6_ways_82 _ _  hK hH _ _  _
        · refine ok_wk (wk_s (wk_s (wk_s (wk_s (wk_s wk_0))))) ?_
          exact ob_X6_ways_79 _ _  hK hH _ _  _
theorem ld_X6_ways_44 {G : KW} {l : Launch} (x1 : Int32) (x2 : Int32)  {K : Int32 → Sg → Option (Int32 × Sg)} (hK : ∀ (x3 : Int32) (σ : Sg), Okk G l cX6_ways 5 RX6 (some .int) (rmo 4 88) ccI 95 [none, none, none, some (.int x3), none] [] σ (K x3 σ)) (n : Nat) (x3 : Int32) (x4 : Int32) (σ : Sg) : Okk G l cX6_ways 5 RX6 (some .int) (rmo 4 88) ccI 44 [some (k_rr G 0), some (.int x1), some (.int x2), some (.int x3), some (.int x4)] [] σ (e_lp2 (d_X6_ways_44 x1 x2 K) n x3 x4 σ) :=
  ok_lp2 (Lf := fun (x3 : Int32) (x4 : Int32) => [some (k_rr G 0), some (.int x1), some (.int x2), some (.int x3), some (.int x4)]) (fun _ hH x3 x4 σ => od_X6_ways_44 _ _  hK hH x3 x4 σ) n x3 x4 σ
theorem ob_X6_ways_18 {G : KW} {l : Launch} (x1 : Int32) (x2 : Int32)    (σ : Sg) : Okk G l cX6_ways 5 RX6 (some .int) (rmo 4 88) ccI 18 [some (k_rr G 0), some (.int x1), some (.int x2), none, none] [] σ (b_X6_ways_18 x1 x2  σ) := by
  unfold b_X6_ways_18
  refine ok_iload2 (dq_of td_X6_ways 10 rfl) ?_
  refine call_X6_isSeat ml_X6_165  ⟨Nat.le_of_ble_eq_true rfl, Nat.le_of_ble_eq_true rfl⟩ ⟨Nat.zero_le _, Nat.zero_le _⟩ (Nat.le_of_ble_eq_true rfl) (dq_of td_X6_ways 11 rfl) (fun r2 σ1 => ?_)
  refine ok_if_ne (tgt := 28) (dq_of td_X6_ways 12 rfl) (by decide) ?_ ?_
  · refine ok_iconst (v := 0) (dq_of td_X6_ways 15 rfl) (by decide) ?_
    refine ok_istore3 (dq_of td_X6_ways 16 rfl) rfl (by decide) ?_
    refine ok_aload0 (dq_of td_X6_ways 17 rfl) ?_
    refine ok_get (v := k_rr G 65) fl_X6_55 (by decide) ko_0 rfl (dq_of td_X6_ways 18 rfl) ?_
    refine ok_aload0 (dq_of td_X6_ways 19 rfl) ?_
    refine ok_get (v := k_rr G 1) fl_X6_10 (by decide) ko_0 rfl (dq_of td_X6_ways 20 rfl) ?_
    refine call_X5_begin ml_X6_168 tw_1 ⟨Nat.le_of_ble_eq_true rfl, Nat.le_of_ble_eq_true rfl⟩ ⟨Nat.zero_le _, Nat.zero_le _⟩ (Nat.le_of_ble_eq_true rfl) (dq_of td_X6_ways 21 rfl) (fun σ3 => ?_)
    refine ok_iconst (v := 0) (dq_of td_X6_ways 22 rfl) (by decide) ?_
    refine ok_istore4 (dq_of td_X6_ways 23 rfl) rfl (by decide) ?_
    refine ok_wk (wk_s (wk_s (wk_s (wk_s (wk_s wk_0))))) ?_
    refine ld_X6_ways_44 _ _  (fun x3q7 σ7 => ?_) _ _ _ _
    refine ok_iload3 (dq_of td_X6_ways 46 rfl) ?_
    exact ok_iret (dq_of td_X6_ways 47 rfl)
  · refine ok_bipush (v := (-2)) (dq_of td_X6_ways 13 rfl) (by decide) ?_
    exact ok_iret (dq_of td_X6_ways 14 rfl)
def m_X6_ways (x1 : Int32) (x2 : Int32) (σ : Sg) : Option (Int32 × Sg) := (if x1 = ((-1)) then b_X6_ways_18 x1 x2 σ else e_cI (m_X4_hasPerson 1 x1 σ) (fun r9 σ8 => (if r9 = 0 then some ((-1), σ8) else b_X6_ways_18 x1 x2 σ8)))
theorem om_X6_ways {G : KW} {l : Launch} (x1 : Int32) (x2 : Int32)  (σ : Sg) : Okk G l cX6_ways 5 RX6 (some .int) (rmo 4 88) ccI 0 [some (k_rr G 0), some (.int x1), some (.int x2), none, none] [] σ (m_X6_ways x1 x2 σ) := by
  unfold m_X6_ways
  refine ok_iload1 (dq_of td_X6_ways 0 rfl) ?_
  refine ok_iconst (v := (-1)) (dq_of td_X6_ways 1 rfl) (by decide) ?_
  refine ok_ic_eq (tgt := 18) (dq_of td_X6_ways 2 rfl) (by decide) ?_ ?_
  · refine ok_wk (wk_s (wk_s (wk_s (wk_n (wk_n wk_0))))) ?_
    exact ob_X6_ways_18 _ _   _
  · refine ok_aload0 (dq_of td_X6_ways 3 rfl) ?_
    refine ok_get (v := k_rr G 1) fl_X6_10 (by decide) ko_0 rfl (dq_of td_X6_ways 4 rfl) ?_
    refine ok_iload1 (dq_of td_X6_ways 5 rfl) ?_
    refine call_X4_hasPerson ml_X6_70 tw_1 ⟨Nat.le_of_ble_eq_true rfl, Nat.le_of_ble_eq_true rfl⟩ ⟨Nat.zero_le _, Nat.zero_le _⟩ (Nat.le_of_ble_eq_true rfl) (dq_of td_X6_ways 6 rfl) (fun r9 σ8 => ?_)
    refine ok_if_ne (tgt := 18) (dq_of td_X6_ways 7 rfl) (by decide) ?_ ?_
    · refine ok_wk (wk_s (wk_s (wk_s (wk_n (wk_n wk_0))))) ?_
      exact ob_X6_ways_18 _ _   _
    · refine ok_iconst (v := (-1)) (dq_of td_X6_ways 8 rfl) (by decide) ?_
      exact ok_iret (dq_of td_X6_ways 9 rfl)
theorem ct_X6_ways {G : KW} {l : Launch} (x1 : Int32) (x2 : Int32)  (σ : Sg) : ∀ b, m_X6_ways x1 x2 σ = some b → MetF G l yX6_ways cX6_ways 5 (some .int) 4 88 [k_rr G 0, .int x1, .int x2] (k_wl G σ) (ccI b).1 (k_wl G (ccI b).2) :=
  met_of (by decide) (Nat.le_of_ble_eq_true rfl) rfl (om_X6_ways _ _  σ)
theorem call_X6_ways {G : KW} {l : Launch} {cc : ByteArray} {nL : Nat} {own : String} {rt : Option FieldType} {R : Room} {α : Type} {X : State → Array Value → Method → Prop} {Z : α → List Frame → Array Value → State → State → Prop} {k0 n0 pc index : Nat} {L : List (Option Value)} {S : List Value} {σ : Sg} {F : Int32 → Sg → Option α} {x1 : Int32} {x2 : Int32} (lk : MLk own index yX6_ways)  (hR : R.frames ≥ 4 + 1 ∧ R.locals ≥ 8 + (5 + 11) + 88) (hcs : k0 ≤ R.cells ∧ n0 ≤ R.slots) (hro : (S.map fun v => v.category).sum ≤ 8) (d : decode cc pc = .ok (.invokevirtual index, 3)) (kk : ∀ (r : Int32) (σ' : Sg), Okg G l cc nL own rt R X Z k0 n0 (pc + 3) L (.int r :: S) σ' (F r σ')) : Okg G l cc nL own rt R X Z k0 n0 pc L (.int x2 :: .int x1 :: k_rr G 0 :: S) σ (e_cI (m_X6_ways x1 x2 σ) F) :=
  ok_cV (cb := ccI) (As := [.int x1, .int x2]) (ct_X6_ways _ _  σ) mo_X6_ways hi_X6_ways lk rfl (ci := 6) rfl rfl (by decide) ko_0 hR rfl hcs hro d (fun b => kk b.1 b.2)
/-! CoatDinner.seatings()I -/
def m_X6_seatings  (σ : Sg) : Option (Int32 × Sg) := e_cI (m_X5_countRows 1 σ) (fun r2 σ1 => some (r2, σ1))
theorem om_X6_seatings {G : KW} {l : Launch}   (σ : Sg) : Okk G l cX6_seatings 1 RX6 (some .int) (rmo 5 114) ccI 0 [some (k_rr G 0)] [] σ (m_X6_seatings  σ) := by
  unfold m_X6_seatings
  refine ok_aload0 (dq_of td_X6_seatings 0 rfl) ?_
  refine ok_get (v := k_rr G 65) fl_X6_55 (by decide) ko_0 rfl (dq_of td_X6_seatings 1 rfl) ?_
  refine ok_aload0 (dq_of td_X6_seatings 2 rfl) ?_
  refine ok_get (v := k_rr G 1) fl_X6_10 (by decide) ko_0 rfl (dq_of td_X6_seatings 3 rfl) ?_
  refine call_X5_countRows ml_X6_179 tw_1 ⟨Nat.le_of_ble_eq_true rfl, Nat.le_of_ble_eq_true rfl⟩ ⟨Nat.zero_le _, Nat.zero_le _⟩ (Nat.le_of_ble_eq_true rfl) (dq_of td_X6_seatings 4 rfl) (fun r2 σ1 => ?_)
  exact ok_iret (dq_of td_X6_seatings 5 rfl)
theorem ct_X6_seatings {G : KW} {l : Launch}   (σ : Sg) : ∀ b, m_X6_seatings  σ = some b → MetF G l yX6_seatings cX6_seatings 1 (some .int) 5 114 [k_rr G 0] (k_wl G σ) (ccI b).1 (k_wl G (ccI b).2) :=
  met_of (by decide) (Nat.le_of_ble_eq_true rfl) rfl (om_X6_seatings   σ)
theorem call_X6_seatings {G : KW} {l : Launch} {cc : ByteArray} {nL : Nat} {own : String} {rt : Option FieldType} {R : Room} {α : Type} {X : State → Array Value → Method → Prop} {Z : α → List Frame → Array Value → State → State → Prop} {k0 n0 pc index : Nat} {L : List (Option Value)} {S : List Value} {σ : Sg} {F : Int32 → Sg → Option α}  (lk : MLk own index yX6_seatings)  (hR : R.frames ≥ 5 + 1 ∧ R.locals ≥ 8 + (1 + 11) + 114) (hcs : k0 ≤ R.cells ∧ n0 ≤ R.slots) (hro : (S.map fun v => v.category).sum ≤ 8) (d : decode cc pc = .ok (.invokevirtual index, 3)) (kk : ∀ (r : Int32) (σ' : Sg), Okg G l cc nL own rt R X Z k0 n0 (pc + 3) L (.int r :: S) σ' (F r σ')) : Okg G l cc nL own rt R X Z k0 n0 pc L (k_rr G 0 :: S) σ (e_cI (m_X6_seatings  σ) F) :=
  ok_cV (cb := ccI) (As := []) (ct_X6_seatings   σ) mo_X6_seatings hi_X6_seatings lk rfl (ci := 6) rfl rfl (by decide) ko_0 hR rfl hcs hro d (fun b => kk b.1 b.2)
/-! CoatDinner.decides(I)I -/
def b_X6_decides_93 (x1 : Int32) (K : Int32 → Sg → Option (Int32 × Sg)) (H : Int32 → Int32 → Sg → Option (Int32 × Sg)) (x2 : Int32) (x3 : Int32) (σ : Sg) : Option (Int32 × Sg) := e_gd (k_in x3 5) (e_wr σ 16 x3 5 (σ 2 (Int32.toNatClampNeg x3)) (fun σ13 => H x2 (x3 + 1) σ13))
def d_X6_decides_28 (x1 : Int32) (K : Int32 → Sg → Option (Int32 × Sg)) (H : Int32 → Int32 → Sg → Option (Int32 × Sg)) (x2 : Int32) (x3 : Int32) (σ : Sg) : Option (Int32 × Sg) := (if 5 ≤ x3 then K x2 σ else e_cI (m_X4_hasPerson 1 x3 σ) (fun r5 σ4 => (if r5 = 0 then H x2 (x3 + 1) σ4 else e_cI (m_X4_wornByOther 1 x1 x3 σ4) (fun r7 σ6 => (if r7 = 0 then e_wr σ6 16 x3 5 x1 (fun σ8 => e_cI (m_X6_seatIn 15 x3 σ8) (fun r10 σ9 => e_cI (m_X6_seatIn 1 x3 σ9) (fun r12 σ11 => (if r10 = r12 then b_X6_decides_93 x1 K H x2 x3 σ11 else e_lt (x2 ||| (jsl 1 x3)) (fun v14 => b_X6_decides_93 x1 K H v14 x3 σ11))))) else H x2 (x3 + 1) σ6)))))
theorem ob_X6_decides_93 {G : KW} {l : Launch} (x1 : Int32)  {K : Int32 → Sg → Option (Int32 × Sg)} {H : Int32 → Int32 → Sg → Option (Int32 × Sg)} (hK : ∀ (x2 : Int32) (σ : Sg), Okk G l cX6_decides 4 RX6 (some .int) (rmo 4 88) ccI 117 [none, none, some (.int x2), none] [] σ (K x2 σ)) (hH : ∀ (x2 : Int32) (x3 : Int32) (σ : Sg), Okk G l cX6_decides 4 RX6 (some .int) (rmo 4 88) ccI 28 [some (k_rr G 0), some (.int x1), some (.int x2), some (.int x3)] [] σ (H x2 x3 σ)) (x2 : Int32) (x3 : Int32)  (σ : Sg) : Okk G l cX6_decides 4 RX6 (some .int) (rmo 4 88) ccI 93 [some (k_rr G 0), some (.int x1), some (.int x2), some (.int x3)] [] σ (b_X6_decides_93 x1 K H x2 x3 σ) := by
  unfold b_X6_decides_93
  refine ok_aload0 (dq_of td_X6_decides 53 rfl) ?_
  refine ok_get (v := k_rr G 15) fl_X6_16 (by decide) ko_0 rfl (dq_of td_X6_decides 54 rfl) ?_
  refine ok_get (v := k_rr G 16) fl_X6_186 (by decide) (isT_kd tw_15) rfl (dq_of td_X6_decides 55 rfl) ?_
  refine ok_iload3 (dq_of td_X6_decides 56 rfl) ?_
  refine ok_aload0 (dq_of td_X6_decides 57 rfl) ?_
  refine ok_get (v := k_rr G 1) fl_X6_10 (by decide) ko_0 rfl (dq_of td_X6_decides 58 rfl) ?_
  refine ok_get (v := k_rr G 2) fl_X6_186 (by decide) (isT_kd tw_1) rfl (dq_of td_X6_decides 59 rfl) ?_
  refine ok_iload3 (dq_of td_X6_decides 60 rfl) ?_
  refine ok_iald ka_2 (dq_of td_X6_decides 61 rfl) ?_
  refine ok_iast ka_16 (dq_of td_X6_decides 62 rfl) (fun σ13 => ?_)
  refine ok_jinc3 (w := 1) (dq_of td_X6_decides 63 rfl) (by decide) rfl (by decide) ?_
  refine ok_goto (tgt := 28) (dq_of td_X6_decides 64 rfl) (by decide) ?_
  refine ok_wk (wk_s (wk_s (wk_s (wk_s wk_0)))) ?_
  exact hH _ _ _
theorem od_X6_decides_28 {G : KW} {l : Launch} (x1 : Int32)  {K : Int32 → Sg → Option (Int32 × Sg)} {H : Int32 → Int32 → Sg → Option (Int32 × Sg)} (hK : ∀ (x2 : Int32) (σ : Sg), Okk G l cX6_decides 4 RX6 (some .int) (rmo 4 88) ccI 117 [none, none, some (.int x2), none] [] σ (K x2 σ)) (hH : ∀ (x2 : Int32) (x3 : Int32) (σ : Sg), Okk G l cX6_decides 4 RX6 (some .int) (rmo 4 88) ccI 28 [some (k_rr G 0), some (.int x1), some (.int x2), some (.int x3)] [] σ (H x2 x3 σ)) (x2 : Int32) (x3 : Int32)  (σ : Sg) : Okk G l cX6_decides 4 RX6 (some .int) (rmo 4 88) ccI 28 [some (k_rr G 0), some (.int x1), some (.int x2), some (.int x3)] [] σ (d_X6_decides_28 x1 K H x2 x3 σ) := by
  unfold d_X6_decides_28
  refine ok_iload3 (dq_of td_X6_decides 16 rfl) ?_
  refine ok_iconst (v := 5) (dq_of td_X6_decides 17 rfl) (by decide) ?_
  refine ok_ic_ge (tgt := 117) (dq_of td_X6_decides 18 rfl) (by decide) ?_ ?_
  · refine ok_wk (wk_n (wk_n (wk_s (wk_n wk_0)))) ?_
    exact hK _ _
  · refine ok_aload0 (dq_of td_X6_decides 19 rfl) ?_
    refine ok_get (v := k_rr G 1) fl_X6_10 (by decide) ko_0 rfl (dq_of td_X6_decides 20 rfl) ?_
    refine ok_iload3 (dq_of td_X6_decides 21 rfl) ?_
    refine call_X4_hasPerson ml_X6_70 tw_1 ⟨Nat.le_of_ble_eq_true rfl, Nat.le_of_ble_eq_true rfl⟩ ⟨Nat.zero_le _, Nat.zero_le _⟩ (Nat.le_of_ble_eq_true rfl) (dq_of td_X6_decides 22 rfl) (fun r5 σ4 => ?_)
    refine ok_if_eq (tgt := 111) (dq_of td_X6_decides 23 rfl) (by decide) ?_ ?_
    · refine ok_jinc3 (w := 1) (dq_of td_X6_decides 63 rfl) (by decide) rfl (by decide) ?_
      refine ok_goto (tgt := 28) (dq_of td_X6_decides 64 rfl) (by decide) ?_
      refine ok_wk (wk_s (wk_s (wk_s (wk_s wk_0)))) ?_
      exact hH _ _ _
    · refine ok_aload0 (dq_of td_X6_decides 24 rfl) ?_
      refine ok_get (v := k_rr G 1) fl_X6_10 (by decide) ko_0 rfl (dq_of td_X6_decides 25 rfl) ?_
      refine ok_iload1 (dq_of td_X6_decides 26 rfl) ?_
      refine ok_iload3 (dq_of td_X6_decides 27 rfl) ?_
      refine call_X4_wornByOther ml_X6_183 tw_1 ⟨Nat.le_of_ble_eq_true rfl, Nat.le_of_ble_eq_true rfl⟩ ⟨Nat.zero_le _, Nat.zero_le _⟩ (Nat.le_of_ble_eq_true rfl) (dq_of td_X6_decides 28 rfl) (fun r7 σ6 => ?_)
      refine ok_if_ne (tgt := 111) (dq_of td_X6_decides 29 rfl) (by decide) ?_ ?_
      · refine ok_jinc3 (w := 1) (dq_of td_X6_decides 63 rfl) (by decide) rfl (by decide) ?_
        refine ok_goto (tgt := 28) (dq_of td_X6_decides 64 rfl) (by decide) ?_
        refine ok_wk (wk_s (wk_s (wk_s (wk_s wk_0)))) ?_
        exact hH _ _ _
      · refine ok_aload0 (dq_of td_X6_decides 30 rfl) ?_
        refine ok_get (v := k_rr G 15) fl_X6_16 (by decide) ko_0 rfl (dq_of td_X6_decides 31 rfl) ?_
        refine ok_get (v := k_rr G 16) fl_X6_186 (by decide) (isT_kd tw_15) rfl (dq_of td_X6_decides 32 rfl) ?_
        refine ok_iload3 (dq_of td_X6_decides 33 rfl) ?_
        refine ok_iload1 (dq_of td_X6_decides 34 rfl) ?_
        refine ok_iast ka_16 (dq_of td_X6_decides 35 rfl) (fun σ8 => ?_)
        refine ok_aload0 (dq_of td_X6_decides 36 rfl) ?_
        refine ok_aload0 (dq_of td_X6_decides 37 rfl) ?_
        refine ok_get (v := k_rr G 15) fl_X6_16 (by decide) ko_0 rfl (dq_of td_X6_decides 38 rfl) ?_
        refine ok_iload3 (dq_of td_X6_decides 39 rfl) ?_
        refine call_X6_seatIn ml_X6_189 tw_15 ⟨Nat.le_of_ble_eq_true rfl, Nat.le_of_ble_eq_true rfl⟩ ⟨Nat.zero_le _, Nat.zero_le _⟩ (Nat.le_of_ble_eq_true rfl) (dq_of td_X6_decides 40 rfl) (fun r10 σ9 => ?_)
        refine ok_aload0 (dq_of td_X6_decides 41 rfl) ?_
        refine ok_aload0 (dq_of td_X6_decides 42 rfl) ?_
        refine ok_get (v := k_rr G 1) fl_X6_10 (by decide) ko_0 rfl (dq_of td_X6_decides 43 rfl) ?_
        refine ok_iload3 (dq_of td_X6_decides 44 rfl) ?_
        refine call_X6_seatIn ml_X6_189 tw_1 ⟨Nat.le_of_ble_eq_true rfl, Nat.le_of_ble_eq_true rfl⟩ ⟨Nat.zero_le _, Nat.zero_le _⟩ (Nat.le_of_ble_eq_true rfl) (dq_of td_X6_decides 45 rfl) (fun r12 σ11 => ?_)
        refine ok_ic_eq (tgt := 93) (dq_of td_X6_decides 46 rfl) (by decide) ?_ ?_
        · refine ok_wk (wk_s (wk_s (wk_s (wk_s wk_0)))) ?_
          exact ob_X6_decides_93 _  hK hH _ _  _
        · refine ok_iload2 (dq_of td_X6_decides 47 rfl) ?_
          refine ok_iconst (v := 1) (dq_of td_X6_decides 48 rfl) (by decide) ?_
          refine ok_iload3 (dq_of td_X6_decides 49 rfl) ?_
          refine ok_ishl (dq_of td_X6_decides 50 rfl) ?_
          refine ok_ior (dq_of td_X6_decides 51 rfl) ?_
          refine ok_gI (fun v14 => ?_)
          refine ok_istore2 (dq_of td_X6_decides 52 rfl) rfl (by decide) ?_
          refine ok_wk (wk_s (wk_s (wk_s (wk_s wk_0)))) ?_
          exact ob_X6_decides_93 _  hK hH _ _  _
theorem ld_X6_decides_28 {G : KW} {l : Launch} (x1 : Int32)  {K : Int32 → Sg → Option (Int32 × Sg)} (hK : ∀ (x2 : Int32) (σ : Sg), Okk G l cX6_decides 4 RX6 (some .int) (rmo 4 88) ccI 117 [none, none, some (.int x2), none] [] σ (K x2 σ)) (n : Nat) (x2 : Int32) (x3 : Int32) (σ : Sg) : Okk G l cX6_decides 4 RX6 (some .int) (rmo 4 88) ccI 28 [some (k_rr G 0), some (.int x1), some (.int x2), some (.int x3)] [] σ (e_lp2 (d_X6_decides_28 x1 K) n x2 x3 σ) :=
  ok_lp2 (Lf := fun (x2 : Int32) (x3 : Int32) => [some (k_rr G 0), some (.int x1), some (.int x2), some (.int x3)]) (fun _ hH x2 x3 σ => od_X6_decides_28 _  hK hH x2 x3 σ) n x2 x3 σ
def m_X6_decides (x1 : Int32) (σ : Sg) : Option (Int32 × Sg) := e_cI (m_X4_hasCoat 1 x1 σ) (fun r2 σ1 => (if r2 = 0 then some ((-1), σ1) else e_cV (m_X4_become 15 1 σ1) (fun σ3 => e_lp2 (d_X6_decides_28 x1 (fun x2q15 σ15 => some (x2q15, σ15))) e_F 0 0 σ3)))
theorem om_X6_decides {G : KW} {l : Launch} (x1 : Int32)  (σ : Sg) : Okk G l cX6_decides 4 RX6 (some .int) (rmo 4 88) ccI 0 [some (k_rr G 0), some (.int x1), none, none] [] σ (m_X6_decides x1 σ) := by
  unfold m_X6_decides
  refine ok_aload0 (dq_of td_X6_decides 0 rfl) ?_
  refine ok_get (v := k_rr G 1) fl_X6_10 (by decide) ko_0 rfl (dq_of td_X6_decides 1 rfl) ?_
  refine ok_iload1 (dq_of td_X6_decides 2 rfl) ?_
  refine call_X4_hasCoat ml_X6_98 tw_1 ⟨Nat.le_of_ble_eq_true rfl, Nat.le_of_ble_eq_true rfl⟩ ⟨Nat.zero_le _, Nat.zero_le _⟩ (Nat.le_of_ble_eq_true rfl) (dq_of td_X6_decides 3 rfl) (fun r2 σ1 => ?_)
  refine ok_if_ne (tgt := 13) (dq_of td_X6_decides 4 rfl) (by decide) ?_ ?_
  · refine ok_iconst (v := 0) (dq_of td_X6_decides 7 rfl) (by decide) ?_
    refine ok_istore2 (dq_of td_X6_decides 8 rfl) rfl (by decide) ?_
    refine ok_aload0 (dq_of td_X6_decides 9 rfl) ?_
    refine ok_get (v := k_rr G 15) fl_X6_16 (by decide) ko_0 rfl (dq_of td_X6_decides 10 rfl) ?_
    refine ok_aload0 (dq_of td_X6_decides 11 rfl) ?_
    refine ok_get (v := k_rr G 1) fl_X6_10 (by decide) ko_0 rfl (dq_of td_X6_decides 12 rfl) ?_
    refine call_X4_become ml_X6_147 tw_15 tw_1 ⟨Nat.le_of_ble_eq_true rfl, Nat.le_of_ble_eq_true rfl⟩ ⟨Nat.zero_le _, Nat.zero_le _⟩ (Nat.le_of_ble_eq_true rfl) (dq_of td_X6_decides 13 rfl) (fun σ3 => ?_)
    refine ok_iconst (v := 0) (dq_of td_X6_decides 14 rfl) (by decide) ?_
    refine ok_istore3 (dq_of td_X6_decides 15 rfl) rfl (by decide) ?_
    refine ok_wk (wk_s (wk_s (wk_s (wk_s wk_0)))) ?_
    refine ld_X6_decides_28 _  (fun x2q15 σ15 => ?_) _ _ _ _
    refine ok_iload2 (dq_of td_X6_decides 65 rfl) ?_
    exact ok_iret (dq_of td_X6_decides 66 rfl)
  · refine ok_iconst (v := (-1)) (dq_of td_X6_decides 5 rfl) (by decide) ?_
    exact ok_iret (dq_of td_X6_decides 6 rfl)
theorem ct_X6_decides {G : KW} {l : Launch} (x1 : Int32)  (σ : Sg) : ∀ b, m_X6_decides x1 σ = some b → MetF G l yX6_decides cX6_decides 4 (some .int) 4 88 [k_rr G 0, .int x1] (k_wl G σ) (ccI b).1 (k_wl G (ccI b).2) :=
  met_of (by decide) (Nat.le_of_ble_eq_true rfl) rfl (om_X6_decides _  σ)
theorem call_X6_decides {G : KW} {l : Launch} {cc : ByteArray} {nL : Nat} {own : String} {rt : Option FieldType} {R : Room} {α : Type} {X : State → Array Value → Method → Prop} {Z : α → List Frame → Array Value → State → State → Prop} {k0 n0 pc index : Nat} {L : List (Option Value)} {S : List Value} {σ : Sg} {F : Int32 → Sg → Option α} {x1 : Int32} (lk : MLk own index yX6_decides)  (hR : R.frames ≥ 4 + 1 ∧ R.locals ≥ 8 + (4 + 11) + 88) (hcs : k0 ≤ R.cells ∧ n0 ≤ R.slots) (hro : (S.map fun v => v.category).sum ≤ 8) (d : decode cc pc = .ok (.invokevirtual index, 3)) (kk : ∀ (r : Int32) (σ' : Sg), Okg G l cc nL own rt R X Z k0 n0 (pc + 3) L (.int r :: S) σ' (F r σ')) : Okg G l cc nL own rt R X Z k0 n0 pc L (.int x1 :: k_rr G 0 :: S) σ (e_cI (m_X6_decides x1 σ) F) :=
  ok_cV (cb := ccI) (As := [.int x1]) (ct_X6_decides _  σ) mo_X6_decides hi_X6_decides lk rfl (ci := 6) rfl rfl (by decide) ko_0 hR rfl hcs hro d (fun b => kk b.1 b.2)
