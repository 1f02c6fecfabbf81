/-! CoatDinner.within(II)Z -/
def m_X6_within (x0 : Int32) (x1 : Int32) (σ : Sg) : Option (Int32 × Sg) := (if x0 < 0 then e_rz 0 σ else (if x1 < x0 then e_rz 0 σ else e_rz 1 σ))
theorem om_X6_within {G : KW} {l : Launch} (x0 : Int32) (x1 : Int32)  (σ : Sg) : Okk G l cX6_within 2 RX6 (some .boolean) (rmo 0 0) ccI 0 [some (.int x0), some (.int x1)] [] σ (m_X6_within x0 x1 σ) := by
  unfold m_X6_within
  refine ok_iload0 (dq_of td_X6_within 0 rfl) ?_
  refine ok_if_lt (tgt := 13) (dq_of td_X6_within 1 rfl) (by decide) ?_ ?_
  · refine ok_iconst (v := 0) (dq_of td_X6_within 7 rfl) (by decide) ?_
    exact ok_zret (dq_of td_X6_within 8 rfl)
  · refine ok_iload0 (dq_of td_X6_within 2 rfl) ?_
    refine ok_iload1 (dq_of td_X6_within 3 rfl) ?_
    refine ok_ic_gt (tgt := 13) (dq_of td_X6_within 4 rfl) (by decide) ?_ ?_
    · refine ok_iconst (v := 0) (dq_of td_X6_within 7 rfl) (by decide) ?_
      exact ok_zret (dq_of td_X6_within 8 rfl)
    · refine ok_iconst (v := 1) (dq_of td_X6_within 5 rfl) (by decide) ?_
      refine ok_goto (tgt := 14) (dq_of td_X6_within 6 rfl) (by decide) ?_
      exact ok_zret (dq_of td_X6_within 8 rfl)
theorem ct_X6_within {G : KW} {l : Launch} (x0 : Int32) (x1 : Int32)  (σ : Sg) : ∀ b, m_X6_within x0 x1 σ = some b → MetF G l yX6_within cX6_within 2 (some .boolean) 0 0 [.int x0, .int x1] (k_wl G σ) (ccI b).1 (k_wl G (ccI b).2) :=
  met_of (by decide) (Nat.le_of_ble_eq_true rfl) rfl (om_X6_within _ _  σ)
theorem call_X6_within {G : KW} {l : Launch} {cc : ByteArray} {nL : Nat} {own : String} {rt : Option FieldType} {R : Room} {α : Type} {X : State → Array Value → Method → Prop} {Z : α → List Frame → Array Value → State → State → Prop} {k0 n0 pc index : Nat} {L : List (Option Value)} {S : List Value} {σ : Sg} {F : Int32 → Sg → Option α} {x0 : Int32} {x1 : Int32} (lk : MLk own index yX6_within)  (hR : R.frames ≥ 0 + 1 ∧ R.locals ≥ 8 + (2 + 11) + 0) (hcs : k0 ≤ R.cells ∧ n0 ≤ R.slots) (hro : (S.map fun v => v.category).sum ≤ 8) (d : decode cc pc = .ok (.invokestatic index, 3)) (kk : ∀ (r : Int32) (σ' : Sg), Okg G l cc nL own rt R X Z k0 n0 (pc + 3) L (.int r :: S) σ' (F r σ')) : Okg G l cc nL own rt R X Z k0 n0 pc L (.int x1 :: .int x0 :: S) σ (e_cI (m_X6_within x0 x1 σ) F) :=
  ok_cS (cb := ccI) (ct_X6_within _ _  σ) mo_X6_within hi_X6_within lk rfl hR rfl hcs hro d (fun b => kk b.1 b.2)
/-! CoatDinner$Pad.signAt(I)I -/
def m_X1_signAt (x1 : Int32) (σ : Sg) : Option (Int32 × Sg) := e_cI (m_X6_within x1 59 σ) (fun r2 σ1 => (if r2 = 0 then some (0, σ1) else (if (σ1 58 1) ≤ x1 then some (0, σ1) else e_gd (k_in x1 60) (some (σ1 59 (Int32.toNatClampNeg x1), σ1)))))
theorem om_X1_signAt {G : KW} {l : Launch} (x1 : Int32)  (σ : Sg) : Okk G l cX1_signAt 2 RX1 (some .int) (rmo 1 21) ccI 0 [some (k_rr G 58), some (.int x1)] [] σ (m_X1_signAt x1 σ) := by
  unfold m_X1_signAt
  refine ok_iload1 (dq_of td_X1_signAt 0 rfl) ?_
  refine ok_bipush (v := 59) (dq_of td_X1_signAt 1 rfl) (by decide) ?_
  refine call_X6_within ml_X1_19  ⟨Nat.le_of_ble_eq_true rfl, Nat.le_of_ble_eq_true rfl⟩ ⟨Nat.zero_le _, Nat.zero_le _⟩ (Nat.le_of_ble_eq_true rfl) (dq_of td_X1_signAt 2 rfl) (fun r2 σ1 => ?_)
  refine ok_if_eq (tgt := 26) (dq_of td_X1_signAt 3 rfl) (by decide) ?_ ?_
  · refine ok_iconst (v := 0) (dq_of td_X1_signAt 13 rfl) (by decide) ?_
    exact ok_iret (dq_of td_X1_signAt 14 rfl)
  · refine ok_iload1 (dq_of td_X1_signAt 4 rfl) ?_
    refine ok_aload0 (dq_of td_X1_signAt 5 rfl) ?_
    refine ok_get (v := .int (σ1 58 1)) fl_X1_15 (by decide) ko_58 rfl (dq_of td_X1_signAt 6 rfl) ?_
    refine ok_ic_ge (tgt := 26) (dq_of td_X1_signAt 7 rfl) (by decide) ?_ ?_
    · refine ok_iconst (v := 0) (dq_of td_X1_signAt 13 rfl) (by decide) ?_
      exact ok_iret (dq_of td_X1_signAt 14 rfl)
    · refine ok_aload0 (dq_of td_X1_signAt 8 rfl) ?_
      refine ok_get (v := k_rr G 59) fl_X1_9 (by decide) ko_58 rfl (dq_of td_X1_signAt 9 rfl) ?_
      refine ok_iload1 (dq_of td_X1_signAt 10 rfl) ?_
      refine ok_iald ka_59 (dq_of td_X1_signAt 11 rfl) ?_
      refine ok_goto (tgt := 27) (dq_of td_X1_signAt 12 rfl) (by decide) ?_
      exact ok_iret (dq_of td_X1_signAt 14 rfl)
theorem ct_X1_signAt {G : KW} {l : Launch} (x1 : Int32)  (σ : Sg) : ∀ b, m_X1_signAt x1 σ = some b → MetF G l yX1_signAt cX1_signAt 2 (some .int) 1 21 [k_rr G 58, .int x1] (k_wl G σ) (ccI b).1 (k_wl G (ccI b).2) :=
  met_of (by decide) (Nat.le_of_ble_eq_true rfl) rfl (om_X1_signAt _  σ)
theorem call_X1_signAt {G : KW} {l : Launch} {cc : ByteArray} {nL : Nat} {own : String} {rt : Option FieldType} {R : Room} {α : Type} {X : State → Array Value → Method → Prop} {Z : α → List Frame → Array Value → State → State → Prop} {k0 n0 pc index : Nat} {L : List (Option Value)} {S : List Value} {σ : Sg} {F : Int32 → Sg → Option α} {x1 : Int32} (lk : MLk own index yX1_signAt)  (hR : R.frames ≥ 1 + 1 ∧ R.locals ≥ 8 + (2 + 11) + 21) (hcs : k0 ≤ R.cells ∧ n0 ≤ R.slots) (hro : (S.map fun v => v.category).sum ≤ 8) (d : decode cc pc = .ok (.invokevirtual index, 3)) (kk : ∀ (r : Int32) (σ' : Sg), Okg G l cc nL own rt R X Z k0 n0 (pc + 3) L (.int r :: S) σ' (F r σ')) : Okg G l cc nL own rt R X Z k0 n0 pc L (.int x1 :: k_rr G 58 :: S) σ (e_cI (m_X1_signAt x1 σ) F) :=
  ok_cV (cb := ccI) (As := [.int x1]) (ct_X1_signAt _  σ) mo_X1_signAt hi_X1_signAt lk rfl (ci := 1) rfl rfl (by decide) ko_58 hR rfl hcs hro d (fun b => kk b.1 b.2)
/-! CoatDinner$Pad.isPersonSign(I)Z -/
def m_X1_isPersonSign (x0 : Int32) (σ : Sg) : Option (Int32 × Sg) := (if x0 < 65 then e_rz 0 σ else (if 69 < x0 then e_rz 0 σ else e_rz 1 σ))
theorem om_X1_isPersonSign {G : KW} {l : Launch} (x0 : Int32)  (σ : Sg) : Okk G l cX1_isPersonSign 1 RX1 (some .boolean) (rmo 0 0) ccI 0 [some (.int x0)] [] σ (m_X1_isPersonSign x0 σ) := by
  unfold m_X1_isPersonSign
  refine ok_iload0 (dq_of td_X1_isPersonSign 0 rfl) ?_
  refine ok_bipush (v := 65) (dq_of td_X1_isPersonSign 1 rfl) (by decide) ?_
  refine ok_ic_lt (tgt := 16) (dq_of td_X1_isPersonSign 2 rfl) (by decide) ?_ ?_
  · refine ok_iconst (v := 0) (dq_of td_X1_isPersonSign 8 rfl) (by decide) ?_
    exact ok_zret (dq_of td_X1_isPersonSign 9 rfl)
  · refine ok_iload0 (dq_of td_X1_isPersonSign 3 rfl) ?_
    refine ok_bipush (v := 69) (dq_of td_X1_isPersonSign 4 rfl) (by decide) ?_
    refine ok_ic_gt (tgt := 16) (dq_of td_X1_isPersonSign 5 rfl) (by decide) ?_ ?_
    · refine ok_iconst (v := 0) (dq_of td_X1_isPersonSign 8 rfl) (by decide) ?_
      exact ok_zret (dq_of td_X1_isPersonSign 9 rfl)
    · refine ok_iconst (v := 1) (dq_of td_X1_isPersonSign 6 rfl) (by decide) ?_
      refine ok_goto (tgt := 17) (dq_of td_X1_isPersonSign 7 rfl) (by decide) ?_
      exact ok_zret (dq_of td_X1_isPersonSign 9 rfl)
theorem ct_X1_isPersonSign {G : KW} {l : Launch} (x0 : Int32)  (σ : Sg) : ∀ b, m_X1_isPersonSign x0 σ = some b → MetF G l yX1_isPersonSign cX1_isPersonSign 1 (some .boolean) 0 0 [.int x0] (k_wl G σ) (ccI b).1 (k_wl G (ccI b).2) :=
  met_of (by decide) (Nat.le_of_ble_eq_true rfl) rfl (om_X1_isPersonSign _  σ)
theorem call_X1_isPersonSign {G : KW} {l : Launch} {cc : ByteArray} {nL : Nat} {own : String} {rt : Option FieldType} {R : Room} {α : Type} {X : State → Array Value → Method → Prop} {Z : α → List Frame → Array Value → State → State → Prop} {k0 n0 pc index : Nat} {L : List (Option Value)} {S : List Value} {σ : Sg} {F : Int32 → Sg → Option α} {x0 : Int32} (lk : MLk own index yX1_isPersonSign)  (hR : R.frames ≥ 0 + 1 ∧ R.locals ≥ 8 + (1 + 11) + 0) (hcs : k0 ≤ R.cells ∧ n0 ≤ R.slots) (hro : (S.map fun v => v.category).sum ≤ 8) (d : decode cc pc = .ok (.invokestatic index, 3)) (kk : ∀ (r : Int32) (σ' : Sg), Okg G l cc nL own rt R X Z k0 n0 (pc + 3) L (.int r :: S) σ' (F r σ')) : Okg G l cc nL own rt R X Z k0 n0 pc L (.int x0 :: S) σ (e_cI (m_X1_isPersonSign x0 σ) F) :=
  ok_cS (cb := ccI) (ct_X1_isPersonSign _  σ) mo_X1_isPersonSign hi_X1_isPersonSign lk rfl hR rfl hcs hro d (fun b => kk b.1 b.2)
/-! CoatDinner$Pad.isCoatSign(I)Z -/
def m_X1_isCoatSign (x0 : Int32) (σ : Sg) : Option (Int32 × Sg) := (if x0 < 97 then e_rz 0 σ else (if 101 < x0 then e_rz 0 σ else e_rz 1 σ))
theorem om_X1_isCoatSign {G : KW} {l : Launch} (x0 : Int32)  (σ : Sg) : Okk G l cX1_isCoatSign 1 RX1 (some .boolean) (rmo 0 0) ccI 0 [some (.int x0)] [] σ (m_X1_isCoatSign x0 σ) := by
  unfold m_X1_isCoatSign
  refine ok_iload0 (dq_of td_X1_isCoatSign 0 rfl) ?_
  refine ok_bipush (v := 97) (dq_of td_X1_isCoatSign 1 rfl) (by decide) ?_
  refine ok_ic_lt (tgt := 16) (dq_of td_X1_isCoatSign 2 rfl) (by decide) ?_ ?_
  · refine ok_iconst (v := 0) (dq_of td_X1_isCoatSign 8 rfl) (by decide) ?_
    exact ok_zret (dq_of td_X1_isCoatSign 9 rfl)
  · refine ok_iload0 (dq_of td_X1_isCoatSign 3 rfl) ?_
    refine ok_bipush (v := 101) (dq_of td_X1_isCoatSign 4 rfl) (by decide) ?_
    refine ok_ic_gt (tgt := 16) (dq_of td_X1_isCoatSign 5 rfl) (by decide) ?_ ?_
    · refine ok_iconst (v := 0) (dq_of td_X1_isCoatSign 8 rfl) (by decide) ?_
      exact ok_zret (dq_of td_X1_isCoatSign 9 rfl)
    · refine ok_iconst (v := 1) (dq_of td_X1_isCoatSign 6 rfl) (by decide) ?_
      refine ok_goto (tgt := 17) (dq_of td_X1_isCoatSign 7 rfl) (by decide) ?_
      exact ok_zret (dq_of td_X1_isCoatSign 9 rfl)
theorem ct_X1_isCoatSign {G : KW} {l : Launch} (x0 : Int32)  (σ : Sg) : ∀ b, m_X1_isCoatSign x0 σ = some b → MetF G l yX1_isCoatSign cX1_isCoatSign 1 (some .boolean) 0 0 [.int x0] (k_wl G σ) (ccI b).1 (k_wl G (ccI b).2) :=
  met_of (by decide) (Nat.le_of_ble_eq_true rfl) rfl (om_X1_isCoatSign _  σ)
theorem call_X1_isCoatSign {G : KW} {l : Launch} {cc : ByteArray} {nL : Nat} {own : String} {rt : Option FieldType} {R : Room} {α : Type} {X : State → Array Value → Method → Prop} {Z : α → List Frame → Array Value → State → State → Prop} {k0 n0 pc index : Nat} {L : List (Option Value)} {S : List Value} {σ : Sg} {F : Int32 → Sg → Option α} {x0 : Int32} (lk : MLk own index yX1_isCoatSign)  (hR : R.frames ≥ 0 + 1 ∧ R.locals ≥ 8 + (1 + 11) + 0) (hcs : k0 ≤ R.cells ∧ n0 ≤ R.slots) (hro : (S.map fun v => v.category).sum ≤ 8) (d : decode cc pc = .ok (.invokestatic index, 3)) (kk : ∀ (r : Int32) (σ' : Sg), Okg G l cc nL own rt R X Z k0 n0 (pc + 3) L (.int r :: S) σ' (F r σ')) : Okg G l cc nL own rt R X Z k0 n0 pc L (.int x0 :: S) σ (e_cI (m_X1_isCoatSign x0 σ) F) :=
  ok_cS (cb := ccI) (ct_X1_isCoatSign _  σ) mo_X1_isCoatSign hi_X1_isCoatSign lk rfl hR rfl hcs hro d (fun b => kk b.1 b.2)
/-! CoatDinner$Pad.eventLength(I)I -/
def m_X1_eventLength (x1 : Int32) (σ : Sg) : Option (Int32 × Sg) := e_cI (m_X1_signAt x1 σ) (fun r2 σ1 => (if r2 = 46 then some (1, σ1) else (if r2 = 42 then some (1, σ1) else e_cI (m_X1_isPersonSign r2 σ1) (fun r4 σ3 => (if r4 = 0 then some (0, σ3) else e_cI (m_X1_signAt (x1 + 1) σ3) (fun r6 σ5 => (if r6 = 45 then some (2, σ5) else e_cI (m_X1_isCoatSign r6 σ5) (fun r8 σ7 => (if r8 = 0 then e_cI (m_X1_isPersonSign r6 σ7) (fun r10 σ9 => (if r10 = 0 then some ((-1), σ9) else e_cI (m_X1_signAt (x1 + 2) σ9) (fun r12 σ11 => e_cI (m_X1_isCoatSign r12 σ11) (fun r14 σ13 => (if r14 = 0 then some ((-2), σ13) else some (3, σ13)))))) else some (2, σ7))))))))))
theorem om_X1_eventLength {G : KW} {l : Launch} (x1 : Int32)  (σ : Sg) : Okk G l cX1_eventLength 4 RX1 (some .int) (rmo 2 42) ccI 0 [some (k_rr G 58), some (.int x1), none, none] [] σ (m_X1_eventLength x1 σ) := by
  unfold m_X1_eventLength
  refine ok_aload0 (dq_of td_X1_eventLength 0 rfl) ?_
  refine ok_iload1 (dq_of td_X1_eventLength 1 rfl) ?_
  refine call_X1_signAt ml_X1_27  ⟨Nat.le_of_ble_eq_true rfl, Nat.le_of_ble_eq_true rfl⟩ ⟨Nat.zero_le _, Nat.zero_le _⟩ (Nat.le_of_ble_eq_true rfl) (dq_of td_X1_eventLength 2 rfl) (fun r2 σ1 => ?_)
  refine ok_istore2 (dq_of td_X1_eventLength 3 rfl) rfl (by decide) ?_
  refine ok_iload2 (dq_of td_X1_eventLength 4 rfl) ?_
  refine ok_bipush (v := 46) (dq_of td_X1_eventLength 5 rfl) (by decide) ?_
  refine ok_ic_eq (tgt := 18) (dq_of td_X1_eventLength 6 rfl) (by decide) ?_ ?_
  · refine ok_iconst (v := 1) (dq_of td_X1_eventLength 10 rfl) (by decide) ?_
    exact ok_iret (dq_of td_X1_eventLength 11 rfl)
  · refine ok_iload2 (dq_of td_X1_eventLength 7 rfl) ?_
    refine ok_bipush (v := 42) (dq_of td_X1_eventLength 8 rfl) (by decide) ?_
    refine ok_ic_ne (tgt := 20) (dq_of td_X1_eventLength 9 rfl) (by decide) ?_ ?_
    · refine ok_iload2 (dq_of td_X1_eventLength 12 rfl) ?_
      refine call_X1_isPersonSign ml_X1_30  ⟨Nat.le_of_ble_eq_true rfl, Nat.le_of_ble_eq_true rfl⟩ ⟨Nat.zero_le _, Nat.zero_le _⟩ (Nat.le_of_ble_eq_true rfl) (dq_of td_X1_eventLength 13 rfl) (fun r4 σ3 => ?_)
      refine ok_if_ne (tgt := 29) (dq_of td_X1_eventLength 14 rfl) (by decide) ?_ ?_
      · refine ok_aload0 (dq_of td_X1_eventLength 17 rfl) ?_
        refine ok_iload1 (dq_of td_X1_eventLength 18 rfl) ?_
        refine ok_iconst (v := 1) (dq_of td_X1_eventLength 19 rfl) (by decide) ?_
        refine ok_iadd (dq_of td_X1_eventLength 20 rfl) ?_
        refine call_X1_signAt ml_X1_27  ⟨Nat.le_of_ble_eq_true rfl, Nat.le_of_ble_eq_true rfl⟩ ⟨Nat.zero_le _, Nat.zero_le _⟩ (Nat.le_of_ble_eq_true rfl) (dq_of td_X1_eventLength 21 rfl) (fun r6 σ5 => ?_)
        refine ok_istore3 (dq_of td_X1_eventLength 22 rfl) rfl (by decide) ?_
        refine ok_iload3 (dq_of td_X1_eventLength 23 rfl) ?_
        refine ok_bipush (v := 45) (dq_of td_X1_eventLength 24 rfl) (by decide) ?_
        refine ok_ic_eq (tgt := 50) (dq_of td_X1_eventLength 25 rfl) (by decide) ?_ ?_
        · refine ok_iconst (v := 2) (dq_of td_X1_eventLength 29 rfl) (by decide) ?_
          exact ok_iret (dq_of td_X1_eventLength 30 rfl)
        · refine ok_iload3 (dq_of td_X1_eventLength 26 rfl) ?_
          refine call_X1_isCoatSign ml_X1_34  ⟨Nat.le_of_ble_eq_true rfl, Nat.le_of_ble_eq_true rfl⟩ ⟨Nat.zero_le _, Nat.zero_le _⟩ (Nat.le_of_ble_eq_true rfl) (dq_of td_X1_eventLength 27 rfl) (fun r8 σ7 => ?_)
          refine ok_if_eq (tgt := 52) (dq_of td_X1_eventLength 28 rfl) (by decide) ?_ ?_
          · refine ok_iload3 (dq_of td_X1_eventLength 31 rfl) ?_
            refine call_X1_isPersonSign ml_X1_30  ⟨Nat.le_of_ble_eq_true rfl, Nat.le_of_ble_eq_true rfl⟩ ⟨Nat.zero_le _, Nat.zero_le _⟩ (Nat.le_of_ble_eq_true rfl) (dq_of td_X1_eventLength 32 rfl) (fun r10 σ9 => ?_)
            refine ok_if_ne (tgt := 61) (dq_of td_X1_eventLength 33 rfl) (by decide) ?_ ?_
            · refine ok_aload0 (dq_of td_X1_eventLength 36 rfl) ?_
              refine ok_iload1 (dq_of td_X1_eventLength 37 rfl) ?_
              refine ok_iconst (v := 2) (dq_of td_X1_eventLength 38 rfl) (by decide) ?_
              refine ok_iadd (dq_of td_X1_eventLength 39 rfl) ?_
              refine call_X1_signAt ml_X1_27  ⟨Nat.le_of_ble_eq_true rfl, Nat.le_of_ble_eq_true rfl⟩ ⟨Nat.zero_le _, Nat.zero_le _⟩ (Nat.le_of_ble_eq_true rfl) (dq_of td_X1_eventLength 40 rfl) (fun r12 σ11 => ?_)
              refine call_X1_isCoatSign ml_X1_34  ⟨Nat.le_of_ble_eq_true rfl, Nat.le_of_ble_eq_true rfl⟩ ⟨Nat.zero_le _, Nat.zero_le _⟩ (Nat.le_of_ble_eq_true rfl) (dq_of td_X1_eventLength 41 rfl) (fun r14 σ13 => ?_)
              refine ok_if_eq (tgt := 78) (dq_of td_X1_eventLength 42 rfl) (by decide) ?_ ?_
              · refine ok_bipush (v := (-2)) (dq_of td_X1_eventLength 45 rfl) (by decide) ?_
                exact ok_iret (dq_of td_X1_eventLength 46 rfl)
              · refine ok_iconst (v := 3) (dq_of td_X1_eventLength 43 rfl) (by decide) ?_
                refine ok_goto (tgt := 80) (dq_of td_X1_eventLength 44 rfl) (by decide) ?_
                exact ok_iret (dq_of td_X1_eventLength 46 rfl)
            · refine ok_iconst (v := (-1)) (dq_of td_X1_eventLength 34 rfl) (by decide) ?_
              exact ok_iret (dq_of td_X1_eventLength 35 rfl)
          · refine ok_iconst (v := 2) (dq_of td_X1_eventLength 29 rfl) (by decide) ?_
            exact ok_iret (dq_of td_X1_eventLength 30 rfl)
      · refine ok_iconst (v := 0) (dq_of td_X1_eventLength 15 rfl) (by decide) ?_
        exact ok_iret (dq_of td_X1_eventLength 16 rfl)
    · refine ok_iconst (v := 1) (dq_of td_X1_eventLength 10 rfl) (by decide) ?_
      exact ok_iret (dq_of td_X1_eventLength 11 rfl)
theorem ct_X1_eventLength {G : KW} {l : Launch} (x1 : Int32)  (σ : Sg) : ∀ b, m_X1_eventLength x1 σ = some b → MetF G l yX1_eventLength cX1_eventLength 4 (some .int) 2 42 [k_rr G 58, .int x1] (k_wl G σ) (ccI b).1 (k_wl G (ccI b).2) :=
  met_of (by decide) (Nat.le_of_ble_eq_true rfl) rfl (om_X1_eventLength _  σ)
theorem call_X1_eventLength {G : KW} {l : Launch} {cc : ByteArray} {nL : Nat} {own : String} {rt : Option FieldType} {R : Room} {α : Type} {X : State → Array Value → Method → Prop} {Z : α → List Frame → Array Value → State → State → Prop} {k0 n0 pc index : Nat} {L : List (Option Value)} {S : List Value} {σ : Sg} {F : Int32 → Sg → Option α} {x1 : Int32} (lk : MLk own index yX1_eventLength)  (hR : R.frames ≥ 2 + 1 ∧ R.locals ≥ 8 + (4 + 11) + 42) (hcs : k0 ≤ R.cells ∧ n0 ≤ R.slots) (hro : (S.map fun v => v.category).sum ≤ 8) (d : decode cc pc = .ok (.invokevirtual index, 3)) (kk : ∀ (r : Int32) (σ' : Sg), Okg G l cc nL own rt R X Z k0 n0 (pc + 3) L (.int r :: S) σ' (F r σ')) : Okg G l cc nL own rt R X Z k0 n0 pc L (.int x1 :: k_rr G 58 :: S) σ (e_cI (m_X1_eventLength x1 σ) F) :=
  ok_cV (cb := ccI) (As := [.int x1]) (ct_X1_eventLength _  σ) mo_X1_eventLength hi_X1_eventLength lk rfl (ci := 1) rfl rfl (by decide) ko_58 hR rfl hcs hro d (fun b => kk b.1 b.2)
/-! CoatDinner$Town.worthOf(I)I -/
def m_X4_worthOf (x0 : Nat) (x1 : Int32) (σ : Sg) : Option (Int32 × Sg) := (if x1 < 0 then some (0, σ) else (if x1 < 5 then e_gd (k_in x1 5) (e_cI (m_J9_min_7cf53 (σ (x0 + 7) (Int32.toNatClampNeg x1)) (σ x0 2) σ) (fun r2 σ1 => e_gd (k_in x1 5) ((if (σ1 (x0 + 11) (Int32.toNatClampNeg x1)) = 1 then some (r2 / 2, σ1) else some (r2, σ1))))) else some (0, σ)))
theorem om_X4_worthOf {G : KW} {l : Launch} (x0 : Nat) (x1 : Int32) (hx0 : k_tw x0) (σ : Sg) : Okk G l cX4_worthOf 3 RX4 (some .int) (rmo 1 21) ccI 0 [some (k_rr G x0), some (.int x1), none] [] σ (m_X4_worthOf x0 x1 σ) := by
  unfold m_X4_worthOf
  refine ok_iload1 (dq_of td_X4_worthOf 0 rfl) ?_
  refine ok_if_lt (tgt := 9) (dq_of td_X4_worthOf 1 rfl) (by decide) ?_ ?_
  · refine ok_iconst (v := 0) (dq_of td_X4_worthOf 5 rfl) (by decide) ?_
    exact ok_iret (dq_of td_X4_worthOf 6 rfl)
  · refine ok_iload1 (dq_of td_X4_worthOf 2 rfl) ?_
    refine ok_iconst (v := 5) (dq_of td_X4_worthOf 3 rfl) (by decide) ?_
    refine ok_ic_lt (tgt := 11) (dq_of td_X4_worthOf 4 rfl) (by decide) ?_ ?_
    · refine ok_aload0 (dq_of td_X4_worthOf 7 rfl) ?_
      refine ok_get (v := k_rr G (x0 + 7)) fl_X4_34 (by decide) (isT_kd hx0) rfl (dq_of td_X4_worthOf 8 rfl) ?_
      refine ok_iload1 (dq_of td_X4_worthOf 9 rfl) ?_
      refine ok_iald (isT_a7 hx0) (dq_of td_X4_worthOf 10 rfl) ?_
      refine ok_aload0 (dq_of td_X4_worthOf 11 rfl) ?_
      refine ok_get (v := .int (σ x0 2)) fl_X4_9 (by decide) (isT_kd hx0) rfl (dq_of td_X4_worthOf 12 rfl) ?_
      refine call_J9_min_7cf53 mp_X4_86  ⟨Nat.le_of_ble_eq_true rfl, Nat.le_of_ble_eq_true rfl⟩ ⟨Nat.zero_le _, Nat.zero_le _⟩ (Nat.le_of_ble_eq_true rfl) (dq_of td_X4_worthOf 13 rfl) (fun r2 σ1 => ?_)
      refine ok_istore2 (dq_of td_X4_worthOf 14 rfl) rfl (by decide) ?_
      refine ok_aload0 (dq_of td_X4_worthOf 15 rfl) ?_
      refine ok_get (v := k_rr G (x0 + 11)) fl_X4_46 (by decide) (isT_kd hx0) rfl (dq_of td_X4_worthOf 16 rfl) ?_
      refine ok_iload1 (dq_of td_X4_worthOf 17 rfl) ?_
      refine ok_iald (isT_a11 hx0) (dq_of td_X4_worthOf 18 rfl) ?_
      refine ok_iconst (v := 1) (dq_of td_X4_worthOf 19 rfl) (by decide) ?_
      refine ok_ic_ne (tgt := 41) (dq_of td_X4_worthOf 20 rfl) (by decide) ?_ ?_
      · refine ok_iload2 (dq_of td_X4_worthOf 25 rfl) ?_
        exact ok_iret (dq_of td_X4_worthOf 26 rfl)
      · refine ok_iload2 (dq_of td_X4_worthOf 21 rfl) ?_
        refine ok_iconst (v := 2) (dq_of td_X4_worthOf 22 rfl) (by decide) ?_
        refine ok_idiv (dq_of td_X4_worthOf 23 rfl) (by decide) ?_
        refine ok_goto (tgt := 42) (dq_of td_X4_worthOf 24 rfl) (by decide) ?_
        exact ok_iret (dq_of td_X4_worthOf 26 rfl)
    · refine ok_iconst (v := 0) (dq_of td_X4_worthOf 5 rfl) (by decide) ?_
      exact ok_iret (dq_of td_X4_worthOf 6 rfl)
theorem ct_X4_worthOf {G : KW} {l : Launch} (x0 : Nat) (x1 : Int32) (hx0 : k_tw x0) (σ : Sg) : ∀ b, m_X4_worthOf x0 x1 σ = some b → MetF G l yX4_worthOf cX4_worthOf 3 (some .int) 1 21 [k_rr G x0, .int x1] (k_wl G σ) (ccI b).1 (k_wl G (ccI b).2) :=
  met_of (by decide) (Nat.le_of_ble_eq_true rfl) rfl (om_X4_worthOf _ _ hx0 σ)
theorem call_X4_worthOf {G : KW} {l : Launch} {cc : ByteArray} {nL : Nat} {own : String} {rt : Option FieldType} {R : Room} {α : Type} {X : State → Array Value → Method → Prop} {Z : α → List Frame → Array Value → State → State → Prop} {k0 n0 pc index : Nat} {L : List (Option Value)} {S : List Value} {σ : Sg} {F : Int32 → Sg → Option α} {x0 : Nat} {x1 : Int32} (lk : MLk own index yX4_worthOf) (hx0 : k_tw x0) (hR : R.frames ≥ 1 + 1 ∧ R.locals ≥ 8 + (3 + 11) + 21) (hcs : k0 ≤ R.cells ∧ n0 ≤ R.slots) (hro : (S.map fun v => v.category).sum ≤ 8) (d : decode cc pc = .ok (.invokevirtual index, 3)) (kk : ∀ (r : Int32) (σ' : Sg), Okg G l cc nL own rt R X Z k0 n0 (pc + 3) L (.int r :: S) σ' (F r σ')) : Okg G l cc nL own rt R X Z k0 n0 pc L (.int x1 :: k_rr G x0 :: S) σ (e_cI (m_X4_worthOf x0 x1 σ) F) :=
  ok_cV (cb := ccI) (As := [.int x1]) (ct_X4_worthOf _ _ hx0 σ) mo_X4_worthOf hi_X4_worthOf lk rfl (ci := 4) rfl rfl (by decide) (isT_kd hx0) hR rfl hcs hro d (fun b => kk b.1 b.2)
/-! CoatDinner$Town.hasPerson(I)Z -/
def m_X4_hasPerson (x0 : Nat) (x1 : Int32) (σ : Sg) : Option (Int32 × Sg) := (if x1 < 0 then e_rz 0 σ else (if 5 ≤ x1 then e_rz 0 σ else (if ((jsr (σ x0 0) x1) &&& 1) = 1 then e_rz 1 σ else e_rz 0 σ)))
theorem om_X4_hasPerson {G : KW} {l : Launch} (x0 : Nat) (x1 : Int32) (hx0 : k_tw x0) (σ : Sg) : Okk G l cX4_hasPerson 2 RX4 (some .boolean) (rmo 0 0) ccI 0 [some (k_rr G x0), some (.int x1)] [] σ (m_X4_hasPerson x0 x1 σ) := by
  unfold m_X4_hasPerson
  refine ok_iload1 (dq_of td_X4_hasPerson 0 rfl) ?_
  refine ok_if_lt (tgt := 25) (dq_of td_X4_hasPerson 1 rfl) (by decide) ?_ ?_
  · refine ok_iconst (v := 0) (dq_of td_X4_hasPerson 15 rfl) (by decide) ?_
    exact ok_zret (dq_of td_X4_hasPerson 16 rfl)
  · refine ok_iload1 (dq_of td_X4_hasPerson 2 rfl) ?_
    refine ok_iconst (v := 5) (dq_of td_X4_hasPerson 3 rfl) (by decide) ?_
    refine ok_ic_ge (tgt := 25) (dq_of td_X4_hasPerson 4 rfl) (by decide) ?_ ?_
    · refine ok_iconst (v := 0) (dq_of td_X4_hasPerson 15 rfl) (by decide) ?_
      exact ok_zret (dq_of td_X4_hasPerson 16 rfl)
    · refine ok_aload0 (dq_of td_X4_hasPerson 5 rfl) ?_
      refine ok_get (v := .int (σ x0 0)) fl_X4_55 (by decide) (isT_kd hx0) rfl (dq_of td_X4_hasPerson 6 rfl) ?_
      refine ok_iload1 (dq_of td_X4_hasPerson 7 rfl) ?_
      refine ok_ishr (dq_of td_X4_hasPerson 8 rfl) ?_
      refine ok_iconst (v := 1) (dq_of td_X4_hasPerson 9 rfl) (by decide) ?_
      refine ok_iand (dq_of td_X4_hasPerson 10 rfl) ?_
      refine ok_iconst (v := 1) (dq_of td_X4_hasPerson 11 rfl) (by decide) ?_
      refine ok_ic_ne (tgt := 25) (dq_of td_X4_hasPerson 12 rfl) (by decide) ?_ ?_
      · refine ok_iconst (v := 0) (dq_of td_X4_hasPerson 15 rfl) (by decide) ?_
        exact ok_zret (dq_of td_X4_hasPerson 16 rfl)
      · refine ok_iconst (v := 1) (dq_of td_X4_hasPerson 13 rfl) (by decide) ?_
        refine ok_goto (tgt := 26) (dq_of td_X4_hasPerson 14 rfl) (by decide) ?_
        exact ok_zret (dq_of td_X4_hasPerson 16 rfl)
theorem ct_X4_hasPerson {G : KW} {l : Launch} (x0 : Nat) (x1 : Int32) (hx0 : k_tw x0) (σ : Sg) : ∀ b, m_X4_hasPerson x0 x1 σ = some b → MetF G l yX4_hasPerson cX4_hasPerson 2 (some .boolean) 0 0 [k_rr G x0, .int x1] (k_wl G σ) (ccI b).1 (k_wl G (ccI b).2) :=
  met_of (by decide) (Nat.le_of_ble_eq_true rfl) rfl (om_X4_hasPerson _ _ hx0 σ)
theorem call_X4_hasPerson {G : KW} {l : Launch} {cc : ByteArray} {nL : Nat} {own : String} {rt : Option FieldType} {R : Room} {α : Type} {X : State → Array Value → Method → Prop} {Z : α → List Frame → Array Value → State → State → Prop} {k0 n0 pc index : Nat} {L : List (Option Value)} {S : List Value} {σ : Sg} {F : Int32 → Sg → Option α} {x0 : Nat} {x1 : Int32} (lk : MLk own index yX4_hasPerson) (hx0 : k_tw x0) (hR : R.frames ≥ 0 + 1 ∧ R.locals ≥ 8 + (2 + 11) + 0) (hcs : k0 ≤ R.cells ∧ n0 ≤ R.slots) (hro : (S.map fun v => v.category).sum ≤ 8) (d : decode cc pc = .ok (.invokevirtual index, 3)) (kk : ∀ (r : Int32) (σ' : Sg), Okg G l cc nL own rt R X Z k0 n0 (pc + 3) L (.int r :: S) σ' (F r σ')) : Okg G l cc nL own rt R X Z k0 n0 pc L (.int x1 :: k_rr G x0 :: S) σ (e_cI (m_X4_hasPerson x0 x1 σ) F) :=
  ok_cV (cb := ccI) (As := [.int x1]) (ct_X4_hasPerson _ _ hx0 σ) mo_X4_hasPerson hi_X4_hasPerson lk rfl (ci := 4) rfl rfl (by decide) (isT_kd hx0) hR rfl hcs hro d (fun b => kk b.1 b.2)
/-! CoatDinner$Table.priceOf(I)I -/
def m_X3_priceOf (x1 : Int32) (σ : Sg) : Option (Int32 × Sg) := (if x1 < 0 then some (0, σ) else (if 5 ≤ x1 then some (0, σ) else e_gd (k_in x1 5) (some (σ 61 (Int32.toNatClampNeg x1), σ))))
theorem om_X3_priceOf {G : KW} {l : Launch} (x1 : Int32)  (σ : Sg) : Okk G l cX3_priceOf 2 RX3 (some .int) (rmo 0 0) ccI 0 [some (k_rr G 60), some (.int x1)] [] σ (m_X3_priceOf x1 σ) := by
  unfold m_X3_priceOf
  refine ok_iload1 (dq_of td_X3_priceOf 0 rfl) ?_
  refine ok_if_lt (tgt := 18) (dq_of td_X3_priceOf 1 rfl) (by decide) ?_ ?_
  · refine ok_iconst (v := 0) (dq_of td_X3_priceOf 10 rfl) (by decide) ?_
    exact ok_iret (dq_of td_X3_priceOf 11 rfl)
  · refine ok_iload1 (dq_of td_X3_priceOf 2 rfl) ?_
    refine ok_iconst (v := 5) (dq_of td_X3_priceOf 3 rfl) (by decide) ?_
    refine ok_ic_ge (tgt := 18) (dq_of td_X3_priceOf 4 rfl) (by decide) ?_ ?_
    · refine ok_iconst (v := 0) (dq_of td_X3_priceOf 10 rfl) (by decide) ?_
      exact ok_iret (dq_of td_X3_priceOf 11 rfl)
    · refine ok_aload0 (dq_of td_X3_priceOf 5 rfl) ?_
      refine ok_get (v := k_rr G 61) fl_X3_9 (by decide) ko_60 rfl (dq_of td_X3_priceOf 6 rfl) ?_
      refine ok_iload1 (dq_of td_X3_priceOf 7 rfl) ?_
      refine ok_iald ka_61 (dq_of td_X3_priceOf 8 rfl) ?_
      refine ok_goto (tgt := 19) (dq_of td_X3_priceOf 9 rfl) (by decide) ?_
      exact ok_iret (dq_of td_X3_priceOf 11 rfl)
theorem ct_X3_priceOf {G : KW} {l : Launch} (x1 : Int32)  (σ : Sg) : ∀ b, m_X3_priceOf x1 σ = some b → MetF G l yX3_priceOf cX3_priceOf 2 (some .int) 0 0 [k_rr G 60, .int x1] (k_wl G σ) (ccI b).1 (k_wl G (ccI b).2) :=
  met_of (by decide) (Nat.le_of_ble_eq_true rfl) rfl (om_X3_priceOf _  σ)
theorem call_X3_priceOf {G : KW} {l : Launch} {cc : ByteArray} {nL : Nat} {own : String} {rt : Option FieldType} {R : Room} {α : Type} {X : State → Array Value → Method → Prop} {Z : α → List Frame → Array Value → State → State → Prop} {k0 n0 pc index : Nat} {L : List (Option Value)} {S : List Value} {σ : Sg} {F : Int32 → Sg → Option α} {x1 : Int32} (lk : MLk own index yX3_priceOf)  (hR : R.frames ≥ 0 + 1 ∧ R.locals ≥ 8 + (2 + 11) + 0) (hcs : k0 ≤ R.cells ∧ n0 ≤ R.slots) (hro : (S.map fun v => v.category).sum ≤ 8) (d : decode cc pc = .ok (.invokevirtual index, 3)) (kk : ∀ (r : Int32) (σ' : Sg), Okg G l cc nL own rt R X Z k0 n0 (pc + 3) L (.int r :: S) σ' (F r σ')) : Okg G l cc nL own rt R X Z k0 n0 pc L (.int x1 :: k_rr G 60 :: S) σ (e_cI (m_X3_priceOf x1 σ) F) :=
  ok_cV (cb := ccI) (As := [.int x1]) (ct_X3_priceOf _  σ) mo_X3_priceOf hi_X3_priceOf lk rfl (ci := 3) rfl rfl (by decide) ko_60 hR rfl hcs hro d (fun b => kk b.1 b.2)
/-! CoatDinner$Table.sit(LCoatDinner$Town;)V -/
def b_X3_sit_52 (x1 : Nat) (K : Sg → Option (Sg)) (H : Int32 → Sg → Option (Sg)) (x2 : Int32) (s0 : Int32) (s1 : Int32) (s2 : Nat) (σ : Sg) : Option (Sg) := e_gd (k_ar s2) (e_wr σ s2 s1 (k_ln s2) s0 (fun σ5 => H (x2 + 1) σ5))
def b_X3_sit_28 (x1 : Nat) (K : Sg → Option (Sg)) (H : Int32 → Sg → Option (Sg)) (x2 : Int32) (x3 : Int32) (s0 : Int32) (s1 : Int32) (s2 : Nat) (σ : Sg) : Option (Sg) := e_gd (k_ar s2) (e_wr σ s2 s1 (k_ln s2) s0 (fun σ3 => (if x3 = 0 then b_X3_sit_52 x1 K H x2 0 x2 62 σ3 else e_gd (k_in x2 5) (e_cI (m_X3_priceOf (σ3 (x1 + 1) (Int32.toNatClampNeg x2)) σ3) (fun r8 σ7 => b_X3_sit_52 x1 K H x2 r8 x2 62 σ7)))))
def d_X3_sit_2 (x1 : Nat) (K : Sg → Option (Sg)) (H : Int32 → Sg → Option (Sg)) (x2 : Int32) (σ : Sg) : Option (Sg) := (if 5 ≤ x2 then K σ else e_cI (m_X4_hasPerson x1 x2 σ) (fun r2 σ1 => (if r2 = 0 then b_X3_sit_28 x1 K H x2 r2 ((-6)) x2 63 σ1 else b_X3_sit_28 x1 K H x2 r2 0 x2 63 σ1)))
def b_X3_sit_121 (x1 : Nat) (K : Int32 → Sg → Option (Sg)) (H : Int32 → Int32 → Sg → Option (Sg)) (x2 : Int32) (x3 : Int32) (s0 : Int32) (s1 : Nat) (σ : Sg) : Option (Sg) := e_gd (k_ar s1) (e_gd (k_in s0 (k_ln s1)) (e_gd (k_ar s1) (e_wr σ s1 s0 (k_ln s1) ((σ s1 (Int32.toNatClampNeg s0)) + 1) (fun σ12 => H x2 (x3 + 1) σ12))))
def d_X3_sit_70 (x1 : Nat) (K : Int32 → Sg → Option (Sg)) (H : Int32 → Int32 → Sg → Option (Sg)) (x2 : Int32) (x3 : Int32) (σ : Sg) : Option (Sg) := (if 5 ≤ x3 then K x2 σ else e_gd (k_in x2 5) ((if (σ 63 (Int32.toNatClampNeg x2)) = ((-6)) then H x2 (x3 + 1) σ else e_gd (k_in x3 5) ((if (σ 63 (Int32.toNatClampNeg x3)) = ((-6)) then H x2 (x3 + 1) σ else e_gd (k_in x3 5) (e_gd (k_in x2 5) ((if (σ 62 (Int32.toNatClampNeg x3)) ≤ (σ 62 (Int32.toNatClampNeg x2)) then b_X3_sit_121 x1 K H x2 x3 x3 63 σ else b_X3_sit_121 x1 K H x2 x3 x2 63 σ))))))))
def d_X3_sit_61 (x1 : Nat) (K : Sg → Option (Sg)) (H : Int32 → Sg → Option (Sg)) (x2 : Int32) (σ : Sg) : Option (Sg) := (if 5 ≤ x2 then K σ else e_lt (x2 + 1) (fun v10 => e_lp2 (d_X3_sit_70 x1 (fun x2q14 σ14 => H (x2q14 + 1) σ14)) e_F x2 v10 σ))
theorem ob_X3_sit_52 {G : KW} {l : Launch} (x1 : Nat) (hx1 : k_tw x1) {K : Sg → Option (Sg)} {H : Int32 → Sg → Option (Sg)} (hK : ∀  (σ : Sg), Okk G l cX3_sit 4 RX3 none (rmo 1 21) ccV 59 [some (k_rr G 60), none, none, none] [] σ (K  σ)) (hH : ∀ (x2 : Int32) (σ : Sg), Okk G l cX3_sit 4 RX3 none (rmo 1 21) ccV 2 [some (k_rr G 60), some (k_rr G x1), some (.int x2), none] [] σ (H x2 σ)) (x2 : Int32) (s0 : Int32) (s1 : Int32) (s2 : Nat)  (σ : Sg) : Okk G l cX3_sit 4 RX3 none (rmo 1 21) ccV 52 [some (k_rr G 60), some (k_rr G x1), some (.int x2), none] [.int s0, .int s1, k_rr G s2] σ (b_X3_sit_52 x1 K H x2 s0 s1 s2 σ) := by
  unfold b_X3_sit_52
  refine ok_gd (fun hg6 => ?_)
  refine ok_iast (k_ar_of hg6) (dq_of td_X3_sit 31 rfl) (fun σ5 => ?_)
  refine ok_jinc2 (w := 1) (dq_of td_X3_sit 32 rfl) (by decide) rfl (by decide) ?_
  refine ok_goto (tgt := 2) (dq_of td_X3_sit 33 rfl) (by decide) ?_
  refine ok_wk (wk_s (wk_s (wk_s (wk_n wk_0)))) ?_
  exact hH _ _
theorem ob_X3_sit_28 {G : KW} {l : Launch} (x1 : Nat) (hx1 : k_tw x1) {K : Sg → Option (Sg)} {H : Int32 → Sg → Option (Sg)} (hK : ∀  (σ : Sg), Okk G l cX3_sit 4 RX3 none (rmo 1 21) ccV 59 [some (k_rr G 60), none, none, none] [] σ (K  σ)) (hH : ∀ (x2 : Int32) (σ : Sg), Okk G l cX3_sit 4 RX3 none (rmo 1 21) ccV 2 [some (k_rr G 60), some (k_rr G x1), some (.int x2), none] [] σ (H x2 σ)) (x2 : Int32) (x3 : Int32) (s0 : Int32) (s1 : Int32) (s2 : Nat)  (σ : Sg) : Okk G l cX3_sit 4 RX3 none (rmo 1 21) ccV 28 [some (k_rr G 60), some (k_rr G x1), some (.int x2), some (.int x3)] [.int s0, .int s1, k_rr G s2] σ (b_X3_sit_28 x1 K H x2 x3 s0 s1 s2 σ) := by
  unfold b_X3_sit_28
  refine ok_gd (fun hg4 => ?_)
  refine ok_iast (k_ar_of hg4) (dq_of td_X3_sit 17 rfl) (fun σ3 => ?_)
  refine ok_aload0 (dq_of td_X3_sit 18 rfl) ?_
  refine ok_get (v := k_rr G 62) fl_X3_15 (by decide) ko_60 rfl (dq_of td_X3_sit 19 rfl) ?_
  refine ok_iload2 (dq_of td_X3_sit 20 rfl) ?_
  refine ok_iload3 (dq_of td_X3_sit 21 rfl) ?_
  refine ok_if_eq (tgt := 51) (dq_of td_X3_sit 22 rfl) (by decide) ?_ ?_
  · refine ok_iconst (v := 0) (dq_of td_X3_sit 30 rfl) (by decide) ?_
    refine ok_wk (wk_s (wk_s (wk_s (wk_n wk_0)))) ?_
    exact ob_X3_sit_52 _ hx1 hK hH _ _ _ _  _
  · refine ok_aload0 (dq_of td_X3_sit 23 rfl) ?_
    refine ok_aload1 (dq_of td_X3_sit 24 rfl) ?_
    refine ok_get (v := k_rr G (x1 + 1)) fl_X3_35 (by decide) (isT_kd hx1) rfl (dq_of td_X3_sit 25 rfl) ?_
    refine ok_iload2 (dq_of td_X3_sit 26 rfl) ?_
    refine ok_iald (isT_a1 hx1) (dq_of td_X3_sit 27 rfl) ?_
    refine call_X3_priceOf ml_X3_38  ⟨Nat.le_of_ble_eq_true rfl, Nat.le_of_ble_eq_true rfl⟩ ⟨Nat.zero_le _, Nat.zero_le _⟩ (Nat.le_of_ble_eq_true rfl) (dq_of td_X3_sit 28 rfl) (fun r8 σ7 => ?_)
    refine ok_goto (tgt := 52) (dq_of td_X3_sit 29 rfl) (by decide) ?_
    refine ok_wk (wk_s (wk_s (wk_s (wk_n wk_0)))) ?_
    exact ob_X3_sit_52 _ hx1 hK hH _ _ _ _  _
theorem od_X3_sit_2 {G : KW} {l : Launch} (x1 : Nat) (hx1 : k_tw x1) {K : Sg → Option (Sg)} {H : Int32 → Sg → Option (Sg)} (hK : ∀  (σ : Sg), Okk G l cX3_sit 4 RX3 none (rmo 1 21) ccV 59 [some (k_rr G 60), none, none, none] [] σ (K  σ)) (hH : ∀ (x2 : Int32) (σ : Sg), Okk G l cX3_sit 4 RX3 none (rmo 1 21) ccV 2 [some (k_rr G 60), some (k_rr G x1), some (.int x2), none] [] σ (H x2 σ)) (x2 : Int32)  (σ : Sg) : Okk G l cX3_sit 4 RX3 none (rmo 1 21) ccV 2 [some (k_rr G 60), some (k_rr G x1), some (.int x2), none] [] σ (d_X3_sit_2 x1 K H x2 σ) := by
  unfold d_X3_sit_2
  refine ok_iload2 (dq_of td_X3_sit 2 rfl) ?_
  refine ok_iconst (v := 5) (dq_of td_X3_sit 3 rfl) (by decide) ?_
  refine ok_ic_ge (tgt := 59) (dq_of td_X3_sit 4 rfl) (by decide) ?_ ?_
  · refine ok_wk (wk_s (wk_n (wk_n (wk_n wk_0)))) ?_
    exact hK _
  · refine ok_aload1 (dq_of td_X3_sit 5 rfl) ?_
    refine ok_iload2 (dq_of td_X3_sit 6 rfl) ?_
    refine call_X4_hasPerson ml_X3_31 hx1 ⟨Nat.le_of_ble_eq_true rfl, Nat.le_of_ble_eq_true rfl⟩ ⟨Nat.zero_le _, Nat.zero_le _⟩ (Nat.le_of_ble_eq_true rfl) (dq_of td_X3_sit 7 rfl) (fun r2 σ1 => ?_)
    refine ok_istore3 (dq_of td_X3_sit 8 rfl) rfl (by decide) ?_
    refine ok_aload0 (dq_of td_X3_sit 9 rfl) ?_
    refine ok_get (v := k_rr G 63) fl_X3_18 (by decide) ko_60 rfl (dq_of td_X3_sit 10 rfl) ?_
    refine ok_iload2 (dq_of td_X3_sit 11 rfl) ?_
    refine ok_iload3 (dq_of td_X3_sit 12 rfl) ?_
    refine ok_if_eq (tgt := 26) (dq_of td_X3_sit 13 rfl) (by decide) ?_ ?_
    · refine ok_bipush (v := (-6)) (dq_of td_X3_sit 16 rfl) (by decide) ?_
      refine ok_wk (wk_s (wk_s (wk_s (wk_s wk_0)))) ?_
      exact ob_X3_sit_28 _ hx1 hK hH _ _ _ _ _  _
    · refine ok_iconst (v := 0) (dq_of td_X3_sit 14 rfl) (by decide) ?_
      refine ok_goto (tgt := 28) (dq_of td_X3_sit 15 rfl) (by decide) ?_
      refine ok_wk (wk_s (wk_s (wk_s (wk_s wk_0)))) ?_
      exact ob_X3_sit_28 _ hx1 hK hH _ _ _ _ _  _
theorem ld_X3_sit_2 {G : KW} {l : Launch} (x1 : Nat) (hx1 : k_tw x1) {K : Sg → Option (Sg)} (hK : ∀  (σ : Sg), Okk G l cX3_sit 4 RX3 none (rmo 1 21) ccV 59 [some (k_rr G 60), none, none, none] [] σ (K  σ)) (n : Nat) (x2 : Int32) (σ : Sg) : Okk G l cX3_sit 4 RX3 none (rmo 1 21) ccV 2 [some (k_rr G 60), some (k_rr G x1), some (.int x2), none] [] σ (e_lp1 (d_X3_sit_2 x1 K) n x2 σ) :=
  ok_lp1 (Lf := fun (x2 : Int32) => [some (k_rr G 60), some (k_rr G x1), some (.int x2), none]) (fun _ hH x2 σ => od_X3_sit_2 _ hx1 hK hH x2 σ) n x2 σ
theorem ob_X3_sit_121 {G : KW} {l : Launch} (x1 : Nat) (hx1 : k_tw x1) {K : Int32 → Sg → Option (Sg)} {H : Int32 → Int32 → Sg → Option (Sg)} (hK : ∀ (x2 : Int32) (σ : Sg), Okk G l cX3_sit 4 RX3 none (rmo 1 21) ccV 132 [some (k_rr G 60), none, some (.int x2), none] [] σ (K x2 σ)) (hH : ∀ (x2 : Int32) (x3 : Int32) (σ : Sg), Okk G l cX3_sit 4 RX3 none (rmo 1 21) ccV 70 [some (k_rr G 60), none, some (.int x2), some (.int x3)] [] σ (H x2 x3 σ)) (x2 : Int32) (x3 : Int32) (s0 : Int32) (s1 : Nat)  (σ : Sg) : Okk G l cX3_sit 4 RX3 none (rmo 1 21) ccV 121 [some (k_rr G 60), none, some (.int x2), some (.int x3)] [.int s0, k_rr G s1] σ (b_X3_sit_121 x1 K H x2 x3 s0 s1 σ) := by
  unfold b_X3_sit_121
  refine ok_dup2 (dq_of td_X3_sit 72 rfl) rfl rfl ?_
  refine ok_gd (fun hg11 => ?_)
  refine ok_iald (k_ar_of hg11) (dq_of td_X3_sit 73 rfl) ?_
  refine ok_iconst (v := 1) (dq_of td_X3_sit 74 rfl) (by decide) ?_
  refine ok_iadd (dq_of td_X3_sit 75 rfl) ?_
  refine ok_gd (fun hg13 => ?_)
  refine ok_iast (k_ar_of hg13) (dq_of td_X3_sit 76 rfl) (fun σ12 => ?_)
  refine ok_jinc3 (w := 1) (dq_of td_X3_sit 77 rfl) (by decide) rfl (by decide) ?_
  refine ok_goto (tgt := 70) (dq_of td_X3_sit 78 rfl) (by decide) ?_
  refine ok_wk (wk_s (wk_n (wk_s (wk_s wk_0)))) ?_
  exact hH _ _ _
theorem od_X3_sit_70 {G : KW} {l : Launch} (x1 : Nat) (hx1 : k_tw x1) {K : Int32 → Sg → Option (Sg)} {H : Int32 → Int32 → Sg → Option (Sg)} (hK : ∀ (x2 : Int32) (σ : Sg), Okk G l cX3_sit 4 RX3 none (rmo 1 21) ccV 132 [some (k_rr G 60), none, some (.int x2), none] [] σ (K x2 σ)) (hH : ∀ (x2 : Int32) (x3 : Int32) (σ : Sg), Okk G l cX3_sit 4 RX3 none (rmo 1 21) ccV 70 [some (k_rr G 60), none, some (.int x2), some (.int x3)] [] σ (H x2 x3 σ)) (x2 : Int32) (x3 : Int32)  (σ : Sg) : Okk G l cX3_sit 4 RX3 none (rmo 1 21) ccV 70 [some (k_rr G 60), none, some (.int x2), some (.int x3)] [] σ (d_X3_sit_70 x1 K H x2 x3 σ) := by
  unfold d_X3_sit_70
  refine ok_iload3 (dq_of td_X3_sit 43 rfl) ?_
  refine ok_iconst (v := 5) (dq_of td_X3_sit 44 rfl) (by decide) ?_
  refine ok_ic_ge (tgt := 132) (dq_of td_X3_sit 45 rfl) (by decide) ?_ ?_
  · refine ok_wk (wk_s (wk_n (wk_s (wk_n wk_0)))) ?_
    exact hK _ _
  · refine ok_aload0 (dq_of td_X3_sit 46 rfl) ?_
    refine ok_get (v := k_rr G 63) fl_X3_18 (by decide) ko_60 rfl (dq_of td_X3_sit 47 rfl) ?_
    refine ok_iload2 (dq_of td_X3_sit 48 rfl) ?_
    refine ok_iald ka_63 (dq_of td_X3_sit 49 rfl) ?_
    refine ok_bipush (v := (-6)) (dq_of td_X3_sit 50 rfl) (by decide) ?_
    refine ok_ic_eq (tgt := 126) (dq_of td_X3_sit 51 rfl) (by decide) ?_ ?_
    · refine ok_jinc3 (w := 1) (dq_of td_X3_sit 77 rfl) (by decide) rfl (by decide) ?_
      refine ok_goto (tgt := 70) (dq_of td_X3_sit 78 rfl) (by decide) ?_
      refine ok_wk (wk_s (wk_n (wk_s (wk_s wk_0)))) ?_
      exact hH _ _ _
    · refine ok_aload0 (dq_of td_X3_sit 52 rfl) ?_
      refine ok_get (v := k_rr G 63) fl_X3_18 (by decide) ko_60 rfl (dq_of td_X3_sit 53 rfl) ?_
      refine ok_iload3 (dq_of td_X3_sit 54 rfl) ?_
      refine ok_iald ka_63 (dq_of td_X3_sit 55 rfl) ?_
      refine ok_bipush (v := (-6)) (dq_of td_X3_sit 56 rfl) (by decide) ?_
      refine ok_ic_eq (tgt := 126) (dq_of td_X3_sit 57 rfl) (by decide) ?_ ?_
      · refine ok_jinc3 (w := 1) (dq_of td_X3_sit 77 rfl) (by decide) rfl (by decide) ?_
        refine ok_goto (tgt := 70) (dq_of td_X3_sit 78 rfl) (by decide) ?_
        refine ok_wk (wk_s (wk_n (wk_s (wk_s wk_0)))) ?_
        exact hH _ _ _
      · refine ok_aload0 (dq_of td_X3_sit 58 rfl) ?_
        refine ok_get (v := k_rr G 63) fl_X3_18 (by decide) ko_60 rfl (dq_of td_X3_sit 59 rfl) ?_
        refine ok_aload0 (dq_of td_X3_sit 60 rfl) ?_
        refine ok_get (v := k_rr G 62) fl_X3_15 (by decide) ko_60 rfl (dq_of td_X3_sit 61 rfl) ?_
        refine ok_iload3 (dq_of td_X3_sit 62 rfl) ?_
        refine ok_iald ka_62 (dq_of td_X3_sit 63 rfl) ?_
        refine ok_aload0 (dq_of td_X3_sit 64 rfl) ?_
        refine ok_get (v := k_rr G 62) fl_X3_15 (by decide) ko_60 rfl (dq_of td_X3_sit 65 rfl) ?_
        refine ok_iload2 (dq_of td_X3_sit 66 rfl) ?_
        refine ok_iald ka_62 (dq_of td_X3_sit 67 rfl) ?_
        refine ok_ic_le (tgt := 120) (dq_of td_X3_sit 68 rfl) (by decide) ?_ ?_
        · refine ok_iload3 (dq_of td_X3_sit 71 rfl) ?_
          refine ok_wk (wk_s (wk_n (wk_s (wk_s wk_0)))) ?_
          exact ob_X3_sit_121 _ hx1 hK hH _ _ _ _  _
        · refine ok_iload2 (dq_of td_X3_sit 69 rfl) ?_
          refine ok_goto (tgt := 121) (dq_of td_X3_sit 70 rfl) (by decide) ?_
          refine ok_wk (wk_s (wk_n (wk_s (wk_s wk_0)))) ?_
          exact ob_X3_sit_121 _ hx1 hK hH _ _ _ _  _
theorem ld_X3_sit_70 {G : KW} {l : Launch} (x1 : Nat) (hx1 : k_tw x1) {K : Int32 → Sg → Option (Sg)} (hK : ∀ (x2 : Int32) (σ : Sg), Okk G l cX3_sit 4 RX3 none (rmo 1 21) ccV 132 [some (k_rr G 60), none, some (.int x2), none] [] σ (K x2 σ)) (n : Nat) (x2 : Int32) (x3 : Int32) (σ : Sg) : Okk G l cX3_sit 4 RX3 none (rmo 1 21) ccV 70 [some (k_rr G 60), none, some (.int x2), some (.int x3)] [] σ (e_lp2 (d_X3_sit_70 x1 K) n x2 x3 σ) :=
  ok_lp2 (Lf := fun (x2 : Int32) (x3 : Int32) => [some (k_rr G 60), none, some (.int x2), some (.int x3)]) (fun _ hH x2 x3 σ => od_X3_sit_70 _ hx1 hK hH x2 x3 σ) n x2 x3 σ
theorem od_X3_sit_61 {G : KW} {l : Launch} (x1 : Nat) (hx1 : k_tw x1) {K : Sg → Option (Sg)} {H : Int32 → Sg → Option (Sg)} (hK : ∀  (σ : Sg), Okk G l cX3_sit 4 RX3 none (rmo 1 21) ccV 138 [none, none, none, none] [] σ (K  σ)) (hH : ∀ (x2 : Int32) (σ : Sg), Okk G l cX3_sit 4 RX3 none (rmo 1 21) ccV 61 [some (k_rr G 60), none, some (.int x2), none] [] σ (H x2 σ)) (x2 : Int32)  (σ : Sg) : Okk G l cX3_sit 4 RX3 none (rmo 1 21) ccV 61 [some (k_rr G 60), none, some (.int x2), none] [] σ (d_X3_sit_61 x1 K H x2 σ) := by
  unfold d_X3_sit_61
  refine ok_iload2 (dq_of td_X3_sit 36 rfl) ?_
  refine ok_iconst (v := 5) (dq_of td_X3_sit 37 rfl) (by decide) ?_
  refine ok_ic_ge (tgt := 138) (dq_of td_X3_sit 38 rfl) (by decide) ?_ ?_
  · refine ok_wk (wk_n (wk_n (wk_n (wk_n wk_0)))) ?_
    exact hK _
  · refine ok_iload2 (dq_of td_X3_sit 39 rfl) ?_
    refine ok_iconst (v := 1) (dq_of td_X3_sit 40 rfl) (by decide) ?_
    refine ok_iadd (dq_of td_X3_sit 41 rfl) ?_
    refine ok_gI (fun v10 => ?_)
    refine ok_istore3 (dq_of td_X3_sit 42 rfl) rfl (by decide) ?_
    refine ok_wk (wk_s (wk_n (wk_s (wk_s wk_0)))) ?_
    refine ld_X3_sit_70 _ hx1 (fun x2q14 σ14 => ?_) _ _ _ _
    refine ok_jinc2 (w := 1) (dq_of td_X3_sit 79 rfl) (by decide) rfl (by decide) ?_
    refine ok_goto (tgt := 61) (dq_of td_X3_sit 80 rfl) (by decide) ?_
    refine ok_wk (wk_s (wk_n (wk_s (wk_n wk_0)))) ?_
    exact hH _ _
theorem ld_X3_sit_61 {G : KW} {l : Launch} (x1 : Nat) (hx1 : k_tw x1) {K : Sg → Option (Sg)} (hK : ∀  (σ : Sg), Okk G l cX3_sit 4 RX3 none (rmo 1 21) ccV 138 [none, none, none, none] [] σ (K  σ)) (n : Nat) (x2 : Int32) (σ : Sg) : Okk G l cX3_sit 4 RX3 none (rmo 1 21) ccV 61 [some (k_rr G 60), none, some (.int x2), none] [] σ (e_lp1 (d_X3_sit_61 x1 K) n x2 σ) :=
  ok_lp1 (Lf := fun (x2 : Int32) => [some (k_rr G 60), none, some (.int x2), none]) (fun _ hH x2 σ => od_X3_sit_61 _ hx1 hK hH x2 σ) n x2 σ
def m_X3_sit (x1 : Nat) (σ : Sg) : Option (Sg) := e_lp1 (d_X3_sit_2 x1 (fun σ9 => e_lp1 (d_X3_sit_61 x1 (fun σ15 => some σ15)) e_F 0 σ9)) e_F 0 σ
theorem om_X3_sit {G : KW} {l : Launch} (x1 : Nat) (hx1 : k_tw x1) (σ : Sg) : Okk G l cX3_sit 4 RX3 none (rmo 1 21) ccV 0 [some (k_rr G 60), some (k_rr G x1), none, none] [] σ (m_X3_sit x1 σ) := by
  unfold m_X3_sit
  refine ok_iconst (v := 0) (dq_of td_X3_sit 0 rfl) (by decide) ?_
  refine ok_istore2 (dq_of td_X3_sit 1 rfl) rfl (by decide) ?_
  refine ok_wk (wk_s (wk_s (wk_s (wk_n wk_0)))) ?_
  refine ld_X3_sit_2 _ hx1 (fun σ9 => ?_) _ _ _
  refine ok_iconst (v := 0) (dq_of td_X3_sit 34 rfl) (by decide) ?_
  refine ok_istore2 (dq_of td_X3_sit 35 rfl) rfl (by decide) ?_
  refine ok_wk (wk_s (wk_n (wk_s (wk_n wk_0)))) ?_
  refine ld_X3_sit_61 _ hx1 (fun σ15 => ?_) _ _ _
  exact ok_vret (dq_of td_X3_sit 81 rfl)
theorem ct_X3_sit {G : KW} {l : Launch} (x1 : Nat) (hx1 : k_tw x1) (σ : Sg) : ∀ b, m_X3_sit x1 σ = some b → MetF G l yX3_sit cX3_sit 4 none 1 21 [k_rr G 60, k_rr G x1] (k_wl G σ) (ccV b).1 (k_wl G (ccV b).2) :=
  met_of (by decide) (Nat.le_of_ble_eq_true rfl) rfl (om_X3_sit _ hx1 σ)
theorem call_X3_sit {G : KW} {l : Launch} {cc : ByteArray} {nL : Nat} {own : String} {rt : Option FieldType} {R : Room} {α : Type} {X : State → Array Value → Method → Prop} {Z : α → List Frame → Array Value → State → State → Prop} {k0 n0 pc index : Nat} {L : List (Option Value)} {S : List Value} {σ : Sg} {F : Sg → Option α} {x1 : Nat} (lk : MLk own index yX3_sit) (hx1 : k_tw x1) (hR : R.frames ≥ 1 + 1 ∧ R.locals ≥ 8 + (4 + 11) + 21) (hcs : k0 ≤ R.cells ∧ n0 ≤ R.slots) (hro : (S.map fun v => v.category).sum ≤ 8) (d : decode cc pc = .ok (.invokevirtual index, 3)) (kk : ∀ σ' : Sg, Okg G l cc nL own rt R X Z k0 n0 (pc + 3) L S σ' (F σ')) : Okg G l cc nL own rt R X Z k0 n0 pc L (k_rr G x1 :: k_rr G 60 :: S) σ (e_cV (m_X3_sit x1 σ) F) :=
  ok_cV (cb := ccV) (As := [k_rr G x1]) (ct_X3_sit _ hx1 σ) mo_X3_sit hi_X3_sit lk rfl (ci := 3) rfl rfl (by decide) ko_60 hR rfl hcs hro d (fun b => kk b)
/-! CoatDinner$Table.lay(LCoatDinner$Town;)V -/
def d_X3_lay_2 (x1 : Nat) (K : Sg → Option (Sg)) (H : Int32 → Sg → Option (Sg)) (x2 : Int32) (σ : Sg) : Option (Sg) := (if 5 ≤ x2 then K σ else e_cI (m_X4_worthOf x1 x2 σ) (fun r2 σ1 => e_wr σ1 61 x2 5 r2 (fun σ3 => H (x2 + 1) σ3)))
theorem od_X3_lay_2 {G : KW} {l : Launch} (x1 : Nat) (hx1 : k_tw x1) {K : Sg → Option (Sg)} {H : Int32 → Sg → Option (Sg)} (hK : ∀  (σ : Sg), Okk G l cX3_lay 3 RX3 none (rmo 2 44) ccV 24 [some (k_rr G 60), some (k_rr G x1), none] [] σ (K  σ)) (hH : ∀ (x2 : Int32) (σ : Sg), Okk G l cX3_lay 3 RX3 none (rmo 2 44) ccV 2 [some (k_rr G 60), some (k_rr G x1), some (.int x2)] [] σ (H x2 σ)) (x2 : Int32)  (σ : Sg) : Okk G l cX3_lay 3 RX3 none (rmo 2 44) ccV 2 [some (k_rr G 60), some (k_rr G x1), some (.int x2)] [] σ (d_X3_lay_2 x1 K H x2 σ) := by
  unfold d_X3_lay_2
  refine ok_iload2 (dq_of td_X3_lay 2 rfl) ?_
  refine ok_iconst (v := 5) (dq_of td_X3_lay 3 rfl) (by decide) ?_
  refine ok_ic_ge (tgt := 24) (dq_of td_X3_lay 4 rfl) (by decide) ?_ ?_
  · refine ok_wk (wk_s (wk_s (wk_n wk_0))) ?_
    exact hK _
  · refine ok_aload0 (dq_of td_X3_lay 5 rfl) ?_
    refine ok_get (v := k_rr G 61) fl_X3_9 (by decide) ko_60 rfl (dq_of td_X3_lay 6 rfl) ?_
    refine ok_iload2 (dq_of td_X3_lay 7 rfl) ?_
    refine ok_aload1 (dq_of td_X3_lay 8 rfl) ?_
    refine ok_iload2 (dq_of td_X3_lay 9 rfl) ?_
    refine call_X4_worthOf ml_X3_21 hx1 ⟨Nat.le_of_ble_eq_true rfl, Nat.le_of_ble_eq_true rfl⟩ ⟨Nat.zero_le _, Nat.zero_le _⟩ (Nat.le_of_ble_eq_true rfl) (dq_of td_X3_lay 10 rfl) (fun r2 σ1 => ?_)
    refine ok_iast ka_61 (dq_of td_X3_lay 11 rfl) (fun σ3 => ?_)
    refine ok_jinc2 (w := 1) (dq_of td_X3_lay 12 rfl) (by decide) rfl (by decide) ?_
    refine ok_goto (tgt := 2) (dq_of td_X3_lay 13 rfl) (by decide) ?_
    refine ok_wk (wk_s (wk_s (wk_s wk_0))) ?_
    exact hH _ _
theorem ld_X3_lay_2 {G : KW} {l : Launch} (x1 : Nat) (hx1 : k_tw x1) {K : Sg → Option (Sg)} (hK : ∀  (σ : Sg), Okk G l cX3_lay 3 RX3 none (rmo 2 44) ccV 24 [some (k_rr G 60), some (k_rr G x1), none] [] σ (K  σ)) (n : Nat) (x2 : Int32) (σ : Sg) : Okk G l cX3_lay 3 RX3 none (rmo 2 44) ccV 2 [some (k_rr G 60), some (k_rr G x1), some (.int x2)] [] σ (e_lp1 (d_X3_lay_2 x1 K) n x2 σ) :=
  ok_lp1 (Lf := fun (x2 : Int32) => [some (k_rr G 60), some (k_rr G x1), some (.int x2)]) (fun _ hH x2 σ => od_X3_lay_2 _ hx1 hK hH x2 σ) n x2 σ
def m_X3_lay (x1 : Nat) (σ : Sg) : Option (Sg) := e_lp1 (d_X3_lay_2 x1 (fun σ4 => e_cV (m_X3_sit x1 σ4) (fun σ5 => some σ5))) e_F 0 σ
theorem om_X3_lay {G : KW} {l : Launch} (x1 : Nat) (hx1 : k_tw x1) (σ : Sg) : Okk G l cX3_lay 3 RX3 none (rmo 2 44) ccV 0 [some (k_rr G 60), some (k_rr G x1), none] [] σ (m_X3_lay x1 σ) := by
  unfold m_X3_lay
  refine ok_iconst (v := 0) (dq_of td_X3_lay 0 rfl) (by decide) ?_
  refine ok_istore2 (dq_of td_X3_lay 1 rfl) rfl (by decide) ?_
  refine ok_wk (wk_s (wk_s (wk_s wk_0))) ?_
  refine ld_X3_lay_2 _ hx1 (fun σ4 => ?_) _ _ _
  refine ok_aload0 (dq_of td_X3_lay 14 rfl) ?_
  refine ok_aload1 (dq_of td_X3_lay 15 rfl) ?_
  refine call_X3_sit ml_X3_27 hx1 ⟨Nat.le_of_ble_eq_true rfl, Nat.le_of_ble_eq_true rfl⟩ ⟨Nat.zero_le _, Nat.zero_le _⟩ (Nat.le_of_ble_eq_true rfl) (dq_of td_X3_lay 16 rfl) (fun σ5 => ?_)
  exact ok_vret (dq_of td_X3_lay 17 rfl)
theorem ct_X3_lay {G : KW} {l : Launch} (x1 : Nat) (hx1 : k_tw x1) (σ : Sg) : ∀ b, m_X3_lay x1 σ = some b → MetF G l yX3_lay cX3_lay 3 none 2 44 [k_rr G 60, k_rr G x1] (k_wl G σ) (ccV b).1 (k_wl G (ccV b).2) :=
  met_of (by decide) (Nat.le_of_ble_eq_true rfl) rfl (om_X3_lay _ hx1 σ)
theorem call_X3_lay {G : KW} {l : Launch} {cc : ByteArray} {nL : Nat} {own : String} {rt : Option FieldType} {R : Room} {α : Type} {X : State → Array Value → Method → Prop} {Z : α → List Frame → Array Value → State → State → Prop} {k0 n0 pc index : Nat} {L : List (Option Value)} {S : List Value} {σ : Sg} {F : Sg → Option α} {x1 : Nat} (lk : MLk own index yX3_lay) (hx1 : k_tw x1) (hR : R.frames ≥ 2 + 1 ∧ R.locals ≥ 8 + (3 + 11) + 44) (hcs : k0 ≤ R.cells ∧ n0 ≤ R.slots) (hro : (S.map fun v => v.category).sum ≤ 8) (d : decode cc pc = .ok (.invokevirtual index, 3)) (kk : ∀ σ' : Sg, Okg G l cc nL own rt R X Z k0 n0 (pc + 3) L S σ' (F σ')) : Okg G l cc nL own rt R X Z k0 n0 pc L (k_rr G x1 :: k_rr G 60 :: S) σ (e_cV (m_X3_lay x1 σ) F) :=
  ok_cV (cb := ccV) (As := [k_rr G x1]) (ct_X3_lay _ hx1 σ) mo_X3_lay hi_X3_lay lk rfl (ci := 3) rfl rfl (by decide) ko_60 hR rfl hcs hro d (fun b => kk b)
/-! java/lang/Integer.bitCount(I)I -/
def m_J6_bitCount_0f7a4 (x0 : Int32) (σ : Sg) : Option (Int32 × Sg) := e_lt (x0 - ((jus x0 1) &&& 1431655765)) (fun v1 => e_lt ((v1 &&& 858993459) + ((jus v1 2) &&& 858993459)) (fun v2 => e_lt ((v2 + (jus v2 4)) &&& 252645135) (fun v3 => e_lt (v3 + (jus v3 8)) (fun v4 => e_lt (v4 + (jus v4 16)) (fun v5 => some (v5 &&& 63, σ))))))
theorem om_J6_bitCount_0f7a4 {G : KW} {l : Launch} (x0 : Int32)  (σ : Sg) : Okk G l cJ6_bitCount_0f7a4 1 RJ6 (some .int) (rmo 0 0) ccI 0 [some (.int x0)] [] σ (m_J6_bitCount_0f7a4 x0 σ) := by
  unfold m_J6_bitCount_0f7a4
  refine ok_iload0 (dq_of td_J6_bitCount_0f7a4 0 rfl) ?_
  refine ok_iload0 (dq_of td_J6_bitCount_0f7a4 1 rfl) ?_
  refine ok_iconst (v := 1) (dq_of td_J6_bitCount_0f7a4 2 rfl) (by decide) ?_
  refine ok_iushr (dq_of td_J6_bitCount_0f7a4 3 rfl) ?_
  refine ok_ldcw (v := 1431655765) (dq_of td_J6_bitCount_0f7a4 4 rfl) kc_J6_265 ?_
  refine ok_iand (dq_of td_J6_bitCount_0f7a4 5 rfl) ?_
  refine ok_isub (dq_of td_J6_bitCount_0f7a4 6 rfl) ?_
  refine ok_gI (fun v1 => ?_)
  refine ok_istore0 (dq_of td_J6_bitCount_0f7a4 7 rfl) (by decide) ?_
  refine ok_iload0 (dq_of td_J6_bitCount_0f7a4 8 rfl) ?_
  refine ok_ldcw (v := 858993459) (dq_of td_J6_bitCount_0f7a4 9 rfl) kc_J6_266 ?_
  refine ok_iand (dq_of td_J6_bitCount_0f7a4 10 rfl) ?_
  refine ok_iload0 (dq_of td_J6_bitCount_0f7a4 11 rfl) ?_
  refine ok_iconst (v := 2) (dq_of td_J6_bitCount_0f7a4 12 rfl) (by decide) ?_
  refine ok_iushr (dq_of td_J6_bitCount_0f7a4 13 rfl) ?_
  refine ok_ldcw (v := 858993459) (dq_of td_J6_bitCount_0f7a4 14 rfl) kc_J6_266 ?_
  refine ok_iand (dq_of td_J6_bitCount_0f7a4 15 rfl) ?_
  refine ok_iadd (dq_of td_J6_bitCount_0f7a4 16 rfl) ?_
  refine ok_gI (fun v2 => ?_)
  refine ok_istore0 (dq_of td_J6_bitCount_0f7a4 17 rfl) (by decide) ?_
  refine ok_iload0 (dq_of td_J6_bitCount_0f7a4 18 rfl) ?_
  refine ok_iload0 (dq_of td_J6_bitCount_0f7a4 19 rfl) ?_
  refine ok_iconst (v := 4) (dq_of td_J6_bitCount_0f7a4 20 rfl) (by decide) ?_
  refine ok_iushr (dq_of td_J6_bitCount_0f7a4 21 rfl) ?_
  refine ok_iadd (dq_of td_J6_bitCount_0f7a4 22 rfl) ?_
  refine ok_ldcw (v := 252645135) (dq_of td_J6_bitCount_0f7a4 23 rfl) kc_J6_267 ?_
  refine ok_iand (dq_of td_J6_bitCount_0f7a4 24 rfl) ?_
  refine ok_gI (fun v3 => ?_)
  refine ok_istore0 (dq_of td_J6_bitCount_0f7a4 25 rfl) (by decide) ?_
  refine ok_iload0 (dq_of td_J6_bitCount_0f7a4 26 rfl) ?_
  refine ok_iload0 (dq_of td_J6_bitCount_0f7a4 27 rfl) ?_
  refine ok_bipush (v := 8) (dq_of td_J6_bitCount_0f7a4 28 rfl) (by decide) ?_
  refine ok_iushr (dq_of td_J6_bitCount_0f7a4 29 rfl) ?_
  refine ok_iadd (dq_of td_J6_bitCount_0f7a4 30 rfl) ?_
  refine ok_gI (fun v4 => ?_)
  refine ok_istore0 (dq_of td_J6_bitCount_0f7a4 31 rfl) (by decide) ?_
  refine ok_iload0 (dq_of td_J6_bitCount_0f7a4 32 rfl) ?_
  refine ok_iload0 (dq_of td_J6_bitCount_0f7a4 33 rfl) ?_
  refine ok_bipush (v := 16) (dq_of td_J6_bitCount_0f7a4 34 rfl) (by decide) ?_
  refine ok_iushr (dq_of td_J6_bitCount_0f7a4 35 rfl) ?_
  refine ok_iadd (dq_of td_J6_bitCount_0f7a4 36 rfl) ?_
  refine ok_gI (fun v5 => ?_)
  refine ok_istore0 (dq_of td_J6_bitCount_0f7a4 37 rfl) (by decide) ?_
  refine ok_iload0 (dq_of td_J6_bitCount_0f7a4 38 rfl) ?_
  refine ok_bipush (v := 63) (dq_of td_J6_bitCount_0f7a4 39 rfl) (by decide) ?_
  refine ok_iand (dq_of td_J6_bitCount_0f7a4 40 rfl) ?_
  exact ok_iret (dq_of td_J6_bitCount_0f7a4 41 rfl)
theorem ct_J6_bitCount_0f7a4 {G : KW} {l : Launch} (x0 : Int32)  (σ : Sg) : ∀ b, m_J6_bitCount_0f7a4 x0 σ = some b → MetF G l yJ6_bitCount_0f7a4 cJ6_bitCount_0f7a4 1 (some .int) 0 0 [.int x0] (k_wl G σ) (ccI b).1 (k_wl G (ccI b).2) :=
  met_of (by decide) (Nat.le_of_ble_eq_true rfl) rfl (om_J6_bitCount_0f7a4 _  σ)
theorem call_J6_bitCount_0f7a4 {G : KW} {l : Launch} {cc : ByteArray} {nL : Nat} {own : String} {rt : Option FieldType} {R : Room} {α : Type} {X : State → Array Value → Method → Prop} {Z : α → List Frame → Array Value → State → State → Prop} {k0 n0 pc index : Nat} {L : List (Option Value)} {S : List Value} {σ : Sg} {F : Int32 → Sg → Option α} {x0 : Int32} (lk : MLk own index yJ6_bitCount_0f7a4)  (hR : R.frames ≥ 0 + 1 ∧ R.locals ≥ 8 + (1 + 11) + 0) (hcs : k0 ≤ R.cells ∧ n0 ≤ R.slots) (hro : (S.map fun v => v.category).sum ≤ 8) (d : decode cc pc = .ok (.invokestatic index, 3)) (kk : ∀ (r : Int32) (σ' : Sg), Okg G l cc nL own rt R X Z k0 n0 (pc + 3) L (.int r :: S) σ' (F r σ')) : Okg G l cc nL own rt R X Z k0 n0 pc L (.int x0 :: S) σ (e_cI (m_J6_bitCount_0f7a4 x0 σ) F) :=
  ok_cS (cb := ccI) (ct_J6_bitCount_0f7a4 _  σ) mo_J6_bitCount_0f7a4 hi_J6_bitCount_0f7a4 lk rfl hR rfl hcs hro d (fun b => kk b.1 b.2)
/-! CoatDinner$Table.seatOf(I)I -/
def m_X3_seatOf (x1 : Int32) (σ : Sg) : Option (Int32 × Sg) := (if x1 < 0 then some ((-6), σ) else (if 5 ≤ x1 then some ((-6), σ) else e_gd (k_in x1 5) (some (σ 63 (Int32.toNatClampNeg x1), σ))))
theorem om_X3_seatOf {G : KW} {l : Launch} (x1 : Int32)  (σ : Sg) : Okk G l cX3_seatOf 2 RX3 (some .int) (rmo 0 0) ccI 0 [some (k_rr G 60), some (.int x1)] [] σ (m_X3_seatOf x1 σ) := by
  unfold m_X3_seatOf
  refine ok_iload1 (dq_of td_X3_seatOf 0 rfl) ?_
  refine ok_if_lt (tgt := 18) (dq_of td_X3_seatOf 1 rfl) (by decide) ?_ ?_
  · refine ok_bipush (v := (-6)) (dq_of td_X3_seatOf 10 rfl) (by decide) ?_
    exact ok_iret (dq_of td_X3_seatOf 11 rfl)
  · refine ok_iload1 (dq_of td_X3_seatOf 2 rfl) ?_
    refine ok_iconst (v := 5) (dq_of td_X3_seatOf 3 rfl) (by decide) ?_
    refine ok_ic_ge (tgt := 18) (dq_of td_X3_seatOf 4 rfl) (by decide) ?_ ?_
    · refine ok_bipush (v := (-6)) (dq_of td_X3_seatOf 10 rfl) (by decide) ?_
      exact ok_iret (dq_of td_X3_seatOf 11 rfl)
    · refine ok_aload0 (dq_of td_X3_seatOf 5 rfl) ?_
      refine ok_get (v := k_rr G 63) fl_X3_18 (by decide) ko_60 rfl (dq_of td_X3_seatOf 6 rfl) ?_
      refine ok_iload1 (dq_of td_X3_seatOf 7 rfl) ?_
      refine ok_iald ka_63 (dq_of td_X3_seatOf 8 rfl) ?_
      refine ok_goto (tgt := 20) (dq_of td_X3_seatOf 9 rfl) (by decide) ?_
      exact ok_iret (dq_of td_X3_seatOf 11 rfl)
theorem ct_X3_seatOf {G : KW} {l : Launch} (x1 : Int32)  (σ : Sg) : ∀ b, m_X3_seatOf x1 σ = some b → MetF G l yX3_seatOf cX3_seatOf 2 (some .int) 0 0 [k_rr G 60, .int x1] (k_wl G σ) (ccI b).1 (k_wl G (ccI b).2) :=
  met_of (by decide) (Nat.le_of_ble_eq_true rfl) rfl (om_X3_seatOf _  σ)
theorem call_X3_seatOf {G : KW} {l : Launch} {cc : ByteArray} {nL : Nat} {own : String} {rt : Option FieldType} {R : Room} {α : Type} {X : State → Array Value → Method → Prop} {Z : α → List Frame → Array Value → State → State → Prop} {k0 n0 pc index : Nat} {L : List (Option Value)} {S : List Value} {σ : Sg} {F : Int32 → Sg → Option α} {x1 : Int32} (lk : MLk own index yX3_seatOf)  (hR : R.frames ≥ 0 + 1 ∧ R.locals ≥ 8 + (2 + 11) + 0) (hcs : k0 ≤ R.cells ∧ n0 ≤ R.slots) (hro : (S.map fun v => v.category).sum ≤ 8) (d : decode cc pc = .ok (.invokevirtual index, 3)) (kk : ∀ (r : Int32) (σ' : Sg), Okg G l cc nL own rt R X Z k0 n0 (pc + 3) L (.int r :: S) σ' (F r σ')) : Okg G l cc nL own rt R X Z k0 n0 pc L (.int x1 :: k_rr G 60 :: S) σ (e_cI (m_X3_seatOf x1 σ) F) :=
  ok_cV (cb := ccI) (As := [.int x1]) (ct_X3_seatOf _  σ) mo_X3_seatOf hi_X3_seatOf lk rfl (ci := 3) rfl rfl (by decide) ko_60 hR rfl hcs hro d (fun b => kk b.1 b.2)
/-! CoatDinner$Town.hasCoat(I)Z -/
def m_X4_hasCoat (x0 : Nat) (x1 : Int32) (σ : Sg) : Option (Int32 × Sg) := (if x1 < 0 then e_rz 0 σ else (if 5 ≤ x1 then e_rz 0 σ else (if ((jsr (σ x0 1) x1) &&& 1) = 1 then e_rz 1 σ else e_rz 0 σ)))
theorem om_X4_hasCoat {G : KW} {l : Launch} (x0 : Nat) (x1 : Int32) (hx0 : k_tw x0) (σ : Sg) : Okk G l cX4_hasCoat 2 RX4 (some .boolean) (rmo 0 0) ccI 0 [some (k_rr G x0), some (.int x1)] [] σ (m_X4_hasCoat x0 x1 σ) := by
  unfold m_X4_hasCoat
  refine ok_iload1 (dq_of td_X4_hasCoat 0 rfl) ?_
  refine ok_if_lt (tgt := 25) (dq_of td_X4_hasCoat 1 rfl) (by decide) ?_ ?_
  · refine ok_iconst (v := 0) (dq_of td_X4_hasCoat 15 rfl) (by decide) ?_
    exact ok_zret (dq_of td_X4_hasCoat 16 rfl)
  · refine ok_iload1 (dq_of td_X4_hasCoat 2 rfl) ?_
    refine ok_iconst (v := 5) (dq_of td_X4_hasCoat 3 rfl) (by decide) ?_
    refine ok_ic_ge (tgt := 25) (dq_of td_X4_hasCoat 4 rfl) (by decide) ?_ ?_
    · refine ok_iconst (v := 0) (dq_of td_X4_hasCoat 15 rfl) (by decide) ?_
      exact ok_zret (dq_of td_X4_hasCoat 16 rfl)
    · refine ok_aload0 (dq_of td_X4_hasCoat 5 rfl) ?_
      refine ok_get (v := .int (σ x0 1)) fl_X4_58 (by decide) (isT_kd hx0) rfl (dq_of td_X4_hasCoat 6 rfl) ?_
      refine ok_iload1 (dq_of td_X4_hasCoat 7 rfl) ?_
      refine ok_ishr (dq_of td_X4_hasCoat 8 rfl) ?_
      refine ok_iconst (v := 1) (dq_of td_X4_hasCoat 9 rfl) (by decide) ?_
      refine ok_iand (dq_of td_X4_hasCoat 10 rfl) ?_
      refine ok_iconst (v := 1) (dq_of td_X4_hasCoat 11 rfl) (by decide) ?_
      refine ok_ic_ne (tgt := 25) (dq_of td_X4_hasCoat 12 rfl) (by decide) ?_ ?_
      · refine ok_iconst (v := 0) (dq_of td_X4_hasCoat 15 rfl) (by decide) ?_
        exact ok_zret (dq_of td_X4_hasCoat 16 rfl)
      · refine ok_iconst (v := 1) (dq_of td_X4_hasCoat 13 rfl) (by decide) ?_
        refine ok_goto (tgt := 26) (dq_of td_X4_hasCoat 14 rfl) (by decide) ?_
        exact ok_zret (dq_of td_X4_hasCoat 16 rfl)
theorem ct_X4_hasCoat {G : KW} {l : Launch} (x0 : Nat) (x1 : Int32) (hx0 : k_tw x0) (σ : Sg) : ∀ b, m_X4_hasCoat x0 x1 σ = some b → MetF G l yX4_hasCoat cX4_hasCoat 2 (some .boolean) 0 0 [k_rr G x0, .int x1] (k_wl G σ) (ccI b).1 (k_wl G (ccI b).2) :=
  met_of (by decide) (Nat.le_of_ble_eq_true rfl) rfl (om_X4_hasCoat _ _ hx0 σ)
theorem call_X4_hasCoat {G : KW} {l : Launch} {cc : ByteArray} {nL : Nat} {own : String} {rt : Option FieldType} {R : Room} {α : Type} {X : State → Array Value → Method → Prop} {Z : α → List Frame → Array Value → State → State → Prop} {k0 n0 pc index : Nat} {L : List (Option Value)} {S : List Value} {σ : Sg} {F : Int32 → Sg → Option α} {x0 : Nat} {x1 : Int32} (lk : MLk own index yX4_hasCoat) (hx0 : k_tw x0) (hR : R.frames ≥ 0 + 1 ∧ R.locals ≥ 8 + (2 + 11) + 0) (hcs : k0 ≤ R.cells ∧ n0 ≤ R.slots) (hro : (S.map fun v => v.category).sum ≤ 8) (d : decode cc pc = .ok (.invokevirtual index, 3)) (kk : ∀ (r : Int32) (σ' : Sg), Okg G l cc nL own rt R X Z k0 n0 (pc + 3) L (.int r :: S) σ' (F r σ')) : Okg G l cc nL own rt R X Z k0 n0 pc L (.int x1 :: k_rr G x0 :: S) σ (e_cI (m_X4_hasCoat x0 x1 σ) F) :=
  ok_cV (cb := ccI) (As := [.int x1]) (ct_X4_hasCoat _ _ hx0 σ) mo_X4_hasCoat hi_X4_hasCoat lk rfl (ci := 4) rfl rfl (by decide) (isT_kd hx0) hR rfl hcs hro d (fun b => kk b.1 b.2)
/-! CoatDinner$Town.eat(II)V -/
def m_X4_eat (x0 : Nat) (x1 : Int32) (x2 : Int32) (σ : Sg) : Option (Sg) := e_cI (m_X4_hasPerson x0 x1 σ) (fun r2 σ1 => (if r2 = 0 then some σ1 else e_gd (k_in x1 5) (e_wr σ1 (x0 + 2) x1 5 ((σ1 (x0 + 2) (Int32.toNatClampNeg x1)) + x2) (fun σ3 => e_gd (k_in x1 5) (e_lt (σ3 (x0 + 1) (Int32.toNatClampNeg x1)) (fun v4 => e_cI (m_X4_hasCoat x0 v4 σ3) (fun r6 σ5 => (if r6 = 0 then some σ5 else e_gd (k_in v4 5) ((if (σ5 (x0 + 8) (Int32.toNatClampNeg v4)) = x1 then some σ5 else e_gd (k_in v4 5) (e_cI (m_X4_hasPerson x0 (σ5 (x0 + 8) (Int32.toNatClampNeg v4)) σ5) (fun r8 σ7 => (if r8 = 0 then some σ7 else e_gd (k_in x1 5) (e_wr σ7 (x0 + 3) x1 5 ((σ7 (x0 + 3) (Int32.toNatClampNeg x1)) + (x2 / 2)) (fun σ9 => e_gd (k_in v4 5) (e_gd (k_in (σ9 (x0 + 8) (Int32.toNatClampNeg v4)) 5) (e_wr σ9 (x0 + 4) (σ9 (x0 + 8) (Int32.toNatClampNeg v4)) 5 ((σ9 (x0 + 4) (Int32.toNatClampNeg (σ9 (x0 + 8) (Int32.toNatClampNeg v4)))) + (x2 / 2)) (fun σ10 => some σ10))))))))))))))))))
theorem om_X4_eat {G : KW} {l : Launch} (x0 : Nat) (x1 : Int32) (x2 : Int32) (hx0 : k_tw x0) (σ : Sg) : Okk G l cX4_eat 4 RX4 none (rmo 1 21) ccV 0 [some (k_rr G x0), some (.int x1), some (.int x2), none] [] σ (m_X4_eat x0 x1 x2 σ) := by
  unfold m_X4_eat
  refine ok_aload0 (dq_of td_X4_eat 0 rfl) ?_
  refine ok_iload1 (dq_of td_X4_eat 1 rfl) ?_
  refine call_X4_hasPerson ml_X4_68 hx0 ⟨Nat.le_of_ble_eq_true rfl, Nat.le_of_ble_eq_true rfl⟩ ⟨Nat.zero_le _, Nat.zero_le _⟩ (Nat.le_of_ble_eq_true rfl) (dq_of td_X4_eat 2 rfl) (fun r2 σ1 => ?_)
  refine ok_if_ne (tgt := 9) (dq_of td_X4_eat 3 rfl) (by decide) ?_ ?_
  · refine ok_aload0 (dq_of td_X4_eat 5 rfl) ?_
    refine ok_get (v := k_rr G (x0 + 2)) fl_X4_19 (by decide) (isT_kd hx0) rfl (dq_of td_X4_eat 6 rfl) ?_
    refine ok_iload1 (dq_of td_X4_eat 7 rfl) ?_
    refine ok_dup2 (dq_of td_X4_eat 8 rfl) rfl rfl ?_
    refine ok_iald (isT_a2 hx0) (dq_of td_X4_eat 9 rfl) ?_
    refine ok_iload2 (dq_of td_X4_eat 10 rfl) ?_
    refine ok_iadd (dq_of td_X4_eat 11 rfl) ?_
    refine ok_iast (isT_a2 hx0) (dq_of td_X4_eat 12 rfl) (fun σ3 => ?_)
    refine ok_aload0 (dq_of td_X4_eat 13 rfl) ?_
    refine ok_get (v := k_rr G (x0 + 1)) fl_X4_15 (by decide) (isT_kd hx0) rfl (dq_of td_X4_eat 14 rfl) ?_
    refine ok_iload1 (dq_of td_X4_eat 15 rfl) ?_
    refine ok_iald (isT_a1 hx0) (dq_of td_X4_eat 16 rfl) ?_
    refine ok_gI (fun v4 => ?_)
    refine ok_istore3 (dq_of td_X4_eat 17 rfl) rfl (by decide) ?_
    refine ok_aload0 (dq_of td_X4_eat 18 rfl) ?_
    refine ok_iload3 (dq_of td_X4_eat 19 rfl) ?_
    refine call_X4_hasCoat ml_X4_72 hx0 ⟨Nat.le_of_ble_eq_true rfl, Nat.le_of_ble_eq_true rfl⟩ ⟨Nat.zero_le _, Nat.zero_le _⟩ (Nat.le_of_ble_eq_true rfl) (dq_of td_X4_eat 20 rfl) (fun r6 σ5 => ?_)
    refine ok_if_eq (tgt := 86) (dq_of td_X4_eat 21 rfl) (by decide) ?_ ?_
    · exact ok_vret (dq_of td_X4_eat 58 rfl)
    · refine ok_aload0 (dq_of td_X4_eat 22 rfl) ?_
      refine ok_get (v := k_rr G (x0 + 8)) fl_X4_37 (by decide) (isT_kd hx0) rfl (dq_of td_X4_eat 23 rfl) ?_
      refine ok_iload3 (dq_of td_X4_eat 24 rfl) ?_
      refine ok_iald (isT_a8 hx0) (dq_of td_X4_eat 25 rfl) ?_
      refine ok_iload1 (dq_of td_X4_eat 26 rfl) ?_
      refine ok_ic_eq (tgt := 86) (dq_of td_X4_eat 27 rfl) (by decide) ?_ ?_
      · exact ok_vret (dq_of td_X4_eat 58 rfl)
      · refine ok_aload0 (dq_of td_X4_eat 28 rfl) ?_
        refine ok_aload0 (dq_of td_X4_eat 29 rfl) ?_
        refine ok_get (v := k_rr G (x0 + 8)) fl_X4_37 (by decide) (isT_kd hx0) rfl (dq_of td_X4_eat 30 rfl) ?_
        refine ok_iload3 (dq_of td_X4_eat 31 rfl) ?_
        refine ok_iald (isT_a8 hx0) (dq_of td_X4_eat 32 rfl) ?_
        refine call_X4_hasPerson ml_X4_68 hx0 ⟨Nat.le_of_ble_eq_true rfl, Nat.le_of_ble_eq_true rfl⟩ ⟨Nat.zero_le _, Nat.zero_le _⟩ (Nat.le_of_ble_eq_true rfl) (dq_of td_X4_eat 33 rfl) (fun r8 σ7 => ?_)
        refine ok_if_eq (tgt := 86) (dq_of td_X4_eat 34 rfl) (by decide) ?_ ?_
        · exact ok_vret (dq_of td_X4_eat 58 rfl)
        · refine ok_aload0 (dq_of td_X4_eat 35 rfl) ?_
          refine ok_get (v := k_rr G (x0 + 3)) fl_X4_22 (by decide) (isT_kd hx0) rfl (dq_of td_X4_eat 36 rfl) ?_
          refine ok_iload1 (dq_of td_X4_eat 37 rfl) ?_
          refine ok_dup2 (dq_of td_X4_eat 38 rfl) rfl rfl ?_
          refine ok_iald (isT_a3 hx0) (dq_of td_X4_eat 39 rfl) ?_
          refine ok_iload2 (dq_of td_X4_eat 40 rfl) ?_
          refine ok_iconst (v := 2) (dq_of td_X4_eat 41 rfl) (by decide) ?_
          refine ok_idiv (dq_of td_X4_eat 42 rfl) (by decide) ?_
          refine ok_iadd (dq_of td_X4_eat 43 rfl) ?_
          refine ok_iast (isT_a3 hx0) (dq_of td_X4_eat 44 rfl) (fun σ9 => ?_)
          refine ok_aload0 (dq_of td_X4_eat 45 rfl) ?_
          refine ok_get (v := k_rr G (x0 + 4)) fl_X4_25 (by decide) (isT_kd hx0) rfl (dq_of td_X4_eat 46 rfl) ?_
          refine ok_aload0 (dq_of td_X4_eat 47 rfl) ?_
          refine ok_get (v := k_rr G (x0 + 8)) fl_X4_37 (by decide) (isT_kd hx0) rfl (dq_of td_X4_eat 48 rfl) ?_
          refine ok_iload3 (dq_of td_X4_eat 49 rfl) ?_
          refine ok_iald (isT_a8 hx0) (dq_of td_X4_eat 50 rfl) ?_
          refine ok_dup2 (dq_of td_X4_eat 51 rfl) rfl rfl ?_
          refine ok_iald (isT_a4 hx0) (dq_of td_X4_eat 52 rfl) ?_
          refine ok_iload2 (dq_of td_X4_eat 53 rfl) ?_
          refine ok_iconst (v := 2) (dq_of td_X4_eat 54 rfl) (by decide) ?_
          refine ok_idiv (dq_of td_X4_eat 55 rfl) (by decide) ?_
          refine ok_iadd (dq_of td_X4_eat 56 rfl) ?_
          refine ok_iast (isT_a4 hx0) (dq_of td_X4_eat 57 rfl) (fun σ10 => ?_)
          exact ok_vret (dq_of td_X4_eat 58 rfl)
  · exact ok_vret (dq_of td_X4_eat 4 rfl)
theorem ct_X4_eat {G : KW} {l : Launch} (x0 : Nat) (x1 : Int32) (x2 : Int32) (hx0 : k_tw x0) (σ : Sg) : ∀ b, m_X4_eat x0 x1 x2 σ = some b → MetF G l yX4_eat cX4_eat 4 none 1 21 [k_rr G x0, .int x1, .int x2] (k_wl G σ) (ccV b).1 (k_wl G (ccV b).2) :=
  met_of (by decide) (Nat.le_of_ble_eq_true rfl) rfl (om_X4_eat _ _ _ hx0 σ)
theorem call_X4_eat {G : KW} {l : Launch} {cc : ByteArray} {nL : Nat} {own : String} {rt : Option FieldType} {R : Room} {α : Type} {X : State → Array Value → Method → Prop} {Z : α → List Frame → Array Value → State → State → Prop} {k0 n0 pc index : Nat} {L : List (Option Value)} {S : List Value} {σ : Sg} {F : Sg → Option α} {x0 : Nat} {x1 : Int32} {x2 : Int32} (lk : MLk own index yX4_eat) (hx0 : k_tw x0) (hR : R.frames ≥ 1 + 1 ∧ R.locals ≥ 8 + (4 + 11) + 21) (hcs : k0 ≤ R.cells ∧ n0 ≤ R.slots) (hro : (S.map fun v => v.category).sum ≤ 8) (d : decode cc pc = .ok (.invokevirtual index, 3)) (kk : ∀ σ' : Sg, Okg G l cc nL own rt R X Z k0 n0 (pc + 3) L S σ' (F σ')) : Okg G l cc nL own rt R X Z k0 n0 pc L (.int x2 :: .int x1 :: k_rr G x0 :: S) σ (e_cV (m_X4_eat x0 x1 x2 σ) F) :=
  ok_cV (cb := ccV) (As := [.int x1, .int x2]) (ct_X4_eat _ _ _ hx0 σ) mo_X4_eat hi_X4_eat lk rfl (ci := 4) rfl rfl (by decide) (isT_kd hx0) hR rfl hcs hro d (fun b => kk b)
/-! CoatDinner$Town.wearers(I)I -/
def d_X4_wearers_4 (x0 : Nat) (x1 : Int32) (K : Int32 → Sg → Option (Int32 × Sg)) (H : Int32 → Int32 → Sg → Option (Int32 × Sg)) (x2 : Int32) (x3 : Int32) (σ : Sg) : Option (Int32 × Sg) := (if 5 ≤ x3 then K x2 σ else e_gd (k_in x3 5) ((if (σ (x0 + 1) (Int32.toNatClampNeg x3)) = x1 then e_lt (x2 ||| (jsl 1 x3)) (fun v1 => H v1 (x3 + 1) σ) else H x2 (x3 + 1) σ)))
theorem od_X4_wearers_4 {G : KW} {l : Launch} (x0 : Nat) (x1 : Int32) (hx0 : k_tw x0) {K : Int32 → Sg → Option (Int32 × Sg)} {H : Int32 → Int32 → Sg → Option (Int32 × Sg)} (hK : ∀ (x2 : Int32) (σ : Sg), Okk G l cX4_wearers 4 RX4 (some .int) (rmo 0 0) ccI 31 [none, none, some (.int x2), none] [] σ (K x2 σ)) (hH : ∀ (x2 : Int32) (x3 : Int32) (σ : Sg), Okk G l cX4_wearers 4 RX4 (some .int) (rmo 0 0) ccI 4 [some (k_rr G x0), some (.int x1), some (.int x2), some (.int x3)] [] σ (H x2 x3 σ)) (x2 : Int32) (x3 : Int32)  (σ : Sg) : Okk G l cX4_wearers 4 RX4 (some .int) (rmo 0 0) ccI 4 [some (k_rr G x0), some (.int x1), some (.int x2), some (.int x3)] [] σ (d_X4_wearers_4 x0 x1 K H x2 x3 σ) := by
  unfold d_X4_wearers_4
  refine ok_iload3 (dq_of td_X4_wearers 4 rfl) ?_
  refine ok_iconst (v := 5) (dq_of td_X4_wearers 5 rfl) (by decide) ?_
  refine ok_ic_ge (tgt := 31) (dq_of td_X4_wearers 6 rfl) (by decide) ?_ ?_
  · refine ok_wk (wk_n (wk_n (wk_s (wk_n wk_0)))) ?_
    exact hK _ _
  · refine ok_aload0 (dq_of td_X4_wearers 7 rfl) ?_
    refine ok_get (v := k_rr G (x0 + 1)) fl_X4_15 (by decide) (isT_kd hx0) rfl (dq_of td_X4_wearers 8 rfl) ?_
    refine ok_iload3 (dq_of td_X4_wearers 9 rfl) ?_
    refine ok_iald (isT_a1 hx0) (dq_of td_X4_wearers 10 rfl) ?_
    refine ok_iload1 (dq_of td_X4_wearers 11 rfl) ?_
    refine ok_ic_ne (tgt := 25) (dq_of td_X4_wearers 12 rfl) (by decide) ?_ ?_
    · refine ok_jinc3 (w := 1) (dq_of td_X4_wearers 19 rfl) (by decide) rfl (by decide) ?_
      refine ok_goto (tgt := 4) (dq_of td_X4_wearers 20 rfl) (by decide) ?_
      refine ok_wk (wk_s (wk_s (wk_s (wk_s wk_0)))) ?_
      exact hH _ _ _
    · refine ok_iload2 (dq_of td_X4_wearers 13 rfl) ?_
      refine ok_iconst (v := 1) (dq_of td_X4_wearers 14 rfl) (by decide) ?_
      refine ok_iload3 (dq_of td_X4_wearers 15 rfl) ?_
      refine ok_ishl (dq_of td_X4_wearers 16 rfl) ?_
      refine ok_ior (dq_of td_X4_wearers 17 rfl) ?_
      refine ok_gI (fun v1 => ?_)
      refine ok_istore2 (dq_of td_X4_wearers 18 rfl) rfl (by decide) ?_
      refine ok_jinc3 (w := 1) (dq_of td_X4_wearers 19 rfl) (by decide) rfl (by decide) ?_
      refine ok_goto (tgt := 4) (dq_of td_X4_wearers 20 rfl) (by decide) ?_
      refine ok_wk (wk_s (wk_s (wk_s (wk_s wk_0)))) ?_
      exact hH _ _ _
theorem ld_X4_wearers_4 {G : KW} {l : Launch} (x0 : Nat) (x1 : Int32) (hx0 : k_tw x0) {K : Int32 → Sg → Option (Int32 × Sg)} (hK : ∀ (x2 : Int32) (σ : Sg), Okk G l cX4_wearers 4 RX4 (some .int) (rmo 0 0) ccI 31 [none, none, some (.int x2), none] [] σ (K x2 σ)) (n : Nat) (x2 : Int32) (x3 : Int32) (σ : Sg) : Okk G l cX4_wearers 4 RX4 (some .int) (rmo 0 0) ccI 4 [some (k_rr G x0), some (.int x1), some (.int x2), some (.int x3)] [] σ (e_lp2 (d_X4_wearers_4 x0 x1 K) n x2 x3 σ) :=
  ok_lp2 (Lf := fun (x2 : Int32) (x3 : Int32) => [some (k_rr G x0), some (.int x1), some (.int x2), some (.int x3)]) (fun _ hH x2 x3 σ => od_X4_wearers_4 _ _ hx0 hK hH x2 x3 σ) n x2 x3 σ
def m_X4_wearers (x0 : Nat) (x1 : Int32) (σ : Sg) : Option (Int32 × Sg) := e_lp2 (d_X4_wearers_4 x0 x1 (fun x2q2 σ2 => some (x2q2, σ2))) e_F 0 0 σ
theorem om_X4_wearers {G : KW} {l : Launch} (x0 : Nat) (x1 : Int32) (hx0 : k_tw x0) (σ : Sg) : Okk G l cX4_wearers 4 RX4 (some .int) (rmo 0 0) ccI 0 [some (k_rr G x0), some (.int x1), none, none] [] σ (m_X4_wearers x0 x1 σ) := by
  unfold m_X4_wearers
  refine ok_iconst (v := 0) (dq_of td_X4_wearers 0 rfl) (by decide) ?_
  refine ok_istore2 (dq_of td_X4_wearers 1 rfl) rfl (by decide) ?_
  refine ok_iconst (v := 0) (dq_of td_X4_wearers 2 rfl) (by decide) ?_
  refine ok_istore3 (dq_of td_X4_wearers 3 rfl) rfl (by decide) ?_
  refine ok_wk (wk_s (wk_s (wk_s (wk_s wk_0)))) ?_
  refine ld_X4_wearers_4 _ _ hx0 (fun x2q2 σ2 => ?_) _ _ _ _
  refine ok_iload2 (dq_of td_X4_wearers 21 rfl) ?_
  exact ok_iret (dq_of td_X4_wearers 22 rfl)
theorem ct_X4_wearers {G : KW} {l : Launch} (x0 : Nat) (x1 : Int32) (hx0 : k_tw x0) (σ : Sg) : ∀ b, m_X4_wearers x0 x1 σ = some b → MetF G l yX4_wearers cX4_wearers 4 (some .int) 0 0 [k_rr G x0, .int x1] (k_wl G σ) (ccI b).1 (k_wl G (ccI b).2) :=
  met_of (by decide) (Nat.le_of_ble_eq_true rfl) rfl (om_X4_wearers _ _ hx0 σ)
theorem call_X4_wearers {G : KW} {l : Launch} {cc : ByteArray} {nL : Nat} {own : String} {rt : Option FieldType} {R : Room} {α : Type} {X : State → Array Value → Method → Prop} {Z : α → List Frame → Array Value → State → State → Prop} {k0 n0 pc index : Nat} {L : List (Option Value)} {S : List Value} {σ : Sg} {F : Int32 → Sg → Option α} {x0 : Nat} {x1 : Int32} (lk : MLk own index yX4_wearers) (hx0 : k_tw x0) (hR : R.frames ≥ 0 + 1 ∧ R.locals ≥ 8 + (4 + 11) + 0) (hcs : k0 ≤ R.cells ∧ n0 ≤ R.slots) (hro : (S.map fun v => v.category).sum ≤ 8) (d : decode cc pc = .ok (.invokevirtual index, 3)) (kk : ∀ (r : Int32) (σ' : Sg), Okg G l cc nL own rt R X Z k0 n0 (pc + 3) L (.int r :: S) σ' (F r σ')) : Okg G l cc nL own rt R X Z k0 n0 pc L (.int x1 :: k_rr G x0 :: S) σ (e_cI (m_X4_wearers x0 x1 σ) F) :=
  ok_cV (cb := ccI) (As := [.int x1]) (ct_X4_wearers _ _ hx0 σ) mo_X4_wearers hi_X4_wearers lk rfl (ci := 4) rfl rfl (by decide) (isT_kd hx0) hR rfl hcs hro d (fun b => kk b.1 b.2)
/-! CoatDinner$Town.wornCoats()I -/
def d_X4_wornCoats_4 (x0 : Nat) (K : Int32 → Sg → Option (Int32 × Sg)) (H : Int32 → Int32 → Sg → Option (Int32 × Sg)) (x1 : Int32) (x2 : Int32) (σ : Sg) : Option (Int32 × Sg) := (if 5 ≤ x2 then K x1 σ else e_cI (m_X4_hasCoat x0 x2 σ) (fun r2 σ1 => (if r2 = 0 then H x1 (x2 + 1) σ1 else e_cI (m_X4_wearers x0 x2 σ1) (fun r4 σ3 => (if r4 = 0 then H x1 (x2 + 1) σ3 else e_lt (x1 ||| (jsl 1 x2)) (fun v5 => H v5 (x2 + 1) σ3))))))
theorem od_X4_wornCoats_4 {G : KW} {l : Launch} (x0 : Nat) (hx0 : k_tw x0) {K : Int32 → Sg → Option (Int32 × Sg)} {H : Int32 → Int32 → Sg → Option (Int32 × Sg)} (hK : ∀ (x1 : Int32) (σ : Sg), Okk G l cX4_wornCoats 3 RX4 (some .int) (rmo 1 23) ccI 37 [none, some (.int x1), none] [] σ (K x1 σ)) (hH : ∀ (x1 : Int32) (x2 : Int32) (σ : Sg), Okk G l cX4_wornCoats 3 RX4 (some .int) (rmo 1 23) ccI 4 [some (k_rr G x0), some (.int x1), some (.int x2)] [] σ (H x1 x2 σ)) (x1 : Int32) (x2 : Int32)  (σ : Sg) : Okk G l cX4_wornCoats 3 RX4 (some .int) (rmo 1 23) ccI 4 [some (k_rr G x0), some (.int x1), some (.int x2)] [] σ (d_X4_wornCoats_4 x0 K H x1 x2 σ) := by
  unfold d_X4_wornCoats_4
  refine ok_iload2 (dq_of td_X4_wornCoats 4 rfl) ?_
  refine ok_iconst (v := 5) (dq_of td_X4_wornCoats 5 rfl) (by decide) ?_
  refine ok_ic_ge (tgt := 37) (dq_of td_X4_wornCoats 6 rfl) (by decide) ?_ ?_
  · refine ok_wk (wk_n (wk_s (wk_n wk_0))) ?_
    exact hK _ _
  · refine ok_aload0 (dq_of td_X4_wornCoats 7 rfl) ?_
    refine ok_iload2 (dq_of td_X4_wornCoats 8 rfl) ?_
    refine call_X4_hasCoat ml_X4_72 hx0 ⟨Nat.le_of_ble_eq_true rfl, Nat.le_of_ble_eq_true rfl⟩ ⟨Nat.zero_le _, Nat.zero_le _⟩ (Nat.le_of_ble_eq_true rfl) (dq_of td_X4_wornCoats 9 rfl) (fun r2 σ1 => ?_)
    refine ok_if_eq (tgt := 31) (dq_of td_X4_wornCoats 10 rfl) (by decide) ?_ ?_
    · refine ok_jinc2 (w := 1) (dq_of td_X4_wornCoats 21 rfl) (by decide) rfl (by decide) ?_
      refine ok_goto (tgt := 4) (dq_of td_X4_wornCoats 22 rfl) (by decide) ?_
      refine ok_wk (wk_s (wk_s (wk_s wk_0))) ?_
      exact hH _ _ _
    · refine ok_aload0 (dq_of td_X4_wornCoats 11 rfl) ?_
      refine ok_iload2 (dq_of td_X4_wornCoats 12 rfl) ?_
      refine call_X4_wearers ml_X4_79 hx0 ⟨Nat.le_of_ble_eq_true rfl, Nat.le_of_ble_eq_true rfl⟩ ⟨Nat.zero_le _, Nat.zero_le _⟩ (Nat.le_of_ble_eq_true rfl) (dq_of td_X4_wornCoats 13 rfl) (fun r4 σ3 => ?_)
      refine ok_if_eq (tgt := 31) (dq_of td_X4_wornCoats 14 rfl) (by decide) ?_ ?_
      · refine ok_jinc2 (w := 1) (dq_of td_X4_wornCoats 21 rfl) (by decide) rfl (by decide) ?_
        refine ok_goto (tgt := 4) (dq_of td_X4_wornCoats 22 rfl) (by decide) ?_
        refine ok_wk (wk_s (wk_s (wk_s wk_0))) ?_
        exact hH _ _ _
      · refine ok_iload1 (dq_of td_X4_wornCoats 15 rfl) ?_
        refine ok_iconst (v := 1) (dq_of td_X4_wornCoats 16 rfl) (by decide) ?_
        refine ok_iload2 (dq_of td_X4_wornCoats 17 rfl) ?_
        refine ok_ishl (dq_of td_X4_wornCoats 18 rfl) ?_
        refine ok_ior (dq_of td_X4_wornCoats 19 rfl) ?_
        refine ok_gI (fun v5 => ?_)
        refine ok_istore1 (dq_of td_X4_wornCoats 20 rfl) rfl (by decide) ?_
        refine ok_jinc2 (w := 1) (dq_of td_X4_wornCoats 21 rfl) (by decide) rfl (by decide) ?_
        refine ok_goto (tgt := 4) (dq_of td_X4_wornCoats 22 rfl) (by decide) ?_
        refine ok_wk (wk_s (wk_s (wk_s wk_0))) ?_
        exact hH _ _ _
theorem ld_X4_wornCoats_4 {G : KW} {l : Launch} (x0 : Nat) (hx0 : k_tw x0) {K : Int32 → Sg → Option (Int32 × Sg)} (hK : ∀ (x1 : Int32) (σ : Sg), Okk G l cX4_wornCoats 3 RX4 (some .int) (rmo 1 23) ccI 37 [none, some (.int x1), none] [] σ (K x1 σ)) (n : Nat) (x1 : Int32) (x2 : Int32) (σ : Sg) : Okk G l cX4_wornCoats 3 RX4 (some .int) (rmo 1 23) ccI 4 [some (k_rr G x0), some (.int x1), some (.int x2)] [] σ (e_lp2 (d_X4_wornCoats_4 x0 K) n x1 x2 σ) :=
  ok_lp2 (Lf := fun (x1 : Int32) (x2 : Int32) => [some (k_rr G x0), some (.int x1), some (.int x2)]) (fun _ hH x1 x2 σ => od_X4_wornCoats_4 _ hx0 hK hH x1 x2 σ) n x1 x2 σ
def m_X4_wornCoats (x0 : Nat) (σ : Sg) : Option (Int32 × Sg) := e_lp2 (d_X4_wornCoats_4 x0 (fun x1q6 σ6 => some (x1q6, σ6))) e_F 0 0 σ
theorem om_X4_wornCoats {G : KW} {l : Launch} (x0 : Nat) (hx0 : k_tw x0) (σ : Sg) : Okk G l cX4_wornCoats 3 RX4 (some .int) (rmo 1 23) ccI 0 [some (k_rr G x0), none, none] [] σ (m_X4_wornCoats x0 σ) := by
  unfold m_X4_wornCoats
  refine ok_iconst (v := 0) (dq_of td_X4_wornCoats 0 rfl) (by decide) ?_
  refine ok_istore1 (dq_of td_X4_wornCoats 1 rfl) rfl (by decide) ?_
  refine ok_iconst (v := 0) (dq_of td_X4_wornCoats 2 rfl) (by decide) ?_
  refine ok_istore2 (dq_of td_X4_wornCoats 3 rfl) rfl (by decide) ?_
  refine ok_wk (wk_s (wk_s (wk_s wk_0))) ?_
  refine ld_X4_wornCoats_4 _ hx0 (fun x1q6 σ6 => ?_) _ _ _ _
  refine ok_iload1 (dq_of td_X4_wornCoats 23 rfl) ?_
  exact ok_iret (dq_of td_X4_wornCoats 24 rfl)
theorem ct_X4_wornCoats {G : KW} {l : Launch} (x0 : Nat) (hx0 : k_tw x0) (σ : Sg) : ∀ b, m_X4_wornCoats x0 σ = some b → MetF G l yX4_wornCoats cX4_wornCoats 3 (some .int) 1 23 [k_rr G x0] (k_wl G σ) (ccI b).1 (k_wl G (ccI b).2) :=
  met_of (by decide) (Nat.le_of_ble_eq_true rfl) rfl (om_X4_wornCoats _ hx0 σ)
theorem call_X4_wornCoats {G : KW} {l : Launch} {cc : ByteArray} {nL : Nat} {own : String} {rt : Option FieldType} {R : Room} {α : Type} {X : State → Array Value → Method → Prop} {Z : α → List Frame → Array Value → State → State → Prop} {k0 n0 pc index : Nat} {L : List (Option Value)} {S : List Value} {σ : Sg} {F : Int32 → Sg → Option α} {x0 : Nat} (lk : MLk own index yX4_wornCoats) (hx0 : k_tw x0) (hR : R.frames ≥ 1 + 1 ∧ R.locals ≥ 8 + (3 + 11) + 23) (hcs : k0 ≤ R.cells ∧ n0 ≤ R.slots) (hro : (S.map fun v => v.category).sum ≤ 8) (d : decode cc pc = .ok (.invokevirtual index, 3)) (kk : ∀ (r : Int32) (σ' : Sg), Okg G l cc nL own rt R X Z k0 n0 (pc + 3) L (.int r :: S) σ' (F r σ')) : Okg G l cc nL own rt R X Z k0 n0 pc L (k_rr G x0 :: S) σ (e_cI (m_X4_wornCoats x0 σ) F) :=
  ok_cV (cb := ccI) (As := []) (ct_X4_wornCoats _ hx0 σ) mo_X4_wornCoats hi_X4_wornCoats lk rfl (ci := 4) rfl rfl (by decide) (isT_kd hx0) hR rfl hcs hro d (fun b => kk b.1 b.2)
/-! CoatDinner$Town.dine(LCoatDinner$Table;)V -/
def d_X4_dine_15 (x0 : Nat) (K : Sg → Option (Sg)) (H : Int32 → Int32 → Sg → Option (Sg)) (x2 : Int32) (x3 : Int32) (σ : Sg) : Option (Sg) := (if 5 ≤ x3 then K σ else e_cI (m_X4_hasPerson x0 x3 σ) (fun r5 σ4 => (if r5 = 0 then H x2 (x3 + 1) σ4 else e_cI (m_X3_seatOf x3 σ4) (fun r7 σ6 => e_cV (m_X4_eat x0 x3 (x2 - r7) σ6) (fun σ8 => H x2 (x3 + 1) σ8)))))
def d_X4_dine_54 (x0 : Nat) (K : Sg → Option (Sg)) (H : Int32 → Int32 → Sg → Option (Sg)) (x3 : Int32) (x4 : Int32) (σ : Sg) : Option (Sg) := (if 5 ≤ x4 then K σ else (if ((jsr x3 x4) &&& 1) = 1 then e_gd (k_in x4 5) ((if (σ (x0 + 7) (Int32.toNatClampNeg x4)) ≤ 0 then H x3 (x4 + 1) σ else e_gd (k_in x4 5) (e_wr σ (x0 + 7) x4 5 ((σ (x0 + 7) (Int32.toNatClampNeg x4)) - 1) (fun σ12 => H x3 (x4 + 1) σ12)))) else H x3 (x4 + 1) σ))
theorem od_X4_dine_15 {G : KW} {l : Launch} (x0 : Nat) (hx0 : k_tw x0) {K : Sg → Option (Sg)} {H : Int32 → Int32 → Sg → Option (Sg)} (hK : ∀  (σ : Sg), Okk G l cX4_dine 5 RX4 none (rmo 3 66) ccV 46 [some (k_rr G x0), none, none, none, none] [] σ (K  σ)) (hH : ∀ (x2 : Int32) (x3 : Int32) (σ : Sg), Okk G l cX4_dine 5 RX4 none (rmo 3 66) ccV 15 [some (k_rr G x0), some (k_rr G 60), some (.int x2), some (.int x3), none] [] σ (H x2 x3 σ)) (x2 : Int32) (x3 : Int32)  (σ : Sg) : Okk G l cX4_dine 5 RX4 none (rmo 3 66) ccV 15 [some (k_rr G x0), some (k_rr G 60), some (.int x2), some (.int x3), none] [] σ (d_X4_dine_15 x0 K H x2 x3 σ) := by
  unfold d_X4_dine_15
  refine ok_iload3 (dq_of td_X4_dine 9 rfl) ?_
  refine ok_iconst (v := 5) (dq_of td_X4_dine 10 rfl) (by decide) ?_
  refine ok_ic_ge (tgt := 46) (dq_of td_X4_dine 11 rfl) (by decide) ?_ ?_
  · refine ok_wk (wk_s (wk_n (wk_n (wk_n (wk_n wk_0))))) ?_
    exact hK _
  · refine ok_aload0 (dq_of td_X4_dine 12 rfl) ?_
    refine ok_iload3 (dq_of td_X4_dine 13 rfl) ?_
    refine call_X4_hasPerson ml_X4_68 hx0 ⟨Nat.le_of_ble_eq_true rfl, Nat.le_of_ble_eq_true rfl⟩ ⟨Nat.zero_le _, Nat.zero_le _⟩ (Nat.le_of_ble_eq_true rfl) (dq_of td_X4_dine 14 rfl) (fun r5 σ4 => ?_)
    refine ok_if_eq (tgt := 40) (dq_of td_X4_dine 15 rfl) (by decide) ?_ ?_
    · refine ok_jinc3 (w := 1) (dq_of td_X4_dine 24 rfl) (by decide) rfl (by decide) ?_
      refine ok_goto (tgt := 15) (dq_of td_X4_dine 25 rfl) (by decide) ?_
      refine ok_wk (wk_s (wk_s (wk_s (wk_s (wk_n wk_0))))) ?_
      exact hH _ _ _
    · refine ok_aload0 (dq_of td_X4_dine 16 rfl) ?_
      refine ok_iload3 (dq_of td_X4_dine 17 rfl) ?_
      refine ok_iload2 (dq_of td_X4_dine 18 rfl) ?_
      refine ok_aload1 (dq_of td_X4_dine 19 rfl) ?_
      refine ok_iload3 (dq_of td_X4_dine 20 rfl) ?_
      refine call_X3_seatOf ml_X4_119  ⟨Nat.le_of_ble_eq_true rfl, Nat.le_of_ble_eq_true rfl⟩ ⟨Nat.zero_le _, Nat.zero_le _⟩ (Nat.le_of_ble_eq_true rfl) (dq_of td_X4_dine 21 rfl) (fun r7 σ6 => ?_)
      refine ok_isub (dq_of td_X4_dine 22 rfl) ?_
      refine call_X4_eat ml_X4_122 hx0 ⟨Nat.le_of_ble_eq_true rfl, Nat.le_of_ble_eq_true rfl⟩ ⟨Nat.zero_le _, Nat.zero_le _⟩ (Nat.le_of_ble_eq_true rfl) (dq_of td_X4_dine 23 rfl) (fun σ8 => ?_)
      refine ok_jinc3 (w := 1) (dq_of td_X4_dine 24 rfl) (by decide) rfl (by decide) ?_
      refine ok_goto (tgt := 15) (dq_of td_X4_dine 25 rfl) (by decide) ?_
      refine ok_wk (wk_s (wk_s (wk_s (wk_s (wk_n wk_0))))) ?_
      exact hH _ _ _
theorem ld_X4_dine_15 {G : KW} {l : Launch} (x0 : Nat) (hx0 : k_tw x0) {K : Sg → Option (Sg)} (hK : ∀  (σ : Sg), Okk G l cX4_dine 5 RX4 none (rmo 3 66) ccV 46 [some (k_rr G x0), none, none, none, none] [] σ (K  σ)) (n : Nat) (x2 : Int32) (x3 : Int32) (σ : Sg) : Okk G l cX4_dine 5 RX4 none (rmo 3 66) ccV 15 [some (k_rr G x0), some (k_rr G 60), some (.int x2), some (.int x3), none] [] σ (e_lp2 (d_X4_dine_15 x0 K) n x2 x3 σ) :=
  ok_lp2 (Lf := fun (x2 : Int32) (x3 : Int32) => [some (k_rr G x0), some (k_rr G 60), some (.int x2), some (.int x3), none]) (fun _ hH x2 x3 σ => od_X4_dine_15 _ hx0 hK hH x2 x3 σ) n x2 x3 σ
theorem od_X4_dine_54 {G : KW} {l : Launch} (x0 : Nat) (hx0 : k_tw x0) {K : Sg → Option (Sg)} {H : Int32 → Int32 → Sg → Option (Sg)} (hK : ∀  (σ : Sg), Okk G l cX4_dine 5 RX4 none (rmo 3 66) ccV 97 [none, none, none, none, none] [] σ (K  σ)) (hH : ∀ (x3 : Int32) (x4 : Int32) (σ : Sg), Okk G l cX4_dine 5 RX4 none (rmo 3 66) ccV 54 [some (k_rr G x0), none, none, some (.int x3), some (.int x4)] [] σ (H x3 x4 σ)) (x3 : Int32) (x4 : Int32)  (σ : Sg) : Okk G l cX4_dine 5 RX4 none (rmo 3 66) ccV 54 [some (k_rr G x0), none, none, some (.int x3), some (.int x4)] [] σ (d_X4_dine_54 x0 K H x3 x4 σ) := by
  unfold d_X4_dine_54
  refine ok_iload4 (dq_of td_X4_dine 31 rfl) ?_
  refine ok_iconst (v := 5) (dq_of td_X4_dine 32 rfl) (by decide) ?_
  refine ok_ic_ge (tgt := 97) (dq_of td_X4_dine 33 rfl) (by decide) ?_ ?_
  · refine ok_wk (wk_n (wk_n (wk_n (wk_n (wk_n wk_0))))) ?_
    exact hK _
  · refine ok_iload3 (dq_of td_X4_dine 34 rfl) ?_
    refine ok_iload4 (dq_of td_X4_dine 35 rfl) ?_
    refine ok_ishr (dq_of td_X4_dine 36 rfl) ?_
    refine ok_iconst (v := 1) (dq_of td_X4_dine 37 rfl) (by decide) ?_
    refine ok_iand (dq_of td_X4_dine 38 rfl) ?_
    refine ok_iconst (v := 1) (dq_of td_X4_dine 39 rfl) (by decide) ?_
    refine ok_ic_ne (tgt := 91) (dq_of td_X4_dine 40 rfl) (by decide) ?_ ?_
    · refine ok_jinc4 (w := 1) (dq_of td_X4_dine 54 rfl) (by decide) rfl (by decide) ?_
      refine ok_goto (tgt := 54) (dq_of td_X4_dine 55 rfl) (by decide) ?_
      refine ok_wk (wk_s (wk_n (wk_n (wk_s (wk_s wk_0))))) ?_
      exact hH _ _ _
    · refine ok_aload0 (dq_of td_X4_dine 41 rfl) ?_
      refine ok_get (v := k_rr G (x0 + 7)) fl_X4_34 (by decide) (isT_kd hx0) rfl (dq_of td_X4_dine 42 rfl) ?_
      refine ok_iload4 (dq_of td_X4_dine 43 rfl) ?_
      refine ok_iald (isT_a7 hx0) (dq_of td_X4_dine 44 rfl) ?_
      refine ok_if_le (tgt := 91) (dq_of td_X4_dine 45 rfl) (by decide) ?_ ?_
      · refine ok_jinc4 (w := 1) (dq_of td_X4_dine 54 rfl) (by decide) rfl (by decide) ?_
        refine ok_goto (tgt := 54) (dq_of td_X4_dine 55 rfl) (by decide) ?_
        refine ok_wk (wk_s (wk_n (wk_n (wk_s (wk_s wk_0))))) ?_
        exact hH _ _ _
      · refine ok_aload0 (dq_of td_X4_dine 46 rfl) ?_
        refine ok_get (v := k_rr G (x0 + 7)) fl_X4_34 (by decide) (isT_kd hx0) rfl (dq_of td_X4_dine 47 rfl) ?_
        refine ok_iload4 (dq_of td_X4_dine 48 rfl) ?_
        refine ok_dup2 (dq_of td_X4_dine 49 rfl) rfl rfl ?_
        refine ok_iald (isT_a7 hx0) (dq_of td_X4_dine 50 rfl) ?_
        refine ok_iconst (v := 1) (dq_of td_X4_dine 51 rfl) (by decide) ?_
        refine ok_isub (dq_of td_X4_dine 52 rfl) ?_
        refine ok_iast (isT_a7 hx0) (dq_of td_X4_dine 53 rfl) (fun σ12 => ?_)
        refine ok_jinc4 (w := 1) (dq_of td_X4_dine 54 rfl) (by decide) rfl (by decide) ?_
        refine ok_goto (tgt := 54) (dq_of td_X4_dine 55 rfl) (by decide) ?_
        refine ok_wk (wk_s (wk_n (wk_n (wk_s (wk_s wk_0))))) ?_
        exact hH _ _ _
theorem ld_X4_dine_54 {G : KW} {l : Launch} (x0 : Nat) (hx0 : k_tw x0) {K : Sg → Option (Sg)} (hK : ∀  (σ : Sg), Okk G l cX4_dine 5 RX4 none (rmo 3 66) ccV 97 [none, none, none, none, none] [] σ (K  σ)) (n : Nat) (x3 : Int32) (x4 : Int32) (σ : Sg) : Okk G l cX4_dine 5 RX4 none (rmo 3 66) ccV 54 [some (k_rr G x0), none, none, some (.int x3), some (.int x4)] [] σ (e_lp2 (d_X4_dine_54 x0 K) n x3 x4 σ) :=
  ok_lp2 (Lf := fun (x3 : Int32) (x4 : Int32) => [some (k_rr G x0), none, none, some (.int x3), some (.int x4)]) (fun _ hH x3 x4 σ => od_X4_dine_54 _ hx0 hK hH x3 x4 σ) n x3 x4 σ
def m_X4_dine (x0 : Nat) (σ : Sg) : Option (Sg) := e_cV (m_X3_lay x0 σ) (fun σ1 => e_cI (m_J6_bitCount_0f7a4 (σ1 x0 0) σ1) (fun r3 σ2 => e_lp2 (d_X4_dine_15 x0 (fun σ9 => e_cI (m_X4_wornCoats x0 σ9) (fun r11 σ10 => e_lp2 (d_X4_dine_54 x0 (fun σ13 => some σ13)) e_F r11 0 σ10))) e_F r3 0 σ2))
theorem om_X4_dine {G : KW} {l : Launch} (x0 : Nat) (hx0 : k_tw x0) (σ : Sg) : Okk G l cX4_dine 5 RX4 none (rmo 3 66) ccV 0 [some (k_rr G x0), some (k_rr G 60), none, none, none] [] σ (m_X4_dine x0 σ) := by
  unfold m_X4_dine
  refine ok_aload1 (dq_of td_X4_dine 0 rfl) ?_
  refine ok_aload0 (dq_of td_X4_dine 1 rfl) ?_
  refine call_X3_lay ml_X4_113 hx0 ⟨Nat.le_of_ble_eq_true rfl, Nat.le_of_ble_eq_true rfl⟩ ⟨Nat.zero_le _, Nat.zero_le _⟩ (Nat.le_of_ble_eq_true rfl) (dq_of td_X4_dine 2 rfl) (fun σ1 => ?_)
  refine ok_aload0 (dq_of td_X4_dine 3 rfl) ?_
  refine ok_get (v := .int (σ1 x0 0)) fl_X4_55 (by decide) (isT_kd hx0) rfl (dq_of td_X4_dine 4 rfl) ?_
  refine call_J6_bitCount_0f7a4 ml_X4_92  ⟨Nat.le_of_ble_eq_true rfl, Nat.le_of_ble_eq_true rfl⟩ ⟨Nat.zero_le _, Nat.zero_le _⟩ (Nat.le_of_ble_eq_true rfl) (dq_of td_X4_dine 5 rfl) (fun r3 σ2 => ?_)
  refine ok_istore2 (dq_of td_X4_dine 6 rfl) rfl (by decide) ?_
  refine ok_iconst (v := 0) (dq_of td_X4_dine 7 rfl) (by decide) ?_
  refine ok_istore3 (dq_of td_X4_dine 8 rfl) rfl (by decide) ?_
  refine ok_wk (wk_s (wk_s (wk_s (wk_s (wk_n wk_0))))) ?_
  refine ld_X4_dine_15 _ hx0 (fun σ9 => ?_) _ _ _ _
  refine ok_aload0 (dq_of td_X4_dine 26 rfl) ?_
  refine call_X4_wornCoats ml_X4_126 hx0 ⟨Nat.le_of_ble_eq_true rfl, Nat.le_of_ble_eq_true rfl⟩ ⟨Nat.zero_le _, Nat.zero_le _⟩ (Nat.le_of_ble_eq_true rfl) (dq_of td_X4_dine 27 rfl) (fun r11 σ10 => ?_)
  refine ok_istore3 (dq_of td_X4_dine 28 rfl) rfl (by decide) ?_
  refine ok_iconst (v := 0) (dq_of td_X4_dine 29 rfl) (by decide) ?_
  refine ok_istore4 (dq_of td_X4_dine 30 rfl) rfl (by decide) ?_
  refine ok_wk (wk_s (wk_n (wk_n (wk_s (wk_s wk_0))))) ?_
  refine ld_X4_dine_54 _ hx0 (fun σ13 => ?_) _ _ _ _
  exact ok_vret (dq_of td_X4_dine 56 rfl)
theorem ct_X4_dine {G : KW} {l : Launch} (x0 : Nat) (hx0 : k_tw x0) (σ : Sg) : ∀ b, m_X4_dine x0 σ = some b → MetF G l yX4_dine cX4_dine 5 none 3 66 [k_rr G x0, k_rr G 60] (k_wl G σ) (ccV b).1 (k_wl G (ccV b).2) :=
  met_of (by decide) (Nat.le_of_ble_eq_true rfl) rfl (om_X4_dine _ hx0 σ)
theorem call_X4_dine {G : KW} {l : Launch} {cc : ByteArray} {nL : Nat} {own : String} {rt : Option FieldType} {R : Room} {α : Type} {X : State → Array Value → Method → Prop} {Z : α → List Frame → Array Value → State → State → Prop} {k0 n0 pc index : Nat} {L : List (Option Value)} {S : List Value} {σ : Sg} {F : Sg → Option α} {x0 : Nat} (lk : MLk own index yX4_dine) (hx0 : k_tw x0) (hR : R.frames ≥ 3 + 1 ∧ R.locals ≥ 8 + (5 + 11) + 66) (hcs : k0 ≤ R.cells ∧ n0 ≤ R.slots) (hro : (S.map fun v => v.category).sum ≤ 8) (d : decode cc pc = .ok (.invokevirtual index, 3)) (kk : ∀ σ' : Sg, Okg G l cc nL own rt R X Z k0 n0 (pc + 3) L S σ' (F σ')) : Okg G l cc nL own rt R X Z k0 n0 pc L (k_rr G 60 :: k_rr G x0 :: S) σ (e_cV (m_X4_dine x0 σ) F) :=
  ok_cV (cb := ccV) (As := [k_rr G 60]) (ct_X4_dine _ hx0 σ) mo_X4_dine hi_X4_dine lk rfl (ci := 4) rfl rfl (by decide) (isT_kd hx0) hR rfl hcs hro d (fun b => kk b)
/-! CoatDinner$Town.fast()V -/
def d_X4_fast_2 (x0 : Nat) (K : Sg → Option (Sg)) (H : Int32 → Sg → Option (Sg)) (x1 : Int32) (σ : Sg) : Option (Sg) := (if 5 ≤ x1 then K σ else e_cI (m_X4_hasPerson x0 x1 σ) (fun r2 σ1 => (if r2 = 0 then H (x1 + 1) σ1 else e_gd (k_in x1 5) (e_wr σ1 (x0 + 2) x1 5 ((σ1 (x0 + 2) (Int32.toNatClampNeg x1)) + 1) (fun σ3 => H (x1 + 1) σ3)))))
theorem od_X4_fast_2 {G : KW} {l : Launch} (x0 : Nat) (hx0 : k_tw x0) {K : Sg → Option (Sg)} {H : Int32 → Sg → Option (Sg)} (hK : ∀  (σ : Sg), Okk G l cX4_fast 2 RX4 none (rmo 1 21) ccV 31 [none, none] [] σ (K  σ)) (hH : ∀ (x1 : Int32) (σ : Sg), Okk G l cX4_fast 2 RX4 none (rmo 1 21) ccV 2 [some (k_rr G x0), some (.int x1)] [] σ (H x1 σ)) (x1 : Int32)  (σ : Sg) : Okk G l cX4_fast 2 RX4 none (rmo 1 21) ccV 2 [some (k_rr G x0), some (.int x1)] [] σ (d_X4_fast_2 x0 K H x1 σ) := by
  unfold d_X4_fast_2
  refine ok_iload1 (dq_of td_X4_fast 2 rfl) ?_
  refine ok_iconst (v := 5) (dq_of td_X4_fast 3 rfl) (by decide) ?_
  refine ok_ic_ge (tgt := 31) (dq_of td_X4_fast 4 rfl) (by decide) ?_ ?_
  · refine ok_wk (wk_n (wk_n wk_0)) ?_
    exact hK _
  · refine ok_aload0 (dq_of td_X4_fast 5 rfl) ?_
    refine ok_iload1 (dq_of td_X4_fast 6 rfl) ?_
    refine call_X4_hasPerson ml_X4_68 hx0 ⟨Nat.le_of_ble_eq_true rfl, Nat.le_of_ble_eq_true rfl⟩ ⟨Nat.zero_le _, Nat.zero_le _⟩ (Nat.le_of_ble_eq_true rfl) (dq_of td_X4_fast 7 rfl) (fun r2 σ1 => ?_)
    refine ok_if_eq (tgt := 25) (dq_of td_X4_fast 8 rfl) (by decide) ?_ ?_
    · refine ok_jinc1 (w := 1) (dq_of td_X4_fast 17 rfl) (by decide) rfl (by decide) ?_
      refine ok_goto (tgt := 2) (dq_of td_X4_fast 18 rfl) (by decide) ?_
      refine ok_wk (wk_s (wk_s wk_0)) ?_
      exact hH _ _
    · refine ok_aload0 (dq_of td_X4_fast 9 rfl) ?_
      refine ok_get (v := k_rr G (x0 + 2)) fl_X4_19 (by decide) (isT_kd hx0) rfl (dq_of td_X4_fast 10 rfl) ?_
      refine ok_iload1 (dq_of td_X4_fast 11 rfl) ?_
      refine ok_dup2 (dq_of td_X4_fast 12 rfl) rfl rfl ?_
      refine ok_iald (isT_a2 hx0) (dq_of td_X4_fast 13 rfl) ?_
      refine ok_iconst (v := 1) (dq_of td_X4_fast 14 rfl) (by decide) ?_
      refine ok_iadd (dq_of td_X4_fast 15 rfl) ?_
      refine ok_iast (isT_a2 hx0) (dq_of td_X4_fast 16 rfl) (fun σ3 => ?_)
      refine ok_jinc1 (w := 1) (dq_of td_X4_fast 17 rfl) (by decide) rfl (by decide) ?_
      refine ok_goto (tgt := 2) (dq_of td_X4_fast 18 rfl) (by decide) ?_
      refine ok_wk (wk_s (wk_s wk_0)) ?_
      exact hH _ _
theorem ld_X4_fast_2 {G : KW} {l : Launch} (x0 : Nat) (hx0 : k_tw x0) {K : Sg → Option (Sg)} (hK : ∀  (σ : Sg), Okk G l cX4_fast 2 RX4 none (rmo 1 21) ccV 31 [none, none] [] σ (K  σ)) (n : Nat) (x1 : Int32) (σ : Sg) : Okk G l cX4_fast 2 RX4 none (rmo 1 21) ccV 2 [some (k_rr G x0), some (.int x1)] [] σ (e_lp1 (d_X4_fast_2 x0 K) n x1 σ) :=
  ok_lp1 (Lf := fun (x1 : Int32) => [some (k_rr G x0), some (.int x1)]) (fun _ hH x1 σ => od_X4_fast_2 _ hx0 hK hH x1 σ) n x1 σ
def m_X4_fast (x0 : Nat) (σ : Sg) : Option (Sg) := e_lp1 (d_X4_fast_2 x0 (fun σ4 => some σ4)) e_F 0 σ
theorem om_X4_fast {G : KW} {l : Launch} (x0 : Nat) (hx0 : k_tw x0) (σ : Sg) : Okk G l cX4_fast 2 RX4 none (rmo 1 21) ccV 0 [some (k_rr G x0), none] [] σ (m_X4_fast x0 σ) := by
  unfold m_X4_fast
  refine ok_iconst (v := 0) (dq_of td_X4_fast 0 rfl) (by decide) ?_
  refine ok_istore1 (dq_of td_X4_fast 1 rfl) rfl (by decide) ?_
  refine ok_wk (wk_s (wk_s wk_0)) ?_
  refine ld_X4_fast_2 _ hx0 (fun σ4 => ?_) _ _ _
  exact ok_vret (dq_of td_X4_fast 19 rfl)
theorem ct_X4_fast {G : KW} {l : Launch} (x0 : Nat) (hx0 : k_tw x0) (σ : Sg) : ∀ b, m_X4_fast x0 σ = some b → MetF G l yX4_fast cX4_fast 2 none 1 21 [k_rr G x0] (k_wl G σ) (ccV b).1 (k_wl G (ccV b).2) :=
  met_of (by decide) (Nat.le_of_ble_eq_true rfl) rfl (om_X4_fast _ hx0 σ)
theorem call_X4_fast {G : KW} {l : Launch} {cc : ByteArray} {nL : Nat} {own : String} {rt : Option FieldType} {R : Room} {α : Type} {X : State → Array Value → Method → Prop} {Z : α → List Frame → Array Value → State → State → Prop} {k0 n0 pc index : Nat} {L : List (Option Value)} {S : List Value} {σ : Sg} {F : Sg → Option α} {x0 : Nat} (lk : MLk own index yX4_fast) (hx0 : k_tw x0) (hR : R.frames ≥ 1 + 1 ∧ R.locals ≥ 8 + (2 + 11) + 21) (hcs : k0 ≤ R.cells ∧ n0 ≤ R.slots) (hro : (S.map fun v => v.category).sum ≤ 8) (d : decode cc pc = .ok (.invokevirtual index, 3)) (kk : ∀ σ' : Sg, Okg G l cc nL own rt R X Z k0 n0 (pc + 3) L S σ' (F σ')) : Okg G l cc nL own rt R X Z k0 n0 pc L (k_rr G x0 :: S) σ (e_cV (m_X4_fast x0 σ) F) :=
  ok_cV (cb := ccV) (As := []) (ct_X4_fast _ hx0 σ) mo_X4_fast hi_X4_fast lk rfl (ci := 4) rfl rfl (by decide) (isT_kd hx0) hR rfl hcs hro d (fun b => kk b)
/-! CoatDinner$Town.whyNotLend(III)I -/
def m_X4_whyNotLend (x0 : Nat) (x1 : Int32) (x2 : Int32) (x3 : Int32) (σ : Sg) : Option (Int32 × Sg) := e_cI (m_X4_hasPerson x0 x1 σ) (fun r2 σ1 => (if r2 = 0 then some (1, σ1) else e_cI (m_X4_hasPerson x0 x2 σ1) (fun r4 σ3 => (if r4 = 0 then some (1, σ3) else (if x1 = x2 then some (1, σ3) else e_gd (k_in x1 5) ((if (σ3 (x0 + 1) (Int32.toNatClampNeg x1)) = x3 then e_gd (k_in x2 5) ((if (σ3 (x0 + 1) (Int32.toNatClampNeg x2)) = ((-1)) then some (0, σ3) else some (3, σ3))) else some (2, σ3))))))))
theorem om_X4_whyNotLend {G : KW} {l : Launch} (x0 : Nat) (x1 : Int32) (x2 : Int32) (x3 : Int32) (hx0 : k_tw x0) (σ : Sg) : Okk G l cX4_whyNotLend 4 RX4 (some .int) (rmo 1 21) ccI 0 [some (k_rr G x0), some (.int x1), some (.int x2), some (.int x3)] [] σ (m_X4_whyNotLend x0 x1 x2 x3 σ) := by
  unfold m_X4_whyNotLend
  refine ok_aload0 (dq_of td_X4_whyNotLend 0 rfl) ?_
  refine ok_iload1 (dq_of td_X4_whyNotLend 1 rfl) ?_
  refine call_X4_hasPerson ml_X4_68 hx0 ⟨Nat.le_of_ble_eq_true rfl, Nat.le_of_ble_eq_true rfl⟩ ⟨Nat.zero_le _, Nat.zero_le _⟩ (Nat.le_of_ble_eq_true rfl) (dq_of td_X4_whyNotLend 2 rfl) (fun r2 σ1 => ?_)
  refine ok_if_eq (tgt := 21) (dq_of td_X4_whyNotLend 3 rfl) (by decide) ?_ ?_
  · refine ok_iconst (v := 1) (dq_of td_X4_whyNotLend 11 rfl) (by decide) ?_
    exact ok_iret (dq_of td_X4_whyNotLend 12 rfl)
  · refine ok_aload0 (dq_of td_X4_whyNotLend 4 rfl) ?_
    refine ok_iload2 (dq_of td_X4_whyNotLend 5 rfl) ?_
    refine call_X4_hasPerson ml_X4_68 hx0 ⟨Nat.le_of_ble_eq_true rfl, Nat.le_of_ble_eq_true rfl⟩ ⟨Nat.zero_le _, Nat.zero_le _⟩ (Nat.le_of_ble_eq_true rfl) (dq_of td_X4_whyNotLend 6 rfl) (fun r4 σ3 => ?_)
    refine ok_if_eq (tgt := 21) (dq_of td_X4_whyNotLend 7 rfl) (by decide) ?_ ?_
    · refine ok_iconst (v := 1) (dq_of td_X4_whyNotLend 11 rfl) (by decide) ?_
      exact ok_iret (dq_of td_X4_whyNotLend 12 rfl)
    · refine ok_iload1 (dq_of td_X4_whyNotLend 8 rfl) ?_
      refine ok_iload2 (dq_of td_X4_whyNotLend 9 rfl) ?_
      refine ok_ic_ne (tgt := 23) (dq_of td_X4_whyNotLend 10 rfl) (by decide) ?_ ?_
      · refine ok_aload0 (dq_of td_X4_whyNotLend 13 rfl) ?_
        refine ok_get (v := k_rr G (x0 + 1)) fl_X4_15 (by decide) (isT_kd hx0) rfl (dq_of td_X4_whyNotLend 14 rfl) ?_
        refine ok_iload1 (dq_of td_X4_whyNotLend 15 rfl) ?_
        refine ok_iald (isT_a1 hx0) (dq_of td_X4_whyNotLend 16 rfl) ?_
        refine ok_iload3 (dq_of td_X4_whyNotLend 17 rfl) ?_
        refine ok_ic_eq (tgt := 35) (dq_of td_X4_whyNotLend 18 rfl) (by decide) ?_ ?_
        · refine ok_aload0 (dq_of td_X4_whyNotLend 21 rfl) ?_
          refine ok_get (v := k_rr G (x0 + 1)) fl_X4_15 (by decide) (isT_kd hx0) rfl (dq_of td_X4_whyNotLend 22 rfl) ?_
          refine ok_iload2 (dq_of td_X4_whyNotLend 23 rfl) ?_
          refine ok_iald (isT_a1 hx0) (dq_of td_X4_whyNotLend 24 rfl) ?_
          refine ok_iconst (v := (-1)) (dq_of td_X4_whyNotLend 25 rfl) (by decide) ?_
          refine ok_ic_ne (tgt := 49) (dq_of td_X4_whyNotLend 26 rfl) (by decide) ?_ ?_
          · refine ok_iconst (v := 3) (dq_of td_X4_whyNotLend 29 rfl) (by decide) ?_
            exact ok_iret (dq_of td_X4_whyNotLend 30 rfl)
          · refine ok_iconst (v := 0) (dq_of td_X4_whyNotLend 27 rfl) (by decide) ?_
            refine ok_goto (tgt := 50) (dq_of td_X4_whyNotLend 28 rfl) (by decide) ?_
            exact ok_iret (dq_of td_X4_whyNotLend 30 rfl)
        · refine ok_iconst (v := 2) (dq_of td_X4_whyNotLend 19 rfl) (by decide) ?_
          exact ok_iret (dq_of td_X4_whyNotLend 20 rfl)
      · refine ok_iconst (v := 1) (dq_of td_X4_whyNotLend 11 rfl) (by decide) ?_
        exact ok_iret (dq_of td_X4_whyNotLend 12 rfl)
theorem ct_X4_whyNotLend {G : KW} {l : Launch} (x0 : Nat) (x1 : Int32) (x2 : Int32) (x3 : Int32) (hx0 : k_tw x0) (σ : Sg) : ∀ b, m_X4_whyNotLend x0 x1 x2 x3 σ = some b → MetF G l yX4_whyNotLend cX4_whyNotLend 4 (some .int) 1 21 [k_rr G x0, .int x1, .int x2, .int x3] (k_wl G σ) (ccI b).1 (k_wl G (ccI b).2) :=
  met_of (by decide) (Nat.le_of_ble_eq_true rfl) rfl (om_X4_whyNotLend _ _ _ _ hx0 σ)
theorem call_X4_whyNotLend {G : KW} {l : Launch} {cc : ByteArray} {nL : Nat} {own : String} {rt : Option FieldType} {R : Room} {α : Type} {X : State → Array Value → Method → Prop} {Z : α → List Frame → Array Value → State → State → Prop} {k0 n0 pc index : Nat} {L : List (Option Value)} {S : List Value} {σ : Sg} {F : Int32 → Sg → Option α} {x0 : Nat} {x1 : Int32} {x2 : Int32} {x3 : Int32} (lk : MLk own index yX4_whyNotLend) (hx0 : k_tw x0) (hR : R.frames ≥ 1 + 1 ∧ R.locals ≥ 8 + (4 + 11) + 21) (hcs : k0 ≤ R.cells ∧ n0 ≤ R.slots) (hro : (S.map fun v => v.category).sum ≤ 8) (d : decode cc pc = .ok (.invokevirtual index, 3)) (kk : ∀ (r : Int32) (σ' : Sg), Okg G l cc nL own rt R X Z k0 n0 (pc + 3) L (.int r :: S) σ' (F r σ')) : Okg G l cc nL own rt R X Z k0 n0 pc L (.int x3 :: .int x2 :: .int x1 :: k_rr G x0 :: S) σ (e_cI (m_X4_whyNotLend x0 x1 x2 x3 σ) F) :=
  ok_cV (cb := ccI) (As := [.int x1, .int x2, .int x3]) (ct_X4_whyNotLend _ _ _ _ hx0 σ) mo_X4_whyNotLend hi_X4_whyNotLend lk rfl (ci := 4) rfl rfl (by decide) (isT_kd hx0) hR rfl hcs hro d (fun b => kk b.1 b.2)
/-! CoatDinner$Town.lend(III)I -/
def m_X4_lend (x0 : Nat) (x1 : Int32) (x2 : Int32) (x3 : Int32) (σ : Sg) : Option (Int32 × Sg) := e_cI (m_X4_whyNotLend x0 x1 x2 x3 σ) (fun r2 σ1 => (if r2 = 0 then e_wr σ1 (x0 + 1) x1 5 ((-1)) (fun σ3 => e_wr σ3 (x0 + 1) x2 5 x3 (fun σ4 => some (r2, σ4))) else some (r2, σ1)))
theorem om_X4_lend {G : KW} {l : Launch} (x0 : Nat) (x1 : Int32) (x2 : Int32) (x3 : Int32) (hx0 : k_tw x0) (σ : Sg) : Okk G l cX4_lend 5 RX4 (some .int) (rmo 2 44) ccI 0 [some (k_rr G x0), some (.int x1), some (.int x2), some (.int x3), none] [] σ (m_X4_lend x0 x1 x2 x3 σ) := by
  unfold m_X4_lend
  refine ok_aload0 (dq_of td_X4_lend 0 rfl) ?_
  refine ok_iload1 (dq_of td_X4_lend 1 rfl) ?_
  refine ok_iload2 (dq_of td_X4_lend 2 rfl) ?_
  refine ok_iload3 (dq_of td_X4_lend 3 rfl) ?_
  refine call_X4_whyNotLend ml_X4_97 hx0 ⟨Nat.le_of_ble_eq_true rfl, Nat.le_of_ble_eq_true rfl⟩ ⟨Nat.zero_le _, Nat.zero_le _⟩ (Nat.le_of_ble_eq_true rfl) (dq_of td_X4_lend 4 rfl) (fun r2 σ1 => ?_)
  refine ok_istore4 (dq_of td_X4_lend 5 rfl) rfl (by decide) ?_
  refine ok_iload4 (dq_of td_X4_lend 6 rfl) ?_
  refine ok_if_ne (tgt := 28) (dq_of td_X4_lend 7 rfl) (by decide) ?_ ?_
  · refine ok_iload4 (dq_of td_X4_lend 18 rfl) ?_
    exact ok_iret (dq_of td_X4_lend 19 rfl)
  · refine ok_aload0 (dq_of td_X4_lend 8 rfl) ?_
    refine ok_get (v := k_rr G (x0 + 1)) fl_X4_15 (by decide) (isT_kd hx0) rfl (dq_of td_X4_lend 9 rfl) ?_
    refine ok_iload1 (dq_of td_X4_lend 10 rfl) ?_
    refine ok_iconst (v := (-1)) (dq_of td_X4_lend 11 rfl) (by decide) ?_
    refine ok_iast (isT_a1 hx0) (dq_of td_X4_lend 12 rfl) (fun σ3 => ?_)
    refine ok_aload0 (dq_of td_X4_lend 13 rfl) ?_
    refine ok_get (v := k_rr G (x0 + 1)) fl_X4_15 (by decide) (isT_kd hx0) rfl (dq_of td_X4_lend 14 rfl) ?_
    refine ok_iload2 (dq_of td_X4_lend 15 rfl) ?_
    refine ok_iload3 (dq_of td_X4_lend 16 rfl) ?_
    refine ok_iast (isT_a1 hx0) (dq_of td_X4_lend 17 rfl) (fun σ4 => ?_)
    refine ok_iload4 (dq_of td_X4_lend 18 rfl) ?_
    exact ok_iret (dq_of td_X4_lend 19 rfl)
theorem ct_X4_lend {G : KW} {l : Launch} (x0 : Nat) (x1 : Int32) (x2 : Int32) (x3 : Int32) (hx0 : k_tw x0) (σ : Sg) : ∀ b, m_X4_lend x0 x1 x2 x3 σ = some b → MetF G l yX4_lend cX4_lend 5 (some .int) 2 44 [k_rr G x0, .int x1, .int x2, .int x3] (k_wl G σ) (ccI b).1 (k_wl G (ccI b).2) :=
  met_of (by decide) (Nat.le_of_ble_eq_true rfl) rfl (om_X4_lend _ _ _ _ hx0 σ)
theorem call_X4_lend {G : KW} {l : Launch} {cc : ByteArray} {nL : Nat} {own : String} {rt : Option FieldType} {R : Room} {α : Type} {X : State → Array Value → Method → Prop} {Z : α → List Frame → Array Value → State → State → Prop} {k0 n0 pc index : Nat} {L : List (Option Value)} {S : List Value} {σ : Sg} {F : Int32 → Sg → Option α} {x0 : Nat} {x1 : Int32} {x2 : Int32} {x3 : Int32} (lk : MLk own index yX4_lend) (hx0 : k_tw x0) (hR : R.frames ≥ 2 + 1 ∧ R.locals ≥ 8 + (5 + 11) + 44) (hcs : k0 ≤ R.cells ∧ n0 ≤ R.slots) (hro : (S.map fun v => v.category).sum ≤ 8) (d : decode cc pc = .ok (.invokevirtual index, 3)) (kk : ∀ (r : Int32) (σ' : Sg), Okg G l cc nL own rt R X Z k0 n0 (pc + 3) L (.int r :: S) σ' (F r σ')) : Okg G l cc nL own rt R X Z k0 n0 pc L (.int x3 :: .int x2 :: .int x1 :: k_rr G x0 :: S) σ (e_cI (m_X4_lend x0 x1 x2 x3 σ) F) :=
  ok_cV (cb := ccI) (As := [.int x1, .int x2, .int x3]) (ct_X4_lend _ _ _ _ hx0 σ) mo_X4_lend hi_X4_lend lk rfl (ci := 4) rfl rfl (by decide) (isT_kd hx0) hR rfl hcs hro d (fun b => kk b.1 b.2)
/-! CoatDinner$Town.whyNotTakeOff(I)I -/
def m_X4_whyNotTakeOff (x0 : Nat) (x1 : Int32) (σ : Sg) : Option (Int32 × Sg) := e_cI (m_X4_hasPerson x0 x1 σ) (fun r2 σ1 => (if r2 = 0 then some (1, σ1) else e_gd (k_in x1 5) ((if (σ1 (x0 + 1) (Int32.toNatClampNeg x1)) = ((-1)) then some (2, σ1) else some (0, σ1)))))
theorem om_X4_whyNotTakeOff {G : KW} {l : Launch} (x0 : Nat) (x1 : Int32) (hx0 : k_tw x0) (σ : Sg) : Okk G l cX4_whyNotTakeOff 2 RX4 (some .int) (rmo 1 21) ccI 0 [some (k_rr G x0), some (.int x1)] [] σ (m_X4_whyNotTakeOff x0 x1 σ) := by
  unfold m_X4_whyNotTakeOff
  refine ok_aload0 (dq_of td_X4_whyNotTakeOff 0 rfl) ?_
  refine ok_iload1 (dq_of td_X4_whyNotTakeOff 1 rfl) ?_
  refine call_X4_hasPerson ml_X4_68 hx0 ⟨Nat.le_of_ble_eq_true rfl, Nat.le_of_ble_eq_true rfl⟩ ⟨Nat.zero_le _, Nat.zero_le _⟩ (Nat.le_of_ble_eq_true rfl) (dq_of td_X4_whyNotTakeOff 2 rfl) (fun r2 σ1 => ?_)
  refine ok_if_ne (tgt := 10) (dq_of td_X4_whyNotTakeOff 3 rfl) (by decide) ?_ ?_
  · refine ok_aload0 (dq_of td_X4_whyNotTakeOff 6 rfl) ?_
    refine ok_get (v := k_rr G (x0 + 1)) fl_X4_15 (by decide) (isT_kd hx0) rfl (dq_of td_X4_whyNotTakeOff 7 rfl) ?_
    refine ok_iload1 (dq_of td_X4_whyNotTakeOff 8 rfl) ?_
    refine ok_iald (isT_a1 hx0) (dq_of td_X4_whyNotTakeOff 9 rfl) ?_
    refine ok_iconst (v := (-1)) (dq_of td_X4_whyNotTakeOff 10 rfl) (by decide) ?_
    refine ok_ic_ne (tgt := 24) (dq_of td_X4_whyNotTakeOff 11 rfl) (by decide) ?_ ?_
    · refine ok_iconst (v := 0) (dq_of td_X4_whyNotTakeOff 14 rfl) (by decide) ?_
      exact ok_iret (dq_of td_X4_whyNotTakeOff 15 rfl)
    · refine ok_iconst (v := 2) (dq_of td_X4_whyNotTakeOff 12 rfl) (by decide) ?_
      refine ok_goto (tgt := 25) (dq_of td_X4_whyNotTakeOff 13 rfl) (by decide) ?_
      exact ok_iret (dq_of td_X4_whyNotTakeOff 15 rfl)
  · refine ok_iconst (v := 1) (dq_of td_X4_whyNotTakeOff 4 rfl) (by decide) ?_
    exact ok_iret (dq_of td_X4_whyNotTakeOff 5 rfl)
theorem ct_X4_whyNotTakeOff {G : KW} {l : Launch} (x0 : Nat) (x1 : Int32) (hx0 : k_tw x0) (σ : Sg) : ∀ b, m_X4_whyNotTakeOff x0 x1 σ = some b → MetF G l yX4_whyNotTakeOff cX4_whyNotTakeOff 2 (some .int) 1 21 [k_rr G x0, .int x1] (k_wl G σ) (ccI b).1 (k_wl G (ccI b).2) :=
  met_of (by decide) (Nat.le_of_ble_eq_true rfl) rfl (om_X4_whyNotTakeOff _ _ hx0 σ)
theorem call_X4_whyNotTakeOff {G : KW} {l : Launch} {cc : ByteArray} {nL : Nat} {own : String} {rt : Option FieldType} {R : Room} {α : Type} {X : State → Array Value → Method → Prop} {Z : α → List Frame → Array Value → State → State → Prop} {k0 n0 pc index : Nat} {L : List (Option Value)} {S : List Value} {σ : Sg} {F : Int32 → Sg → Option α} {x0 : Nat} {x1 : Int32} (lk : MLk own index yX4_whyNotTakeOff) (hx0 : k_tw x0) (hR : R.frames ≥ 1 + 1 ∧ R.locals ≥ 8 + (2 + 11) + 21) (hcs : k0 ≤ R.cells ∧ n0 ≤ R.slots) (hro : (S.map fun v => v.category).sum ≤ 8) (d : decode cc pc = .ok (.invokevirtual index, 3)) (kk : ∀ (r : Int32) (σ' : Sg), Okg G l cc nL own rt R X Z k0 n0 (pc + 3) L (.int r :: S) σ' (F r σ')) : Okg G l cc nL own rt R X Z k0 n0 pc L (.int x1 :: k_rr G x0 :: S) σ (e_cI (m_X4_whyNotTakeOff x0 x1 σ) F) :=
  ok_cV (cb := ccI) (As := [.int x1]) (ct_X4_whyNotTakeOff _ _ hx0 σ) mo_X4_whyNotTakeOff hi_X4_whyNotTakeOff lk rfl (ci := 4) rfl rfl (by decide) (isT_kd hx0) hR rfl hcs hro d (fun b => kk b.1 b.2)
/-! CoatDinner$Town.takeOff(I)I -/
def m_X4_takeOff (x0 : Nat) (x1 : Int32) (σ : Sg) : Option (Int32 × Sg) := e_cI (m_X4_whyNotTakeOff x0 x1 σ) (fun r2 σ1 => (if r2 = 0 then e_wr σ1 (x0 + 1) x1 5 ((-1)) (fun σ3 => some (r2, σ3)) else some (r2, σ1)))
theorem om_X4_takeOff {G : KW} {l : Launch} (x0 : Nat) (x1 : Int32) (hx0 : k_tw x0) (σ : Sg) : Okk G l cX4_takeOff 3 RX4 (some .int) (rmo 2 42) ccI 0 [some (k_rr G x0), some (.int x1), none] [] σ (m_X4_takeOff x0 x1 σ) := by
  unfold m_X4_takeOff
  refine ok_aload0 (dq_of td_X4_takeOff 0 rfl) ?_
  refine ok_iload1 (dq_of td_X4_takeOff 1 rfl) ?_
  refine call_X4_whyNotTakeOff ml_X4_104 hx0 ⟨Nat.le_of_ble_eq_true rfl, Nat.le_of_ble_eq_true rfl⟩ ⟨Nat.zero_le _, Nat.zero_le _⟩ (Nat.le_of_ble_eq_true rfl) (dq_of td_X4_takeOff 2 rfl) (fun r2 σ1 => ?_)
  refine ok_istore2 (dq_of td_X4_takeOff 3 rfl) rfl (by decide) ?_
  refine ok_iload2 (dq_of td_X4_takeOff 4 rfl) ?_
  refine ok_if_ne (tgt := 17) (dq_of td_X4_takeOff 5 rfl) (by decide) ?_ ?_
  · refine ok_iload2 (dq_of td_X4_takeOff 11 rfl) ?_
    exact ok_iret (dq_of td_X4_takeOff 12 rfl)
  · refine ok_aload0 (dq_of td_X4_takeOff 6 rfl) ?_
    refine ok_get (v := k_rr G (x0 + 1)) fl_X4_15 (by decide) (isT_kd hx0) rfl (dq_of td_X4_takeOff 7 rfl) ?_
    refine ok_iload1 (dq_of td_X4_takeOff 8 rfl) ?_
    refine ok_iconst (v := (-1)) (dq_of td_X4_takeOff 9 rfl) (by decide) ?_
    refine ok_iast (isT_a1 hx0) (dq_of td_X4_takeOff 10 rfl) (fun σ3 => ?_)
    refine ok_iload2 (dq_of td_X4_takeOff 11 rfl) ?_
    exact ok_iret (dq_of td_X4_takeOff 12 rfl)
theorem ct_X4_takeOff {G : KW} {l : Launch} (x0 : Nat) (x1 : Int32) (hx0 : k_tw x0) (σ : Sg) : ∀ b, m_X4_takeOff x0 x1 σ = some b → MetF G l yX4_takeOff cX4_takeOff 3 (some .int) 2 42 [k_rr G x0, .int x1] (k_wl G σ) (ccI b).1 (k_wl G (ccI b).2) :=
  met_of (by decide) (Nat.le_of_ble_eq_true rfl) rfl (om_X4_takeOff _ _ hx0 σ)
theorem call_X4_takeOff {G : KW} {l : Launch} {cc : ByteArray} {nL : Nat} {own : String} {rt : Option FieldType} {R : Room} {α : Type} {X : State → Array Value → Method → Prop} {Z : α → List Frame → Array Value → State → State → Prop} {k0 n0 pc index : Nat} {L : List (Option Value)} {S : List Value} {σ : Sg} {F : Int32 → Sg → Option α} {x0 : Nat} {x1 : Int32} (lk : MLk own index yX4_takeOff) (hx0 : k_tw x0) (hR : R.frames ≥ 2 + 1 ∧ R.locals ≥ 8 + (3 + 11) + 42) (hcs : k0 ≤ R.cells ∧ n0 ≤ R.slots) (hro : (S.map fun v => v.category).sum ≤ 8) (d : decode cc pc = .ok (.invokevirtual index, 3)) (kk : ∀ (r : Int32) (σ' : Sg), Okg G l cc nL own rt R X Z k0 n0 (pc + 3) L (.int r :: S) σ' (F r σ')) : Okg G l cc nL own rt R X Z k0 n0 pc L (.int x1 :: k_rr G x0 :: S) σ (e_cI (m_X4_takeOff x0 x1 σ) F) :=
  ok_cV (cb := ccI) (As := [.int x1]) (ct_X4_takeOff _ _ hx0 σ) mo_X4_takeOff hi_X4_takeOff lk rfl (ci := 4) rfl rfl (by decide) (isT_kd hx0) hR rfl hcs hro d (fun b => kk b.1 b.2)
/-! CoatDinner$Town.whyNotPutOn(II)I -/
def m_X4_whyNotPutOn (x0 : Nat) (x1 : Int32) (x2 : Int32) (σ : Sg) : Option (Int32 × Sg) := e_cI (m_X4_hasPerson x0 x1 σ) (fun r2 σ1 => (if r2 = 0 then some (1, σ1) else e_gd (k_in x1 5) ((if (σ1 (x0 + 1) (Int32.toNatClampNeg x1)) = ((-1)) then e_cI (m_X4_hasCoat x0 x2 σ1) (fun r4 σ3 => (if r4 = 0 then some (4, σ3) else e_gd (k_in x2 5) ((if (σ3 (x0 + 8) (Int32.toNatClampNeg x2)) = x1 then e_cI (m_X4_wearers x0 x2 σ3) (fun r6 σ5 => e_cI (m_J6_bitCount_0f7a4 r6 σ5) (fun r8 σ7 => e_gd (k_in x2 5) ((if (1 + (σ7 (x0 + 11) (Int32.toNatClampNeg x2))) ≤ r8 then some (5, σ7) else some (0, σ7))))) else some (4, σ3))))) else some (3, σ1)))))
theorem om_X4_whyNotPutOn {G : KW} {l : Launch} (x0 : Nat) (x1 : Int32) (x2 : Int32) (hx0 : k_tw x0) (σ : Sg) : Okk G l cX4_whyNotPutOn 3 RX4 (some .int) (rmo 1 23) ccI 0 [some (k_rr G x0), some (.int x1), some (.int x2)] [] σ (m_X4_whyNotPutOn x0 x1 x2 σ) := by
  unfold m_X4_whyNotPutOn
  refine ok_aload0 (dq_of td_X4_whyNotPutOn 0 rfl) ?_
  refine ok_iload1 (dq_of td_X4_whyNotPutOn 1 rfl) ?_
  refine call_X4_hasPerson ml_X4_68 hx0 ⟨Nat.le_of_ble_eq_true rfl, Nat.le_of_ble_eq_true rfl⟩ ⟨Nat.zero_le _, Nat.zero_le _⟩ (Nat.le_of_ble_eq_true rfl) (dq_of td_X4_whyNotPutOn 2 rfl) (fun r2 σ1 => ?_)
  refine ok_if_ne (tgt := 10) (dq_of td_X4_whyNotPutOn 3 rfl) (by decide) ?_ ?_
  · refine ok_aload0 (dq_of td_X4_whyNotPutOn 6 rfl) ?_
    refine ok_get (v := k_rr G (x0 + 1)) fl_X4_15 (by decide) (isT_kd hx0) rfl (dq_of td_X4_whyNotPutOn 7 rfl) ?_
    refine ok_iload1 (dq_of td_X4_whyNotPutOn 8 rfl) ?_
    refine ok_iald (isT_a1 hx0) (dq_of td_X4_whyNotPutOn 9 rfl) ?_
    refine ok_iconst (v := (-1)) (dq_of td_X4_whyNotPutOn 10 rfl) (by decide) ?_
    refine ok_ic_eq (tgt := 22) (dq_of td_X4_whyNotPutOn 11 rfl) (by decide) ?_ ?_
    · refine ok_aload0 (dq_of td_X4_whyNotPutOn 14 rfl) ?_
      refine ok_iload2 (dq_of td_X4_whyNotPutOn 15 rfl) ?_
      refine call_X4_hasCoat ml_X4_72 hx0 ⟨Nat.le_of_ble_eq_true rfl, Nat.le_of_ble_eq_true rfl⟩ ⟨Nat.zero_le _, Nat.zero_le _⟩ (Nat.le_of_ble_eq_true rfl) (dq_of td_X4_whyNotPutOn 16 rfl) (fun r4 σ3 => ?_)
      refine ok_if_eq (tgt := 40) (dq_of td_X4_whyNotPutOn 17 rfl) (by decide) ?_ ?_
      · refine ok_iconst (v := 4) (dq_of td_X4_whyNotPutOn 24 rfl) (by decide) ?_
        exact ok_iret (dq_of td_X4_whyNotPutOn 25 rfl)
      · refine ok_aload0 (dq_of td_X4_whyNotPutOn 18 rfl) ?_
        refine ok_get (v := k_rr G (x0 + 8)) fl_X4_37 (by decide) (isT_kd hx0) rfl (dq_of td_X4_whyNotPutOn 19 rfl) ?_
        refine ok_iload2 (dq_of td_X4_whyNotPutOn 20 rfl) ?_
        refine ok_iald (isT_a8 hx0) (dq_of td_X4_whyNotPutOn 21 rfl) ?_
        refine ok_iload1 (dq_of td_X4_whyNotPutOn 22 rfl) ?_
        refine ok_ic_eq (tgt := 42) (dq_of td_X4_whyNotPutOn 23 rfl) (by decide) ?_ ?_
        · refine ok_aload0 (dq_of td_X4_whyNotPutOn 26 rfl) ?_
          refine ok_iload2 (dq_of td_X4_whyNotPutOn 27 rfl) ?_
          refine call_X4_wearers ml_X4_79 hx0 ⟨Nat.le_of_ble_eq_true rfl, Nat.le_of_ble_eq_true rfl⟩ ⟨Nat.zero_le _, Nat.zero_le _⟩ (Nat.le_of_ble_eq_true rfl) (dq_of td_X4_whyNotPutOn 28 rfl) (fun r6 σ5 => ?_)
          refine call_J6_bitCount_0f7a4 ml_X4_92  ⟨Nat.le_of_ble_eq_true rfl, Nat.le_of_ble_eq_true rfl⟩ ⟨Nat.zero_le _, Nat.zero_le _⟩ (Nat.le_of_ble_eq_true rfl) (dq_of td_X4_whyNotPutOn 29 rfl) (fun r8 σ7 => ?_)
          refine ok_iconst (v := 1) (dq_of td_X4_whyNotPutOn 30 rfl) (by decide) ?_
          refine ok_aload0 (dq_of td_X4_whyNotPutOn 31 rfl) ?_
          refine ok_get (v := k_rr G (x0 + 11)) fl_X4_46 (by decide) (isT_kd hx0) rfl (dq_of td_X4_whyNotPutOn 32 rfl) ?_
          refine ok_iload2 (dq_of td_X4_whyNotPutOn 33 rfl) ?_
          refine ok_iald (isT_a11 hx0) (dq_of td_X4_whyNotPutOn 34 rfl) ?_
          refine ok_iadd (dq_of td_X4_whyNotPutOn 35 rfl) ?_
          refine ok_ic_ge (tgt := 65) (dq_of td_X4_whyNotPutOn 36 rfl) (by decide) ?_ ?_
          · refine ok_iconst (v := 5) (dq_of td_X4_whyNotPutOn 39 rfl) (by decide) ?_
            exact ok_iret (dq_of td_X4_whyNotPutOn 40 rfl)
          · refine ok_iconst (v := 0) (dq_of td_X4_whyNotPutOn 37 rfl) (by decide) ?_
            refine ok_goto (tgt := 66) (dq_of td_X4_whyNotPutOn 38 rfl) (by decide) ?_
            exact ok_iret (dq_of td_X4_whyNotPutOn 40 rfl)
        · refine ok_iconst (v := 4) (dq_of td_X4_whyNotPutOn 24 rfl) (by decide) ?_
          exact ok_iret (dq_of td_X4_whyNotPutOn 25 rfl)
    · refine ok_iconst (v := 3) (dq_of td_X4_whyNotPutOn 12 rfl) (by decide) ?_
      exact ok_iret (dq_of td_X4_whyNotPutOn 13 rfl)
  · refine ok_iconst (v := 1) (dq_of td_X4_whyNotPutOn 4 rfl) (by decide) ?_
    exact ok_iret (dq_of td_X4_whyNotPutOn 5 rfl)
theorem ct_X4_whyNotPutOn {G : KW} {l : Launch} (x0 : Nat) (x1 : Int32) (x2 : Int32) (hx0 : k_tw x0) (σ : Sg) : ∀ b, m_X4_whyNotPutOn x0 x1 x2 σ = some b → MetF G l yX4_whyNotPutOn cX4_whyNotPutOn 3 (some .int) 1 23 [k_rr G x0, .int x1, .int x2] (k_wl G σ) (ccI b).1 (k_wl G (ccI b).2) :=
  met_of (by decide) (Nat.le_of_ble_eq_true rfl) rfl (om_X4_whyNotPutOn _ _ _ hx0 σ)
theorem call_X4_whyNotPutOn {G : KW} {l : Launch} {cc : ByteArray} {nL : Nat} {own : String} {rt : Option FieldType} {R : Room} {α : Type} {X : State → Array Value → Method → Prop} {Z : α → List Frame → Array Value → State → State → Prop} {k0 n0 pc index : Nat} {L : List (Option Value)} {S : List Value} {σ : Sg} {F : Int32 → Sg → Option α} {x0 : Nat} {x1 : Int32} {x2 : Int32} (lk : MLk own index yX4_whyNotPutOn) (hx0 : k_tw x0) (hR : R.frames ≥ 1 + 1 ∧ R.locals ≥ 8 + (3 + 11) + 23) (hcs : k0 ≤ R.cells ∧ n0 ≤ R.slots) (hro : (S.map fun v => v.category).sum ≤ 8) (d : decode cc pc = .ok (.invokevirtual index, 3)) (kk : ∀ (r : Int32) (σ' : Sg), Okg G l cc nL own rt R X Z k0 n0 (pc + 3) L (.int r :: S) σ' (F r σ')) : Okg G l cc nL own rt R X Z k0 n0 pc L (.int x2 :: .int x1 :: k_rr G x0 :: S) σ (e_cI (m_X4_whyNotPutOn x0 x1 x2 σ) F) :=
  ok_cV (cb := ccI) (As := [.int x1, .int x2]) (ct_X4_whyNotPutOn _ _ _ hx0 σ) mo_X4_whyNotPutOn hi_X4_whyNotPutOn lk rfl (ci := 4) rfl rfl (by decide) (isT_kd hx0) hR rfl hcs hro d (fun b => kk b.1 b.2)
/-! CoatDinner$Town.putOn(II)I -/
def m_X4_putOn (x0 : Nat) (x1 : Int32) (x2 : Int32) (σ : Sg) : Option (Int32 × Sg) := e_cI (m_X4_whyNotPutOn x0 x1 x2 σ) (fun r2 σ1 => (if r2 = 0 then e_wr σ1 (x0 + 1) x1 5 x2 (fun σ3 => some (r2, σ3)) else some (r2, σ1)))
theorem om_X4_putOn {G : KW} {l : Launch} (x0 : Nat) (x1 : Int32) (x2 : Int32) (hx0 : k_tw x0) (σ : Sg) : Okk G l cX4_putOn 4 RX4 (some .int) (rmo 2 45) ccI 0 [some (k_rr G x0), some (.int x1), some (.int x2), none] [] σ (m_X4_putOn x0 x1 x2 σ) := by
  unfold m_X4_putOn
  refine ok_aload0 (dq_of td_X4_putOn 0 rfl) ?_
  refine ok_iload1 (dq_of td_X4_putOn 1 rfl) ?_
  refine ok_iload2 (dq_of td_X4_putOn 2 rfl) ?_
  refine call_X4_whyNotPutOn ml_X4_101 hx0 ⟨Nat.le_of_ble_eq_true rfl, Nat.le_of_ble_eq_true rfl⟩ ⟨Nat.zero_le _, Nat.zero_le _⟩ (Nat.le_of_ble_eq_true rfl) (dq_of td_X4_putOn 3 rfl) (fun r2 σ1 => ?_)
  refine ok_istore3 (dq_of td_X4_putOn 4 rfl) rfl (by decide) ?_
  refine ok_iload3 (dq_of td_X4_putOn 5 rfl) ?_
  refine ok_if_ne (tgt := 18) (dq_of td_X4_putOn 6 rfl) (by decide) ?_ ?_
  · refine ok_iload3 (dq_of td_X4_putOn 12 rfl) ?_
    exact ok_iret (dq_of td_X4_putOn 13 rfl)
  · refine ok_aload0 (dq_of td_X4_putOn 7 rfl) ?_
    refine ok_get (v := k_rr G (x0 + 1)) fl_X4_15 (by decide) (isT_kd hx0) rfl (dq_of td_X4_putOn 8 rfl) ?_
    refine ok_iload1 (dq_of td_X4_putOn 9 rfl) ?_
    refine ok_iload2 (dq_of td_X4_putOn 10 rfl) ?_
    refine ok_iast (isT_a1 hx0) (dq_of td_X4_putOn 11 rfl) (fun σ3 => ?_)
    refine ok_iload3 (dq_of td_X4_putOn 12 rfl) ?_
    exact ok_iret (dq_of td_X4_putOn 13 rfl)
theorem ct_X4_putOn {G : KW} {l : Launch} (x0 : Nat) (x1 : Int32) (x2 : Int32) (hx0 : k_tw x0) (σ : Sg) : ∀ b, m_X4_putOn x0 x1 x2 σ = some b → MetF G l yX4_putOn cX4_putOn 4 (some .int) 2 45 [k_rr G x0, .int x1, .int x2] (k_wl G σ) (ccI b).1 (k_wl G (ccI b).2) :=
  met_of (by decide) (Nat.le_of_ble_eq_true rfl) rfl (om_X4_putOn _ _ _ hx0 σ)
theorem call_X4_putOn {G : KW} {l : Launch} {cc : ByteArray} {nL : Nat} {own : String} {rt : Option FieldType} {R : Room} {α : Type} {X : State → Array Value → Method → Prop} {Z : α → List Frame → Array Value → State → State → Prop} {k0 n0 pc index : Nat} {L : List (Option Value)} {S : List Value} {σ : Sg} {F : Int32 → Sg → Option α} {x0 : Nat} {x1 : Int32} {x2 : Int32} (lk : MLk own index yX4_putOn) (hx0 : k_tw x0) (hR : R.frames ≥ 2 + 1 ∧ R.locals ≥ 8 + (4 + 11) + 45) (hcs : k0 ≤ R.cells ∧ n0 ≤ R.slots) (hro : (S.map fun v => v.category).sum ≤ 8) (d : decode cc pc = .ok (.invokevirtual index, 3)) (kk : ∀ (r : Int32) (σ' : Sg), Okg G l cc nL own rt R X Z k0 n0 (pc + 3) L (.int r :: S) σ' (F r σ')) : Okg G l cc nL own rt R X Z k0 n0 pc L (.int x2 :: .int x1 :: k_rr G x0 :: S) σ (e_cI (m_X4_putOn x0 x1 x2 σ) F) :=
  ok_cV (cb := ccI) (As := [.int x1, .int x2]) (ct_X4_putOn _ _ _ hx0 σ) mo_X4_putOn hi_X4_putOn lk rfl (ci := 4) rfl rfl (by decide) (isT_kd hx0) hR rfl hcs hro d (fun b => kk b.1 b.2)
/-! CoatDinner$Feast.step(LCoatDinner$Town;LCoatDinner$Pad;II)I -/
def m_X0_step (x0 : Nat) (x2 : Int32) (x3 : Int32) (σ : Sg) : Option (Int32 × Sg) := e_cI (m_X1_signAt x2 σ) (fun r2 σ1 => e_lt (r2 - 65) (fun v3 => e_cI (m_X1_signAt ((x2 + x3) - 1) σ1) (fun r5 σ4 => (if x3 = 3 then e_cI (m_X1_signAt (x2 + 1) σ4) (fun r11 σ10 => e_cI (m_X4_lend x0 v3 (r11 - 65) (r5 - 97) σ10) (fun r13 σ12 => some (r13, σ12))) else (if r5 = 45 then e_cI (m_X4_takeOff x0 v3 σ4) (fun r9 σ8 => some (r9, σ8)) else e_cI (m_X4_putOn x0 v3 (r5 - 97) σ4) (fun r7 σ6 => some (r7, σ6)))))))
theorem om_X0_step {G : KW} {l : Launch} (x0 : Nat) (x2 : Int32) (x3 : Int32) (hx0 : k_tw x0) (σ : Sg) : Okk G l cX0_step 6 RX0 (some .int) (rmo 3 68) ccI 0 [some (k_rr G x0), some (k_rr G 58), some (.int x2), some (.int x3), none, none] [] σ (m_X0_step x0 x2 x3 σ) := by
  unfold m_X0_step
  refine ok_aload1 (dq_of td_X0_step 0 rfl) ?_
  refine ok_iload2 (dq_of td_X0_step 1 rfl) ?_
  refine call_X1_signAt ml_X0_31  ⟨Nat.le_of_ble_eq_true rfl, Nat.le_of_ble_eq_true rfl⟩ ⟨Nat.zero_le _, Nat.zero_le _⟩ (Nat.le_of_ble_eq_true rfl) (dq_of td_X0_step 2 rfl) (fun r2 σ1 => ?_)
  refine ok_bipush (v := 65) (dq_of td_X0_step 3 rfl) (by decide) ?_
  refine ok_isub (dq_of td_X0_step 4 rfl) ?_
  refine ok_gI (fun v3 => ?_)
  refine ok_istore4 (dq_of td_X0_step 5 rfl) rfl (by decide) ?_
  refine ok_aload1 (dq_of td_X0_step 6 rfl) ?_
  refine ok_iload2 (dq_of td_X0_step 7 rfl) ?_
  refine ok_iload3 (dq_of td_X0_step 8 rfl) ?_
  refine ok_iadd (dq_of td_X0_step 9 rfl) ?_
  refine ok_iconst (v := 1) (dq_of td_X0_step 10 rfl) (by decide) ?_
  refine ok_isub (dq_of td_X0_step 11 rfl) ?_
  refine call_X1_signAt ml_X0_31  ⟨Nat.le_of_ble_eq_true rfl, Nat.le_of_ble_eq_true rfl⟩ ⟨Nat.zero_le _, Nat.zero_le _⟩ (Nat.le_of_ble_eq_true rfl) (dq_of td_X0_step 12 rfl) (fun r5 σ4 => ?_)
  refine ok_istore5 (dq_of td_X0_step 13 rfl) rfl (by decide) ?_
  refine ok_iload3 (dq_of td_X0_step 14 rfl) ?_
  refine ok_iconst (v := 3) (dq_of td_X0_step 15 rfl) (by decide) ?_
  refine ok_ic_ne (tgt := 48) (dq_of td_X0_step 16 rfl) (by decide) ?_ ?_
  · refine ok_iload5 (dq_of td_X0_step 31 rfl) ?_
    refine ok_bipush (v := 45) (dq_of td_X0_step 32 rfl) (by decide) ?_
    refine ok_ic_ne (tgt := 64) (dq_of td_X0_step 33 rfl) (by decide) ?_ ?_
    · refine ok_aload0 (dq_of td_X0_step 38 rfl) ?_
      refine ok_iload4 (dq_of td_X0_step 39 rfl) ?_
      refine ok_iload5 (dq_of td_X0_step 40 rfl) ?_
      refine ok_bipush (v := 97) (dq_of td_X0_step 41 rfl) (by decide) ?_
      refine ok_isub (dq_of td_X0_step 42 rfl) ?_
      refine call_X4_putOn ml_X0_54 hx0 ⟨Nat.le_of_ble_eq_true rfl, Nat.le_of_ble_eq_true rfl⟩ ⟨Nat.zero_le _, Nat.zero_le _⟩ (Nat.le_of_ble_eq_true rfl) (dq_of td_X0_step 43 rfl) (fun r7 σ6 => ?_)
      exact ok_iret (dq_of td_X0_step 44 rfl)
    · refine ok_aload0 (dq_of td_X0_step 34 rfl) ?_
      refine ok_iload4 (dq_of td_X0_step 35 rfl) ?_
      refine call_X4_takeOff ml_X0_51 hx0 ⟨Nat.le_of_ble_eq_true rfl, Nat.le_of_ble_eq_true rfl⟩ ⟨Nat.zero_le _, Nat.zero_le _⟩ (Nat.le_of_ble_eq_true rfl) (dq_of td_X0_step 36 rfl) (fun r9 σ8 => ?_)
      refine ok_goto (tgt := 75) (dq_of td_X0_step 37 rfl) (by decide) ?_
      exact ok_iret (dq_of td_X0_step 44 rfl)
  · refine ok_aload0 (dq_of td_X0_step 17 rfl) ?_
    refine ok_iload4 (dq_of td_X0_step 18 rfl) ?_
    refine ok_aload1 (dq_of td_X0_step 19 rfl) ?_
    refine ok_iload2 (dq_of td_X0_step 20 rfl) ?_
    refine ok_iconst (v := 1) (dq_of td_X0_step 21 rfl) (by decide) ?_
    refine ok_iadd (dq_of td_X0_step 22 rfl) ?_
    refine call_X1_signAt ml_X0_31  ⟨Nat.le_of_ble_eq_true rfl, Nat.le_of_ble_eq_true rfl⟩ ⟨Nat.zero_le _, Nat.zero_le _⟩ (Nat.le_of_ble_eq_true rfl) (dq_of td_X0_step 23 rfl) (fun r11 σ10 => ?_)
    refine ok_bipush (v := 65) (dq_of td_X0_step 24 rfl) (by decide) ?_
    refine ok_isub (dq_of td_X0_step 25 rfl) ?_
    refine ok_iload5 (dq_of td_X0_step 26 rfl) ?_
    refine ok_bipush (v := 97) (dq_of td_X0_step 27 rfl) (by decide) ?_
    refine ok_isub (dq_of td_X0_step 28 rfl) ?_
    refine call_X4_lend ml_X0_47 hx0 ⟨Nat.le_of_ble_eq_true rfl, Nat.le_of_ble_eq_true rfl⟩ ⟨Nat.zero_le _, Nat.zero_le _⟩ (Nat.le_of_ble_eq_true rfl) (dq_of td_X0_step 29 rfl) (fun r13 σ12 => ?_)
    exact ok_iret (dq_of td_X0_step 30 rfl)
theorem ct_X0_step {G : KW} {l : Launch} (x0 : Nat) (x2 : Int32) (x3 : Int32) (hx0 : k_tw x0) (σ : Sg) : ∀ b, m_X0_step x0 x2 x3 σ = some b → MetF G l yX0_step cX0_step 6 (some .int) 3 68 [k_rr G x0, k_rr G 58, .int x2, .int x3] (k_wl G σ) (ccI b).1 (k_wl G (ccI b).2) :=
  met_of (by decide) (Nat.le_of_ble_eq_true rfl) rfl (om_X0_step _ _ _ hx0 σ)
theorem call_X0_step {G : KW} {l : Launch} {cc : ByteArray} {nL : Nat} {own : String} {rt : Option FieldType} {R : Room} {α : Type} {X : State → Array Value → Method → Prop} {Z : α → List Frame → Array Value → State → State → Prop} {k0 n0 pc index : Nat} {L : List (Option Value)} {S : List Value} {σ : Sg} {F : Int32 → Sg → Option α} {x0 : Nat} {x2 : Int32} {x3 : Int32} (lk : MLk own index yX0_step) (hx0 : k_tw x0) (hR : R.frames ≥ 3 + 1 ∧ R.locals ≥ 8 + (6 + 11) + 68) (hcs : k0 ≤ R.cells ∧ n0 ≤ R.slots) (hro : (S.map fun v => v.category).sum ≤ 8) (d : decode cc pc = .ok (.invokestatic index, 3)) (kk : ∀ (r : Int32) (σ' : Sg), Okg G l cc nL own rt R X Z k0 n0 (pc + 3) L (.int r :: S) σ' (F r σ')) : Okg G l cc nL own rt R X Z k0 n0 pc L (.int x3 :: .int x2 :: k_rr G 58 :: k_rr G x0 :: S) σ (e_cI (m_X0_step x0 x2 x3 σ) F) :=
  ok_cS (cb := ccI) (ct_X0_step _ _ _ hx0 σ) mo_X0_step hi_X0_step lk rfl hR rfl hcs hro d (fun b => kk b.1 b.2)
/-! CoatDinner$Feast.hold(LCoatDinner$Town;LCoatDinner$Pad;)V -/
def b_X0_hold_87 (x1 : Nat) (K : Sg → Option (Sg)) (H : Int32 → Int32 → Sg → Option (Sg)) (x3 : Int32) (x4 : Int32) (x5 : Int32) (σ : Sg) : Option (Sg) := (if (σ 64 2) = 0 then (if 0 < x5 then e_lt (k_up σ 64 1 ((σ 64 1) + 1)) (fun σ12 => e_lt (x3 + x5) (fun v13 => H v13 (x4 + 1) σ12)) else some σ) else some σ)
def d_X0_hold_15 (x1 : Nat) (K : Sg → Option (Sg)) (H : Int32 → Int32 → Sg → Option (Sg)) (x3 : Int32) (x4 : Int32) (σ : Sg) : Option (Sg) := (if 60 ≤ x4 then K σ else (if (σ 58 1) ≤ x3 then K σ else e_cI (m_X1_eventLength x3 σ) (fun r4 σ3 => e_cI (m_X1_signAt x3 σ3) (fun r6 σ5 => (if r6 = 46 then e_cV (m_X4_dine x1 σ5) (fun σ15 => b_X0_hold_87 x1 K H x3 x4 r4 σ15) else e_cI (m_X1_signAt x3 σ5) (fun r8 σ7 => (if r8 = 42 then e_cV (m_X4_fast x1 σ7) (fun σ14 => b_X0_hold_87 x1 K H x3 x4 r4 σ14) else e_cI (m_X0_step x1 x3 r4 σ7) (fun r10 σ9 => e_lt (k_up σ9 64 2 r10) (fun σ11 => b_X0_hold_87 x1 K H x3 x4 r4 σ11)))))))))
theorem ob_X0_hold_87 {G : KW} {l : Launch} (x1 : Nat) (hx1 : k_tw x1) {K : Sg → Option (Sg)} {H : Int32 → Int32 → Sg → Option (Sg)} (hK : ∀  (σ : Sg), Okk G l cX0_hold 6 RX0 none (rmo 4 93) ccV 121 [none, none, none, none, none, none] [] σ (K  σ)) (hH : ∀ (x3 : Int32) (x4 : Int32) (σ : Sg), Okk G l cX0_hold 6 RX0 none (rmo 4 93) ccV 15 [some (k_rr G 64), some (k_rr G x1), some (k_rr G 58), some (.int x3), some (.int x4), none] [] σ (H x3 x4 σ)) (x3 : Int32) (x4 : Int32) (x5 : Int32)  (σ : Sg) : Okk G l cX0_hold 6 RX0 none (rmo 4 93) ccV 87 [some (k_rr G 64), some (k_rr G x1), some (k_rr G 58), some (.int x3), some (.int x4), some (.int x5)] [] σ (b_X0_hold_87 x1 K H x3 x4 x5 σ) := by
  unfold b_X0_hold_87
  refine ok_aload0 (dq_of td_X0_hold 46 rfl) ?_
  refine ok_get (v := .int (σ 64 2)) fl_X0_19 (by decide) ko_64 rfl (dq_of td_X0_hold 47 rfl) ?_
  refine ok_if_ne (tgt := 99) (dq_of td_X0_hold 48 rfl) (by decide) ?_ ?_
  · exact ok_vret (dq_of td_X0_hold 51 rfl)
  · refine ok_iload5 (dq_of td_X0_hold 49 rfl) ?_
    refine ok_if_gt (tgt := 100) (dq_of td_X0_hold 50 rfl) (by decide) ?_ ?_
    · refine ok_aload0 (dq_of td_X0_hold 52 rfl) ?_
      refine ok_dup (dq_of td_X0_hold 53 rfl) rfl ?_
      refine ok_get (v := .int (σ 64 1)) fl_X0_15 (by decide) ko_64 rfl (dq_of td_X0_hold 54 rfl) ?_
      refine ok_iconst (v := 1) (dq_of td_X0_hold 55 rfl) (by decide) ?_
      refine ok_iadd (dq_of td_X0_hold 56 rfl) ?_
      refine put_0_1 fl_X0_15 ko_64 (dq_of td_X0_hold 57 rfl) (fun σ12 => ?_)
      refine ok_iload3 (dq_of td_X0_hold 58 rfl) ?_
      refine ok_iload5 (dq_of td_X0_hold 59 rfl) ?_
      refine ok_iadd (dq_of td_X0_hold 60 rfl) ?_
      refine ok_gI (fun v13 => ?_)
      refine ok_istore3 (dq_of td_X0_hold 61 rfl) rfl (by decide) ?_
      refine ok_jinc4 (w := 1) (dq_of td_X0_hold 62 rfl) (by decide) rfl (by decide) ?_
      refine ok_goto (tgt := 15) (dq_of td_X0_hold 63 rfl) (by decide) ?_
      refine ok_wk (wk_s (wk_s (wk_s (wk_s (wk_s (wk_n wk_0)))))) ?_
      exact hH _ _ _
    · exact ok_vret (dq_of td_X0_hold 51 rfl)
theorem od_X0_hold_15 {G : KW} {l : Launch} (x1 : Nat) (hx1 : k_tw x1) {K : Sg → Option (Sg)} {H : Int32 → Int32 → Sg → Option (Sg)} (hK : ∀  (σ : Sg), Okk G l cX0_hold 6 RX0 none (rmo 4 93) ccV 121 [none, none, none, none, none, none] [] σ (K  σ)) (hH : ∀ (x3 : Int32) (x4 : Int32) (σ : Sg), Okk G l cX0_hold 6 RX0 none (rmo 4 93) ccV 15 [some (k_rr G 64), some (k_rr G x1), some (k_rr G 58), some (.int x3), some (.int x4), none] [] σ (H x3 x4 σ)) (x3 : Int32) (x4 : Int32)  (σ : Sg) : Okk G l cX0_hold 6 RX0 none (rmo 4 93) ccV 15 [some (k_rr G 64), some (k_rr G x1), some (k_rr G 58), some (.int x3), some (.int x4), none] [] σ (d_X0_hold_15 x1 K H x3 x4 σ) := by
  unfold d_X0_hold_15
  refine ok_iload4 (dq_of td_X0_hold 10 rfl) ?_
  refine ok_bipush (v := 60) (dq_of td_X0_hold 11 rfl) (by decide) ?_
  refine ok_ic_ge (tgt := 121) (dq_of td_X0_hold 12 rfl) (by decide) ?_ ?_
  · refine ok_wk (wk_n (wk_n (wk_n (wk_n (wk_n (wk_n wk_0)))))) ?_
    exact hK _
  · refine ok_iload3 (dq_of td_X0_hold 13 rfl) ?_
    refine ok_aload2 (dq_of td_X0_hold 14 rfl) ?_
    refine ok_get (v := .int (σ 58 1)) fl_X0_22 (by decide) ko_58 rfl (dq_of td_X0_hold 15 rfl) ?_
    refine ok_ic_ge (tgt := 121) (dq_of td_X0_hold 16 rfl) (by decide) ?_ ?_
    · refine ok_wk (wk_n (wk_n (wk_n (wk_n (wk_n (wk_n wk_0)))))) ?_
      exact hK _
    · refine ok_aload2 (dq_of td_X0_hold 17 rfl) ?_
      refine ok_iload3 (dq_of td_X0_hold 18 rfl) ?_
      refine call_X1_eventLength ml_X0_27  ⟨Nat.le_of_ble_eq_true rfl, Nat.le_of_ble_eq_true rfl⟩ ⟨Nat.zero_le _, Nat.zero_le _⟩ (Nat.le_of_ble_eq_true rfl) (dq_of td_X0_hold 19 rfl) (fun r4 σ3 => ?_)
      refine ok_istore5 (dq_of td_X0_hold 20 rfl) rfl (by decide) ?_
      refine ok_aload2 (dq_of td_X0_hold 21 rfl) ?_
      refine ok_iload3 (dq_of td_X0_hold 22 rfl) ?_
      refine call_X1_signAt ml_X0_31  ⟨Nat.le_of_ble_eq_true rfl, Nat.le_of_ble_eq_true rfl⟩ ⟨Nat.zero_le _, Nat.zero_le _⟩ (Nat.le_of_ble_eq_true rfl) (dq_of td_X0_hold 23 rfl) (fun r6 σ5 => ?_)
      refine ok_bipush (v := 46) (dq_of td_X0_hold 24 rfl) (by decide) ?_
      refine ok_ic_ne (tgt := 58) (dq_of td_X0_hold 25 rfl) (by decide) ?_ ?_
      · refine ok_aload2 (dq_of td_X0_hold 31 rfl) ?_
        refine ok_iload3 (dq_of td_X0_hold 32 rfl) ?_
        refine call_X1_signAt ml_X0_31  ⟨Nat.le_of_ble_eq_true rfl, Nat.le_of_ble_eq_true rfl⟩ ⟨Nat.zero_le _, Nat.zero_le _⟩ (Nat.le_of_ble_eq_true rfl) (dq_of td_X0_hold 33 rfl) (fun r8 σ7 => ?_)
        refine ok_bipush (v := 42) (dq_of td_X0_hold 34 rfl) (by decide) ?_
        refine ok_ic_ne (tgt := 75) (dq_of td_X0_hold 35 rfl) (by decide) ?_ ?_
        · refine ok_aload0 (dq_of td_X0_hold 39 rfl) ?_
          refine ok_aload1 (dq_of td_X0_hold 40 rfl) ?_
          refine ok_aload2 (dq_of td_X0_hold 41 rfl) ?_
          refine ok_iload3 (dq_of td_X0_hold 42 rfl) ?_
          refine ok_iload5 (dq_of td_X0_hold 43 rfl) ?_
          refine call_X0_step ml_X0_43 hx1 ⟨Nat.le_of_ble_eq_true rfl, Nat.le_of_ble_eq_true rfl⟩ ⟨Nat.zero_le _, Nat.zero_le _⟩ (Nat.le_of_ble_eq_true rfl) (dq_of td_X0_hold 44 rfl) (fun r10 σ9 => ?_)
          refine put_0_2 fl_X0_19 ko_64 (dq_of td_X0_hold 45 rfl) (fun σ11 => ?_)
          refine ok_wk (wk_s (wk_s (wk_s (wk_s (wk_s (wk_s wk_0)))))) ?_
          exact ob_X0_hold_87 _ hx1 hK hH _ _ _  _
        · refine ok_aload1 (dq_of td_X0_hold 36 rfl) ?_
          refine call_X4_fast ml_X0_40 hx1 ⟨Nat.le_of_ble_eq_true rfl, Nat.le_of_ble_eq_true rfl⟩ ⟨Nat.zero_le _, Nat.zero_le _⟩ (Nat.le_of_ble_eq_true rfl) (dq_of td_X0_hold 37 rfl) (fun σ14 => ?_)
          refine ok_goto (tgt := 87) (dq_of td_X0_hold 38 rfl) (by decide) ?_
          refine ok_wk (wk_s (wk_s (wk_s (wk_s (wk_s (wk_s wk_0)))))) ?_
          exact ob_X0_hold_87 _ hx1 hK hH _ _ _  _
      · refine ok_aload1 (dq_of td_X0_hold 26 rfl) ?_
        refine ok_aload0 (dq_of td_X0_hold 27 rfl) ?_
        refine ok_get (v := k_rr G 60) fl_X0_9 (by decide) ko_64 rfl (dq_of td_X0_hold 28 rfl) ?_
        refine call_X4_dine ml_X0_34 hx1 ⟨Nat.le_of_ble_eq_true rfl, Nat.le_of_ble_eq_true rfl⟩ ⟨Nat.zero_le _, Nat.zero_le _⟩ (Nat.le_of_ble_eq_true rfl) (dq_of td_X0_hold 29 rfl) (fun σ15 => ?_)
        refine ok_goto (tgt := 87) (dq_of td_X0_hold 30 rfl) (by decide) ?_
        refine ok_wk (wk_s (wk_s (wk_s (wk_s (wk_s (wk_s wk_0)))))) ?_
        exact ob_X0_hold_87 _ hx1 hK hH _ _ _  _
theorem ld_X0_hold_15 {G : KW} {l : Launch} (x1 : Nat) (hx1 : k_tw x1) {K : Sg → Option (Sg)} (hK : ∀  (σ : Sg), Okk G l cX0_hold 6 RX0 none (rmo 4 93) ccV 121 [none, none, none, none, none, none] [] σ (K  σ)) (n : Nat) (x3 : Int32) (x4 : Int32) (σ : Sg) : Okk G l cX0_hold 6 RX0 none (rmo 4 93) ccV 15 [some (k_rr G 64), some (k_rr G x1), some (k_rr G 58), some (.int x3), some (.int x4), none] [] σ (e_lp2 (d_X0_hold_15 x1 K) n x3 x4 σ) :=
  ok_lp2 (Lf := fun (x3 : Int32) (x4 : Int32) => [some (k_rr G 64), some (k_rr G x1), some (k_rr G 58), some (.int x3), some (.int x4), none]) (fun _ hH x3 x4 σ => od_X0_hold_15 _ hx1 hK hH x3 x4 σ) n x3 x4 σ
def m_X0_hold (x1 : Nat) (σ : Sg) : Option (Sg) := e_lt (k_up σ 64 1 0) (fun σ1 => e_lt (k_up σ1 64 2 0) (fun σ2 => e_lp2 (d_X0_hold_15 x1 (fun σ16 => some σ16)) e_F 0 0 σ2))
theorem om_X0_hold {G : KW} {l : Launch} (x1 : Nat) (hx1 : k_tw x1) (σ : Sg) : Okk G l cX0_hold 6 RX0 none (rmo 4 93) ccV 0 [some (k_rr G 64), some (k_rr G x1), some (k_rr G 58), none, none, none] [] σ (m_X0_hold x1 σ) := by
  unfold m_X0_hold
  refine ok_aload0 (dq_of td_X0_hold 0 rfl) ?_
  refine ok_iconst (v := 0) (dq_of td_X0_hold 1 rfl) (by decide) ?_
  refine put_0_1 fl_X0_15 ko_64 (dq_of td_X0_hold 2 rfl) (fun σ1 => ?_)
  refine ok_aload0 (dq_of td_X0_hold 3 rfl) ?_
  refine ok_iconst (v := 0) (dq_of td_X0_hold 4 rfl) (by decide) ?_
  refine put_0_2 fl_X0_19 ko_64 (dq_of td_X0_hold 5 rfl) (fun σ2 => ?_)
  refine ok_iconst (v := 0) (dq_of td_X0_hold 6 rfl) (by decide) ?_
  refine ok_istore3 (dq_of td_X0_hold 7 rfl) rfl (by decide) ?_
  refine ok_iconst (v := 0) (dq_of td_X0_hold 8 rfl) (by decide) ?_
  refine ok_istore4 (dq_of td_X0_hold 9 rfl) rfl (by decide) ?_
  refine ok_wk (wk_s (wk_s (wk_s (wk_s (wk_s (wk_n wk_0)))))) ?_
  refine ld_X0_hold_15 _ hx1 (fun σ16 => ?_) _ _ _ _
  exact ok_vret (dq_of td_X0_hold 64 rfl)
theorem ct_X0_hold {G : KW} {l : Launch} (x1 : Nat) (hx1 : k_tw x1) (σ : Sg) : ∀ b, m_X0_hold x1 σ = some b → MetF G l yX0_hold cX0_hold 6 none 4 93 [k_rr G 64, k_rr G x1, k_rr G 58] (k_wl G σ) (ccV b).1 (k_wl G (ccV b).2) :=
  met_of (by decide) (Nat.le_of_ble_eq_true rfl) rfl (om_X0_hold _ hx1 σ)
theorem call_X0_hold {G : KW} {l : Launch} {cc : ByteArray} {nL : Nat} {own : String} {rt : Option FieldType} {R : Room} {α : Type} {X : State → Array Value → Method → Prop} {Z : α → List Frame → Array Value → State → State → Prop} {k0 n0 pc index : Nat} {L : List (Option Value)} {S : List Value} {σ : Sg} {F : Sg → Option α} {x1 : Nat} (lk : MLk own index yX0_hold) (hx1 : k_tw x1) (hR : R.frames ≥ 4 + 1 ∧ R.locals ≥ 8 + (6 + 11) + 93) (hcs : k0 ≤ R.cells ∧ n0 ≤ R.slots) (hro : (S.map fun v => v.category).sum ≤ 8) (d : decode cc pc = .ok (.invokevirtual index, 3)) (kk : ∀ σ' : Sg, Okg G l cc nL own rt R X Z k0 n0 (pc + 3) L S σ' (F σ')) : Okg G l cc nL own rt R X Z k0 n0 pc L (k_rr G 58 :: k_rr G x1 :: k_rr G 64 :: S) σ (e_cV (m_X0_hold x1 σ) F) :=
  ok_cV (cb := ccV) (As := [k_rr G x1, k_rr G 58]) (ct_X0_hold _ hx1 σ) mo_X0_hold hi_X0_hold lk rfl (ci := 0) rfl rfl (by decide) ko_64 hR rfl hcs hro d (fun b => kk b)
/-! CoatDinner$Pad.add(I)Z -/
def m_X1_add (x1 : Int32) (σ : Sg) : Option (Int32 × Sg) := e_cI (m_X6_within (σ 58 1) 59 σ) (fun r2 σ1 => (if r2 = 0 then e_rz 0 σ1 else e_wr σ1 59 (σ1 58 1) 60 x1 (fun σ3 => e_lt (k_up σ3 58 1 ((σ3 58 1) + 1)) (fun σ4 => e_rz 1 σ4))))
theorem om_X1_add {G : KW} {l : Launch} (x1 : Int32)  (σ : Sg) : Okk G l cX1_add 2 RX1 (some .boolean) (rmo 1 21) ccI 0 [some (k_rr G 58), some (.int x1)] [] σ (m_X1_add x1 σ) := by
  unfold m_X1_add
  refine ok_aload0 (dq_of td_X1_add 0 rfl) ?_
  refine ok_get (v := .int (σ 58 1)) fl_X1_15 (by decide) ko_58 rfl (dq_of td_X1_add 1 rfl) ?_
  refine ok_bipush (v := 59) (dq_of td_X1_add 2 rfl) (by decide) ?_
  refine call_X6_within ml_X1_19  ⟨Nat.le_of_ble_eq_true rfl, Nat.le_of_ble_eq_true rfl⟩ ⟨Nat.zero_le _, Nat.zero_le _⟩ (Nat.le_of_ble_eq_true rfl) (dq_of td_X1_add 3 rfl) (fun r2 σ1 => ?_)
  refine ok_if_ne (tgt := 14) (dq_of td_X1_add 4 rfl) (by decide) ?_ ?_
  · refine ok_aload0 (dq_of td_X1_add 7 rfl) ?_
    refine ok_get (v := k_rr G 59) fl_X1_9 (by decide) ko_58 rfl (dq_of td_X1_add 8 rfl) ?_
    refine ok_aload0 (dq_of td_X1_add 9 rfl) ?_
    refine ok_get (v := .int (σ1 58 1)) fl_X1_15 (by decide) ko_58 rfl (dq_of td_X1_add 10 rfl) ?_
    refine ok_iload1 (dq_of td_X1_add 11 rfl) ?_
    refine ok_iast ka_59 (dq_of td_X1_add 12 rfl) (fun σ3 => ?_)
    refine ok_aload0 (dq_of td_X1_add 13 rfl) ?_
    refine ok_dup (dq_of td_X1_add 14 rfl) rfl ?_
    refine ok_get (v := .int (σ3 58 1)) fl_X1_15 (by decide) ko_58 rfl (dq_of td_X1_add 15 rfl) ?_
    refine ok_iconst (v := 1) (dq_of td_X1_add 16 rfl) (by decide) ?_
    refine ok_iadd (dq_of td_X1_add 17 rfl) ?_
    refine put_1_1 fl_X1_15 ko_58 (dq_of td_X1_add 18 rfl) (fun σ4 => ?_)
    refine ok_iconst (v := 1) (dq_of td_X1_add 19 rfl) (by decide) ?_
    exact ok_zret (dq_of td_X1_add 20 rfl)
  · refine ok_iconst (v := 0) (dq_of td_X1_add 5 rfl) (by decide) ?_
    exact ok_zret (dq_of td_X1_add 6 rfl)
theorem ct_X1_add {G : KW} {l : Launch} (x1 : Int32)  (σ : Sg) : ∀ b, m_X1_add x1 σ = some b → MetF G l yX1_add cX1_add 2 (some .boolean) 1 21 [k_rr G 58, .int x1] (k_wl G σ) (ccI b).1 (k_wl G (ccI b).2) :=
  met_of (by decide) (Nat.le_of_ble_eq_true rfl) rfl (om_X1_add _  σ)
theorem call_X1_add {G : KW} {l : Launch} {cc : ByteArray} {nL : Nat} {own : String} {rt : Option FieldType} {R : Room} {α : Type} {X : State → Array Value → Method → Prop} {Z : α → List Frame → Array Value → State → State → Prop} {k0 n0 pc index : Nat} {L : List (Option Value)} {S : List Value} {σ : Sg} {F : Int32 → Sg → Option α} {x1 : Int32} (lk : MLk own index yX1_add)  (hR : R.frames ≥ 1 + 1 ∧ R.locals ≥ 8 + (2 + 11) + 21) (hcs : k0 ≤ R.cells ∧ n0 ≤ R.slots) (hro : (S.map fun v => v.category).sum ≤ 8) (d : decode cc pc = .ok (.invokevirtual index, 3)) (kk : ∀ (r : Int32) (σ' : Sg), Okg G l cc nL own rt R X Z k0 n0 (pc + 3) L (.int r :: S) σ' (F r σ')) : Okg G l cc nL own rt R X Z k0 n0 pc L (.int x1 :: k_rr G 58 :: S) σ (e_cI (m_X1_add x1 σ) F) :=
  ok_cV (cb := ccI) (As := [.int x1]) (ct_X1_add _  σ) mo_X1_add hi_X1_add lk rfl (ci := 1) rfl rfl (by decide) ko_58 hR rfl hcs hro d (fun b => kk b.1 b.2)
/-! CoatDinner$Pad.clear()I -/
def m_X1_clear  (σ : Sg) : Option (Int32 × Sg) := e_lt (σ 58 1) (fun v1 => e_lt (k_up σ 58 1 0) (fun σ2 => some (v1, σ2)))
theorem om_X1_clear {G : KW} {l : Launch}   (σ : Sg) : Okk G l cX1_clear 2 RX1 (some .int) (rmo 0 0) ccI 0 [some (k_rr G 58), none] [] σ (m_X1_clear  σ) := by
  unfold m_X1_clear
  refine ok_aload0 (dq_of td_X1_clear 0 rfl) ?_
  refine ok_get (v := .int (σ 58 1)) fl_X1_15 (by decide) ko_58 rfl (dq_of td_X1_clear 1 rfl) ?_
  refine ok_gI (fun v1 => ?_)
  refine ok_istore1 (dq_of td_X1_clear 2 rfl) rfl (by decide) ?_
  refine ok_aload0 (dq_of td_X1_clear 3 rfl) ?_
  refine ok_iconst (v := 0) (dq_of td_X1_clear 4 rfl) (by decide) ?_
  refine put_1_1 fl_X1_15 ko_58 (dq_of td_X1_clear 5 rfl) (fun σ2 => ?_)
  refine ok_iload1 (dq_of td_X1_clear 6 rfl) ?_
  exact ok_iret (dq_of td_X1_clear 7 rfl)
theorem ct_X1_clear {G : KW} {l : Launch}   (σ : Sg) : ∀ b, m_X1_clear  σ = some b → MetF G l yX1_clear cX1_clear 2 (some .int) 0 0 [k_rr G 58] (k_wl G σ) (ccI b).1 (k_wl G (ccI b).2) :=
  met_of (by decide) (Nat.le_of_ble_eq_true rfl) rfl (om_X1_clear   σ)
theorem call_X1_clear {G : KW} {l : Launch} {cc : ByteArray} {nL : Nat} {own : String} {rt : Option FieldType} {R : Room} {α : Type} {X : State → Array Value → Method → Prop} {Z : α → List Frame → Array Value → State → State → Prop} {k0 n0 pc index : Nat} {L : List (Option Value)} {S : List Value} {σ : Sg} {F : Int32 → Sg → Option α}  (lk : MLk own index yX1_clear)  (hR : R.frames ≥ 0 + 1 ∧ R.locals ≥ 8 + (2 + 11) + 0) (hcs : k0 ≤ R.cells ∧ n0 ≤ R.slots) (hro : (S.map fun v => v.category).sum ≤ 8) (d : decode cc pc = .ok (.invokevirtual index, 3)) (kk : ∀ (r : Int32) (σ' : Sg), Okg G l cc nL own rt R X Z k0 n0 (pc + 3) L (.int r :: S) σ' (F r σ')) : Okg G l cc nL own rt R X Z k0 n0 pc L (k_rr G 58 :: S) σ (e_cI (m_X1_clear  σ) F) :=
  ok_cV (cb := ccI) (As := []) (ct_X1_clear   σ) mo_X1_clear hi_X1_clear lk rfl (ci := 1) rfl rfl (by decide) ko_58 hR rfl hcs hro d (fun b => kk b.1 b.2)
/-! CoatDinner$Pad.firstFault()I -/
def d_X1_firstFault_4  (K : Sg → Option (Int32 × Sg)) (H : Int32 → Int32 → Sg → Option (Int32 × Sg)) (x1 : Int32) (x2 : Int32) (σ : Sg) : Option (Int32 × Sg) := (if 60 ≤ x2 then K σ else (if (σ 58 1) ≤ x1 then K σ else e_cI (m_X1_eventLength x1 σ) (fun r2 σ1 => (if 0 < r2 then e_lt (x1 + r2) (fun v3 => H v3 (x2 + 1) σ1) else some (x1 - r2, σ1)))))
theorem od_X1_firstFault_4 {G : KW} {l : Launch}   {K : Sg → Option (Int32 × Sg)} {H : Int32 → Int32 → Sg → Option (Int32 × Sg)} (hK : ∀  (σ : Sg), Okk G l cX1_firstFault 4 RX1 (some .int) (rmo 3 65) ccI 42 [none, none, none, none] [] σ (K  σ)) (hH : ∀ (x1 : Int32) (x2 : Int32) (σ : Sg), Okk G l cX1_firstFault 4 RX1 (some .int) (rmo 3 65) ccI 4 [some (k_rr G 58), some (.int x1), some (.int x2), none] [] σ (H x1 x2 σ)) (x1 : Int32) (x2 : Int32)  (σ : Sg) : Okk G l cX1_firstFault 4 RX1 (some .int) (rmo 3 65) ccI 4 [some (k_rr G 58), some (.int x1), some (.int x2), none] [] σ (d_X1_firstFault_4  K H x1 x2 σ) := by
  unfold d_X1_firstFault_4
  refine ok_iload2 (dq_of td_X1_firstFault 4 rfl) ?_
  refine ok_bipush (v := 60) (dq_of td_X1_firstFault 5 rfl) (by decide) ?_
  refine ok_ic_ge (tgt := 42) (dq_of td_X1_firstFault 6 rfl) (by decide) ?_ ?_
  · refine ok_wk (wk_n (wk_n (wk_n (wk_n wk_0)))) ?_
    exact hK _
  · refine ok_iload1 (dq_of td_X1_firstFault 7 rfl) ?_
    refine ok_aload0 (dq_of td_X1_firstFault 8 rfl) ?_
    refine ok_get (v := .int (σ 58 1)) fl_X1_15 (by decide) ko_58 rfl (dq_of td_X1_firstFault 9 rfl) ?_
    refine ok_ic_ge (tgt := 42) (dq_of td_X1_firstFault 10 rfl) (by decide) ?_ ?_
    · refine ok_wk (wk_n (wk_n (wk_n (wk_n wk_0)))) ?_
      exact hK _
    · refine ok_aload0 (dq_of td_X1_firstFault 11 rfl) ?_
      refine ok_iload1 (dq_of td_X1_firstFault 12 rfl) ?_
      refine call_X1_eventLength ml_X1_23  ⟨Nat.le_of_ble_eq_true rfl, Nat.le_of_ble_eq_true rfl⟩ ⟨Nat.zero_le _, Nat.zero_le _⟩ (Nat.le_of_ble_eq_true rfl) (dq_of td_X1_firstFault 13 rfl) (fun r2 σ1 => ?_)
      refine ok_istore3 (dq_of td_X1_firstFault 14 rfl) rfl (by decide) ?_
      refine ok_iload3 (dq_of td_X1_firstFault 15 rfl) ?_
      refine ok_if_gt (tgt := 32) (dq_of td_X1_firstFault 16 rfl) (by decide) ?_ ?_
      · refine ok_iload1 (dq_of td_X1_firstFault 21 rfl) ?_
        refine ok_iload3 (dq_of td_X1_firstFault 22 rfl) ?_
        refine ok_iadd (dq_of td_X1_firstFault 23 rfl) ?_
        refine ok_gI (fun v3 => ?_)
        refine ok_istore1 (dq_of td_X1_firstFault 24 rfl) rfl (by decide) ?_
        refine ok_jinc2 (w := 1) (dq_of td_X1_firstFault 25 rfl) (by decide) rfl (by decide) ?_
        refine ok_goto (tgt := 4) (dq_of td_X1_firstFault 26 rfl) (by decide) ?_
        refine ok_wk (wk_s (wk_s (wk_s (wk_n wk_0)))) ?_
        exact hH _ _ _
      · refine ok_iload1 (dq_of td_X1_firstFault 17 rfl) ?_
        refine ok_iload3 (dq_of td_X1_firstFault 18 rfl) ?_
        refine ok_isub (dq_of td_X1_firstFault 19 rfl) ?_
        exact ok_iret (dq_of td_X1_firstFault 20 rfl)
theorem ld_X1_firstFault_4 {G : KW} {l : Launch}   {K : Sg → Option (Int32 × Sg)} (hK : ∀  (σ : Sg), Okk G l cX1_firstFault 4 RX1 (some .int) (rmo 3 65) ccI 42 [none, none, none, none] [] σ (K  σ)) (n : Nat) (x1 : Int32) (x2 : Int32) (σ : Sg) : Okk G l cX1_firstFault 4 RX1 (some .int) (rmo 3 65) ccI 4 [some (k_rr G 58), some (.int x1), some (.int x2), none] [] σ (e_lp2 (d_X1_firstFault_4  K) n x1 x2 σ) :=
  ok_lp2 (Lf := fun (x1 : Int32) (x2 : Int32) => [some (k_rr G 58), some (.int x1), some (.int x2), none]) (fun _ hH x1 x2 σ => od_X1_firstFault_4   hK hH x1 x2 σ) n x1 x2 σ
def m_X1_firstFault  (σ : Sg) : Option (Int32 × Sg) := e_lp2 (d_X1_firstFault_4  (fun σ4 => some ((-6), σ4))) e_F 0 0 σ
theorem om_X1_firstFault {G : KW} {l : Launch}   (σ : Sg) : Okk G l cX1_firstFault 4 RX1 (some .int) (rmo 3 65) ccI 0 [some (k_rr G 58), none, none, none] [] σ (m_X1_firstFault  σ) := by
  unfold m_X1_firstFault
  refine ok_iconst (v := 0) (dq_of td_X1_firstFault 0 rfl) (by decide) ?_
  refine ok_istore1 (dq_of td_X1_firstFault 1 rfl) rfl (by decide) ?_
  refine ok_iconst (v := 0) (dq_of td_X1_firstFault 2 rfl) (by decide) ?_
  refine ok_istore2 (dq_of td_X1_firstFault 3 rfl) rfl (by decide) ?_
  refine ok_wk (wk_s (wk_s (wk_s (wk_n wk_0)))) ?_
  refine ld_X1_firstFault_4   (fun σ4 => ?_) _ _ _ _
  refine ok_bipush (v := (-6)) (dq_of td_X1_firstFault 27 rfl) (by decide) ?_
  exact ok_iret (dq_of td_X1_firstFault 28 rfl)
theorem ct_X1_firstFault {G : KW} {l : Launch}   (σ : Sg) : ∀ b, m_X1_firstFault  σ = some b → MetF G l yX1_firstFault cX1_firstFault 4 (some .int) 3 65 [k_rr G 58] (k_wl G σ) (ccI b).1 (k_wl G (ccI b).2) :=
  met_of (by decide) (Nat.le_of_ble_eq_true rfl) rfl (om_X1_firstFault   σ)
theorem call_X1_firstFault {G : KW} {l : Launch} {cc : ByteArray} {nL : Nat} {own : String} {rt : Option FieldType} {R : Room} {α : Type} {X : State → Array Value → Method → Prop} {Z : α → List Frame → Array Value → State → State → Prop} {k0 n0 pc index : Nat} {L : List (Option Value)} {S : List Value} {σ : Sg} {F : Int32 → Sg → Option α}  (lk : MLk own index yX1_firstFault)  (hR : R.frames ≥ 3 + 1 ∧ R.locals ≥ 8 + (4 + 11) + 65) (hcs : k0 ≤ R.cells ∧ n0 ≤ R.slots) (hro : (S.map fun v => v.category).sum ≤ 8) (d : decode cc pc = .ok (.invokevirtual index, 3)) (kk : ∀ (r : Int32) (σ' : Sg), Okg G l cc nL own rt R X Z k0 n0 (pc + 3) L (.int r :: S) σ' (F r σ')) : Okg G l cc nL own rt R X Z k0 n0 pc L (k_rr G 58 :: S) σ (e_cI (m_X1_firstFault  σ) F) :=
  ok_cV (cb := ccI) (As := []) (ct_X1_firstFault   σ) mo_X1_firstFault hi_X1_firstFault lk rfl (ci := 1) rfl rfl (by decide) ko_58 hR rfl hcs hro d (fun b => kk b.1 b.2)
/-! CoatDinner$Town.become(LCoatDinner$Town;)V -/
def d_X4_become_34 (x0 : Nat) (x1 : Nat) (K : Sg → Option (Sg)) (H : Int32 → Sg → Option (Sg)) (x2 : Int32) (σ : Sg) : Option (Sg) := (if 5 ≤ x2 then K σ else e_gd (k_in x2 5) (e_wr σ (x0 + 1) x2 5 (σ (x1 + 1) (Int32.toNatClampNeg x2)) (fun σ5 => e_gd (k_in x2 5) (e_wr σ5 (x0 + 2) x2 5 (σ5 (x1 + 2) (Int32.toNatClampNeg x2)) (fun σ6 => e_gd (k_in x2 5) (e_wr σ6 (x0 + 3) x2 5 (σ6 (x1 + 3) (Int32.toNatClampNeg x2)) (fun σ7 => e_gd (k_in x2 5) (e_wr σ7 (x0 + 4) x2 5 (σ7 (x1 + 4) (Int32.toNatClampNeg x2)) (fun σ8 => e_gd (k_in x2 5) (e_wr σ8 (x0 + 5) x2 5 (σ8 (x1 + 5) (Int32.toNatClampNeg x2)) (fun σ9 => e_gd (k_in x2 5) (e_wr σ9 (x0 + 6) x2 5 (σ9 (x1 + 6) (Int32.toNatClampNeg x2)) (fun σ10 => H (x2 + 1) σ10)))))))))))))
def d_X4_become_119 (x0 : Nat) (x1 : Nat) (K : Sg → Option (Sg)) (H : Int32 → Sg → Option (Sg)) (x2 : Int32) (σ : Sg) : Option (Sg) := (if 5 ≤ x2 then K σ else e_gd (k_in x2 5) (e_wr σ (x0 + 7) x2 5 (σ (x1 + 7) (Int32.toNatClampNeg x2)) (fun σ12 => e_gd (k_in x2 5) (e_wr σ12 (x0 + 8) x2 5 (σ12 (x1 + 8) (Int32.toNatClampNeg x2)) (fun σ13 => e_gd (k_in x2 5) (e_wr σ13 (x0 + 9) x2 5 (σ13 (x1 + 9) (Int32.toNatClampNeg x2)) (fun σ14 => e_gd (k_in x2 5) (e_wr σ14 (x0 + 10) x2 5 (σ14 (x1 + 10) (Int32.toNatClampNeg x2)) (fun σ15 => e_gd (k_in x2 5) (e_wr σ15 (x0 + 11) x2 5 (σ15 (x1 + 11) (Int32.toNatClampNeg x2)) (fun σ16 => H (x2 + 1) σ16)))))))))))
def d_X4_become_192 (x0 : Nat) (x1 : Nat) (K : Sg → Option (Sg)) (H : Int32 → Sg → Option (Sg)) (x2 : Int32) (σ : Sg) : Option (Sg) := (if 6 ≤ x2 then K σ else e_gd (k_in x2 6) (e_wr σ (x0 + 12) x2 6 (σ (x1 + 12) (Int32.toNatClampNeg x2)) (fun σ18 => e_gd (k_in x2 6) (e_wr σ18 (x0 + 13) x2 6 (σ18 (x1 + 13) (Int32.toNatClampNeg x2)) (fun σ19 => H (x2 + 1) σ19)))))
theorem od_X4_become_34 {G : KW} {l : Launch} (x0 : Nat) (x1 : Nat) (hx0 : k_tw x0) (hx1 : k_tw x1) {K : Sg → Option (Sg)} {H : Int32 → Sg → Option (Sg)} (hK : ∀  (σ : Sg), Okk G l cX4_become 3 RX4 none (rmo 0 0) ccV 117 [some (k_rr G x0), some (k_rr G x1), none] [] σ (K  σ)) (hH : ∀ (x2 : Int32) (σ : Sg), Okk G l cX4_become 3 RX4 none (rmo 0 0) ccV 34 [some (k_rr G x0), some (k_rr G x1), some (.int x2)] [] σ (H x2 σ)) (x2 : Int32)  (σ : Sg) : Okk G l cX4_become 3 RX4 none (rmo 0 0) ccV 34 [some (k_rr G x0), some (k_rr G x1), some (.int x2)] [] σ (d_X4_become_34 x0 x1 K H x2 σ) := by
  unfold d_X4_become_34
  refine ok_iload2 (dq_of td_X4_become 18 rfl) ?_
  refine ok_iconst (v := 5) (dq_of td_X4_become 19 rfl) (by decide) ?_
  refine ok_ic_ge (tgt := 117) (dq_of td_X4_become 20 rfl) (by decide) ?_ ?_
  · refine ok_wk (wk_s (wk_s (wk_n wk_0))) ?_
    exact hK _
  · refine ok_aload0 (dq_of td_X4_become 21 rfl) ?_
    refine ok_get (v := k_rr G (x0 + 1)) fl_X4_15 (by decide) (isT_kd hx0) rfl (dq_of td_X4_become 22 rfl) ?_
    refine ok_iload2 (dq_of td_X4_become 23 rfl) ?_
    refine ok_aload1 (dq_of td_X4_become 24 rfl) ?_
    refine ok_get (v := k_rr G (x1 + 1)) fl_X4_15 (by decide) (isT_kd hx1) rfl (dq_of td_X4_become 25 rfl) ?_
    refine ok_iload2 (dq_of td_X4_become 26 rfl) ?_
    refine ok_iald (isT_a1 hx1) (dq_of td_X4_become 27 rfl) ?_
    refine ok_iast (isT_a1 hx0) (dq_of td_X4_become 28 rfl) (fun σ5 => ?_)
    refine ok_aload0 (dq_of td_X4_become 29 rfl) ?_
    refine ok_get (v := k_rr G (x0 + 2)) fl_X4_19 (by decide) (isT_kd hx0) rfl (dq_of td_X4_become 30 rfl) ?_
    refine ok_iload2 (dq_of td_X4_become 31 rfl) ?_
    refine ok_aload1 (dq_of td_X4_become 32 rfl) ?_
    refine ok_get (v := k_rr G (x1 + 2)) fl_X4_19 (by decide) (isT_kd hx1) rfl (dq_of td_X4_become 33 rfl) ?_
    refine ok_iload2 (dq_of td_X4_become 34 rfl) ?_
    refine ok_iald (isT_a2 hx1) (dq_of td_X4_become 35 rfl) ?_
    refine ok_iast (isT_a2 hx0) (dq_of td_X4_become 36 rfl) (fun σ6 => ?_)
    refine ok_aload0 (dq_of td_X4_become 37 rfl) ?_
    refine ok_get (v := k_rr G (x0 + 3)) fl_X4_22 (by decide) (isT_kd hx0) rfl (dq_of td_X4_become 38 rfl) ?_
    refine ok_iload2 (dq_of td_X4_become 39 rfl) ?_
    refine ok_aload1 (dq_of td_X4_become 40 rfl) ?_
    refine ok_get (v := k_rr G (x1 + 3)) fl_X4_22 (by decide) (isT_kd hx1) rfl (dq_of td_X4_become 41 rfl) ?_
    refine ok_iload2 (dq_of td_X4_become 42 rfl) ?_
    refine ok_iald (isT_a3 hx1) (dq_of td_X4_become 43 rfl) ?_
    refine ok_iast (isT_a3 hx0) (dq_of td_X4_become 44 rfl) (fun σ7 => ?_)
    refine ok_aload0 (dq_of td_X4_become 45 rfl) ?_
    refine ok_get (v := k_rr G (x0 + 4)) fl_X4_25 (by decide) (isT_kd hx0) rfl (dq_of td_X4_become 46 rfl) ?_
    refine ok_iload2 (dq_of td_X4_become 47 rfl) ?_
    refine ok_aload1 (dq_of td_X4_become 48 rfl) ?_
    refine ok_get (v := k_rr G (x1 + 4)) fl_X4_25 (by decide) (isT_kd hx1) rfl (dq_of td_X4_become 49 rfl) ?_
    refine ok_iload2 (dq_of td_X4_become 50 rfl) ?_
    refine ok_iald (isT_a4 hx1) (dq_of td_X4_become 51 rfl) ?_
    refine ok_iast (isT_a4 hx0) (dq_of td_X4_become 52 rfl) (fun σ8 => ?_)
    refine ok_aload0 (dq_of td_X4_become 53 rfl) ?_
    refine ok_get (v := k_rr G (x0 + 5)) fl_X4_28 (by decide) (isT_kd hx0) rfl (dq_of td_X4_become 54 rfl) ?_
    refine ok_iload2 (dq_of td_X4_become 55 rfl) ?_
    refine ok_aload1 (dq_of td_X4_become 56 rfl) ?_
    refine ok_get (v := k_rr G (x1 + 5)) fl_X4_28 (by decide) (isT_kd hx1) rfl (dq_of td_X4_become 57 rfl) ?_
    refine ok_iload2 (dq_of td_X4_become 58 rfl) ?_
    refine ok_iald (isT_a5 hx1) (dq_of td_X4_become 59 rfl) ?_
    refine ok_iast (isT_a5 hx0) (dq_of td_X4_become 60 rfl) (fun σ9 => ?_)
    refine ok_aload0 (dq_of td_X4_become 61 rfl) ?_
    refine ok_get (v := k_rr G (x0 + 6)) fl_X4_31 (by decide) (isT_kd hx0) rfl (dq_of td_X4_become 62 rfl) ?_
    refine ok_iload2 (dq_of td_X4_become 63 rfl) ?_
    refine ok_aload1 (dq_of td_X4_become 64 rfl) ?_
    refine ok_get (v := k_rr G (x1 + 6)) fl_X4_31 (by decide) (isT_kd hx1) rfl (dq_of td_X4_become 65 rfl) ?_
    refine ok_iload2 (dq_of td_X4_become 66 rfl) ?_
    refine ok_iald (isT_a6 hx1) (dq_of td_X4_become 67 rfl) ?_
    refine ok_iast (isT_a6 hx0) (dq_of td_X4_become 68 rfl) (fun σ10 => ?_)
    refine ok_jinc2 (w := 1) (dq_of td_X4_become 69 rfl) (by decide) rfl (by decide) ?_
    refine ok_goto (tgt := 34) (dq_of td_X4_become 70 rfl) (by decide) ?_
    refine ok_wk (wk_s (wk_s (wk_s wk_0))) ?_
    exact hH _ _
theorem ld_X4_become_34 {G : KW} {l : Launch} (x0 : Nat) (x1 : Nat) (hx0 : k_tw x0) (hx1 : k_tw x1) {K : Sg → Option (Sg)} (hK : ∀  (σ : Sg), Okk G l cX4_become 3 RX4 none (rmo 0 0) ccV 117 [some (k_rr G x0), some (k_rr G x1), none] [] σ (K  σ)) (n : Nat) (x2 : Int32) (σ : Sg) : Okk G l cX4_become 3 RX4 none (rmo 0 0) ccV 34 [some (k_rr G x0), some (k_rr G x1), some (.int x2)] [] σ (e_lp1 (d_X4_become_34 x0 x1 K) n x2 σ) :=
  ok_lp1 (Lf := fun (x2 : Int32) => [some (k_rr G x0), some (k_rr G x1), some (.int x2)]) (fun _ hH x2 σ => od_X4_become_34 _ _ hx0 hx1 hK hH x2 σ) n x2 σ
theorem od_X4_become_119 {G : KW} {l : Launch} (x0 : Nat) (x1 : Nat) (hx0 : k_tw x0) (hx1 : k_tw x1) {K : Sg → Option (Sg)} {H : Int32 → Sg → Option (Sg)} (hK : ∀  (σ : Sg), Okk G l cX4_become 3 RX4 none (rmo 0 0) ccV 190 [some (k_rr G x0), some (k_rr G x1), none] [] σ (K  σ)) (hH : ∀ (x2 : Int32) (σ : Sg), Okk G l cX4_become 3 RX4 none (rmo 0 0) ccV 119 [some (k_rr G x0), some (k_rr G x1), some (.int x2)] [] σ (H x2 σ)) (x2 : Int32)  (σ : Sg) : Okk G l cX4_become 3 RX4 none (rmo 0 0) ccV 119 [some (k_rr G x0), some (k_rr G x1), some (.int x2)] [] σ (d_X4_become_119 x0 x1 K H x2 σ) := by
  unfold d_X4_become_119
  refine ok_iload2 (dq_of td_X4_become 73 rfl) ?_
  refine ok_iconst (v := 5) (dq_of td_X4_become 74 rfl) (by decide) ?_
  refine ok_ic_ge (tgt := 190) (dq_of td_X4_become 75 rfl) (by decide) ?_ ?_
  · refine ok_wk (wk_s (wk_s (wk_n wk_0))) ?_
    exact hK _
  · refine ok_aload0 (dq_of td_X4_become 76 rfl) ?_
    refine ok_get (v := k_rr G (x0 + 7)) fl_X4_34 (by decide) (isT_kd hx0) rfl (dq_of td_X4_become 77 rfl) ?_
    refine ok_iload2 (dq_of td_X4_become 78 rfl) ?_
    refine ok_aload1 (dq_of td_X4_become 79 rfl) ?_
    refine ok_get (v := k_rr G (x1 + 7)) fl_X4_34 (by decide) (isT_kd hx1) rfl (dq_of td_X4_become 80 rfl) ?_
    refine ok_iload2 (dq_of td_X4_become 81 rfl) ?_
    refine ok_iald (isT_a7 hx1) (dq_of td_X4_become 82 rfl) ?_
    refine ok_iast (isT_a7 hx0) (dq_of td_X4_become 83 rfl) (fun σ12 => ?_)
    refine ok_aload0 (dq_of td_X4_become 84 rfl) ?_
    refine ok_get (v := k_rr G (x0 + 8)) fl_X4_37 (by decide) (isT_kd hx0) rfl (dq_of td_X4_become 85 rfl) ?_
    refine ok_iload2 (dq_of td_X4_become 86 rfl) ?_
    refine ok_aload1 (dq_of td_X4_become 87 rfl) ?_
    refine ok_get (v := k_rr G (x1 + 8)) fl_X4_37 (by decide) (isT_kd hx1) rfl (dq_of td_X4_become 88 rfl) ?_
    refine ok_iload2 (dq_of td_X4_become 89 rfl) ?_
    refine ok_iald (isT_a8 hx1) (dq_of td_X4_become 90 rfl) ?_
    refine ok_iast (isT_a8 hx0) (dq_of td_X4_become 91 rfl) (fun σ13 => ?_)
    refine ok_aload0 (dq_of td_X4_become 92 rfl) ?_
    refine ok_get (v := k_rr G (x0 + 9)) fl_X4_40 (by decide) (isT_kd hx0) rfl (dq_of td_X4_become 93 rfl) ?_
    refine ok_iload2 (dq_of td_X4_become 94 rfl) ?_
    refine ok_aload1 (dq_of td_X4_become 95 rfl) ?_
    refine ok_get (v := k_rr G (x1 + 9)) fl_X4_40 (by decide) (isT_kd hx1) rfl (dq_of td_X4_become 96 rfl) ?_
    refine ok_iload2 (dq_of td_X4_become 97 rfl) ?_
    refine ok_iald (isT_a9 hx1) (dq_of td_X4_become 98 rfl) ?_
    refine ok_iast (isT_a9 hx0) (dq_of td_X4_become 99 rfl) (fun σ14 => ?_)
    refine ok_aload0 (dq_of td_X4_become 100 rfl) ?_
    refine ok_get (v := k_rr G (x0 + 10)) fl_X4_43 (by decide) (isT_kd hx0) rfl (dq_of td_X4_become 101 rfl) ?_
    refine ok_iload2 (dq_of td_X4_become 102 rfl) ?_
    refine ok_aload1 (dq_of td_X4_become 103 rfl) ?_
    refine ok_get (v := k_rr G (x1 + 10)) fl_X4_43 (by decide) (isT_kd hx1) rfl (dq_of td_X4_become 104 rfl) ?_
    refine ok_iload2 (dq_of td_X4_become 105 rfl) ?_
    refine ok_iald (isT_a10 hx1) (dq_of td_X4_become 106 rfl) ?_
    refine ok_iast (isT_a10 hx0) (dq_of td_X4_become 107 rfl) (fun σ15 => ?_)
    refine ok_aload0 (dq_of td_X4_become 108 rfl) ?_
    refine ok_get (v := k_rr G (x0 + 11)) fl_X4_46 (by decide) (isT_kd hx0) rfl (dq_of td_X4_become 109 rfl) ?_
    refine ok_iload2 (dq_of td_X4_become 110 rfl) ?_
    refine ok_aload1 (dq_of td_X4_become 111 rfl) ?_
    refine ok_get (v := k_rr G (x1 + 11)) fl_X4_46 (by decide) (isT_kd hx1) rfl (dq_of td_X4_become 112 rfl) ?_
    refine ok_iload2 (dq_of td_X4_become 113 rfl) ?_
    refine ok_iald (isT_a11 hx1) (dq_of td_X4_become 114 rfl) ?_
    refine ok_iast (isT_a11 hx0) (dq_of td_X4_become 115 rfl) (fun σ16 => ?_)
    refine ok_jinc2 (w := 1) (dq_of td_X4_become 116 rfl) (by decide) rfl (by decide) ?_
    refine ok_goto (tgt := 119) (dq_of td_X4_become 117 rfl) (by decide) ?_
    refine ok_wk (wk_s (wk_s (wk_s wk_0))) ?_
    exact hH _ _
theorem ld_X4_become_119 {G : KW} {l : Launch} (x0 : Nat) (x1 : Nat) (hx0 : k_tw x0) (hx1 : k_tw x1) {K : Sg → Option (Sg)} (hK : ∀  (σ : Sg), Okk G l cX4_become 3 RX4 none (rmo 0 0) ccV 190 [some (k_rr G x0), some (k_rr G x1), none] [] σ (K  σ)) (n : Nat) (x2 : Int32) (σ : Sg) : Okk G l cX4_become 3 RX4 none (rmo 0 0) ccV 119 [some (k_rr G x0), some (k_rr G x1), some (.int x2)] [] σ (e_lp1 (d_X4_become_119 x0 x1 K) n x2 σ) :=
  ok_lp1 (Lf := fun (x2 : Int32) => [some (k_rr G x0), some (k_rr G x1), some (.int x2)]) (fun _ hH x2 σ => od_X4_become_119 _ _ hx0 hx1 hK hH x2 σ) n x2 σ
theorem od_X4_become_192 {G : KW} {l : Launch} (x0 : Nat) (x1 : Nat) (hx0 : k_tw x0) (hx1 : k_tw x1) {K : Sg → Option (Sg)} {H : Int32 → Sg → Option (Sg)} (hK : ∀  (σ : Sg), Okk G l cX4_become 3 RX4 none (rmo 0 0) ccV 228 [none, none, none] [] σ (K  σ)) (hH : ∀ (x2 : Int32) (σ : Sg), Okk G l cX4_become 3 RX4 none (rmo 0 0) ccV 192 [some (k_rr G x0), some (k_rr G x1), some (.int x2)] [] σ (H x2 σ)) (x2 : Int32)  (σ : Sg) : Okk G l cX4_become 3 RX4 none (rmo 0 0) ccV 192 [some (k_rr G x0), some (k_rr G x1), some (.int x2)] [] σ (d_X4_become_192 x0 x1 K H x2 σ) := by
  unfold d_X4_become_192
  refine ok_iload2 (dq_of td_X4_become 120 rfl) ?_
  refine ok_bipush (v := 6) (dq_of td_X4_become 121 rfl) (by decide) ?_
  refine ok_ic_ge (tgt := 228) (dq_of td_X4_become 122 rfl) (by decide) ?_ ?_
  · refine ok_wk (wk_n (wk_n (wk_n wk_0))) ?_
    exact hK _
  · refine ok_aload0 (dq_of td_X4_become 123 rfl) ?_
    refine ok_get (v := k_rr G (x0 + 12)) fl_X4_49 (by decide) (isT_kd hx0) rfl (dq_of td_X4_become 124 rfl) ?_
    refine ok_iload2 (dq_of td_X4_become 125 rfl) ?_
    refine ok_aload1 (dq_of td_X4_become 126 rfl) ?_
    refine ok_get (v := k_rr G (x1 + 12)) fl_X4_49 (by decide) (isT_kd hx1) rfl (dq_of td_X4_become 127 rfl) ?_
    refine ok_iload2 (dq_of td_X4_become 128 rfl) ?_
    refine ok_iald (isT_a12 hx1) (dq_of td_X4_become 129 rfl) ?_
    refine ok_iast (isT_a12 hx0) (dq_of td_X4_become 130 rfl) (fun σ18 => ?_)
    refine ok_aload0 (dq_of td_X4_become 131 rfl) ?_
    refine ok_get (v := k_rr G (x0 + 13)) fl_X4_52 (by decide) (isT_kd hx0) rfl (dq_of td_X4_become 132 rfl) ?_
    refine ok_iload2 (dq_of td_X4_become 133 rfl) ?_
    refine ok_aload1 (dq_of td_X4_become 134 rfl) ?_
    refine ok_get (v := k_rr G (x1 + 13)) fl_X4_52 (by decide) (isT_kd hx1) rfl (dq_of td_X4_become 135 rfl) ?_
    refine ok_iload2 (dq_of td_X4_become 136 rfl) ?_
    refine ok_iald (isT_a13 hx1) (dq_of td_X4_become 137 rfl) ?_
    refine ok_iast (isT_a13 hx0) (dq_of td_X4_become 138 rfl) (fun σ19 => ?_)
    refine ok_jinc2 (w := 1) (dq_of td_X4_become 139 rfl) (by decide) rfl (by decide) ?_
    refine ok_goto (tgt := 192) (dq_of td_X4_become 140 rfl) (by decide) ?_
    refine ok_wk (wk_s (wk_s (wk_s wk_0))) ?_
    exact hH _ _
theorem ld_X4_become_192 {G : KW} {l : Launch} (x0 : Nat) (x1 : Nat) (hx0 : k_tw x0) (hx1 : k_tw x1) {K : Sg → Option (Sg)} (hK : ∀  (σ : Sg), Okk G l cX4_become 3 RX4 none (rmo 0 0) ccV 228 [none, none, none] [] σ (K  σ)) (n : Nat) (x2 : Int32) (σ : Sg) : Okk G l cX4_become 3 RX4 none (rmo 0 0) ccV 192 [some (k_rr G x0), some (k_rr G x1), some (.int x2)] [] σ (e_lp1 (d_X4_become_192 x0 x1 K) n x2 σ) :=
  ok_lp1 (Lf := fun (x2 : Int32) => [some (k_rr G x0), some (k_rr G x1), some (.int x2)]) (fun _ hH x2 σ => od_X4_become_192 _ _ hx0 hx1 hK hH x2 σ) n x2 σ
def m_X4_become (x0 : Nat) (x1 : Nat) (σ : Sg) : Option (Sg) := e_lt (k_up σ x0 0 (σ x1 0)) (fun σ1 => e_lt (k_up σ1 x0 1 (σ1 x1 1)) (fun σ2 => e_lt (k_up σ2 x0 2 (σ2 x1 2)) (fun σ3 => e_lt (k_up σ3 x0 3 (σ3 x1 3)) (fun σ4 => e_lp1 (d_X4_become_34 x0 x1 (fun σ11 => e_lp1 (d_X4_become_119 x0 x1 (fun σ17 => e_lp1 (d_X4_become_192 x0 x1 (fun σ20 => some σ20)) e_F 0 σ17)) e_F 0 σ11)) e_F 0 σ4))))
theorem om_X4_become {G : KW} {l : Launch} (x0 : Nat) (x1 : Nat) (hx0 : k_tw x0) (hx1 : k_tw x1) (σ : Sg) : Okk G l cX4_become 3 RX4 none (rmo 0 0) ccV 0 [some (k_rr G x0), some (k_rr G x1), none] [] σ (m_X4_become x0 x1 σ) := by
  unfold m_X4_become
  refine ok_aload0 (dq_of td_X4_become 0 rfl) ?_
  refine ok_aload1 (dq_of td_X4_become 1 rfl) ?_
  refine ok_get (v := .int (σ x1 0)) fl_X4_55 (by decide) (isT_kd hx1) rfl (dq_of td_X4_become 2 rfl) ?_
  refine put_4_0 fl_X4_55 (isT_kd hx0) (dq_of td_X4_become 3 rfl) (fun σ1 => ?_)
  refine ok_aload0 (dq_of td_X4_become 4 rfl) ?_
  refine ok_aload1 (dq_of td_X4_become 5 rfl) ?_
  refine ok_get (v := .int (σ1 x1 1)) fl_X4_58 (by decide) (isT_kd hx1) rfl (dq_of td_X4_become 6 rfl) ?_
  refine put_4_1 fl_X4_58 (isT_kd hx0) (dq_of td_X4_become 7 rfl) (fun σ2 => ?_)
  refine ok_aload0 (dq_of td_X4_become 8 rfl) ?_
  refine ok_aload1 (dq_of td_X4_become 9 rfl) ?_
  refine ok_get (v := .int (σ2 x1 2)) fl_X4_9 (by decide) (isT_kd hx1) rfl (dq_of td_X4_become 10 rfl) ?_
  refine put_4_2 fl_X4_9 (isT_kd hx0) (dq_of td_X4_become 11 rfl) (fun σ3 => ?_)
  refine ok_aload0 (dq_of td_X4_become 12 rfl) ?_
  refine ok_aload1 (dq_of td_X4_become 13 rfl) ?_
  refine ok_get (v := .int (σ3 x1 3)) fl_X4_61 (by decide) (isT_kd hx1) rfl (dq_of td_X4_become 14 rfl) ?_
  refine put_4_3 fl_X4_61 (isT_kd hx0) (dq_of td_X4_become 15 rfl) (fun σ4 => ?_)
  refine ok_iconst (v := 0) (dq_of td_X4_become 16 rfl) (by decide) ?_
  refine ok_istore2 (dq_of td_X4_become 17 rfl) rfl (by decide) ?_
  refine ok_wk (wk_s (wk_s (wk_s wk_0))) ?_
  refine ld_X4_become_34 _ _ hx0 hx1 (fun σ11 => ?_) _ _ _
  refine ok_iconst (v := 0) (dq_of td_X4_become 71 rfl) (by decide) ?_
  refine ok_istore2 (dq_of td_X4_become 72 rfl) rfl (by decide) ?_
  refine ok_wk (wk_s (wk_s (wk_s wk_0))) ?_
  refine ld_X4_become_119 _ _ hx0 hx1 (fun σ17 => ?_) _ _ _
  refine ok_iconst (v := 0) (dq_of td_X4_become 118 rfl) (by decide) ?_
  refine ok_istore2 (dq_of td_X4_become 119 rfl) rfl (by decide) ?_
  refine ok_wk (wk_s (wk_s (wk_s wk_0))) ?_
  refine ld_X4_become_192 _ _ hx0 hx1 (fun σ20 => ?_) _ _ _
  exact ok_vret (dq_of td_X4_become 141 rfl)
theorem ct_X4_become {G : KW} {l : Launch} (x0 : Nat) (x1 : Nat) (hx0 : k_tw x0) (hx1 : k_tw x1) (σ : Sg) : ∀ b, m_X4_become x0 x1 σ = some b → MetF G l yX4_become cX4_become 3 none 0 0 [k_rr G x0, k_rr G x1] (k_wl G σ) (ccV b).1 (k_wl G (ccV b).2) :=
  met_of (by decide) (Nat.le_of_ble_eq_true rfl) rfl (om_X4_become _ _ hx0 hx1 σ)
theorem call_X4_become {G : KW} {l : Launch} {cc : ByteArray} {nL : Nat} {own : String} {rt : Option FieldType} {R : Room} {α : Type} {X : State → Array Value → Method → Prop} {Z : α → List Frame → Array Value → State → State → Prop} {k0 n0 pc index : Nat} {L : List (Option Value)} {S : List Value} {σ : Sg} {F : Sg → Option α} {x0 : Nat} {x1 : Nat} (lk : MLk own index yX4_become) (hx0 : k_tw x0) (hx1 : k_tw x1) (hR : R.frames ≥ 0 + 1 ∧ R.locals ≥ 8 + (3 + 11) + 0) (hcs : k0 ≤ R.cells ∧ n0 ≤ R.slots) (hro : (S.map fun v => v.category).sum ≤ 8) (d : decode cc pc = .ok (.invokevirtual index, 3)) (kk : ∀ σ' : Sg, Okg G l cc nL own rt R X Z k0 n0 (pc + 3) L S σ' (F σ')) : Okg G l cc nL own rt R X Z k0 n0 pc L (k_rr G x1 :: k_rr G x0 :: S) σ (e_cV (m_X4_become x0 x1 σ) F) :=
  ok_cV (cb := ccV) (As := [k_rr G x1]) (ct_X4_become _ _ hx0 hx1 σ) mo_X4_become hi_X4_become lk rfl (ci := 4) rfl rfl (by decide) (isT_kd hx0) hR rfl hcs hro d (fun b => kk b)
/-! CoatDinner$Steps.wayNumber()I -/
def d_X2_wayNumber_4  (K : Int32 → Sg → Option (Int32 × Sg)) (H : Int32 → Int32 → Sg → Option (Int32 × Sg)) (x1 : Int32) (x2 : Int32) (σ : Sg) : Option (Int32 × Sg) := (if 5 ≤ x2 then K x1 σ else e_gd (k_in x2 5) (e_gd (k_in x2 5) (e_lt (x1 + ((1 + (σ 84 (Int32.toNatClampNeg x2))) * (stv 0 (Int32.toNatClampNeg x2)))) (fun v1 => H v1 (x2 + 1) σ))))
theorem od_X2_wayNumber_4 {G : KW} {l : Launch}   {K : Int32 → Sg → Option (Int32 × Sg)} {H : Int32 → Int32 → Sg → Option (Int32 × Sg)} (hK : ∀ (x1 : Int32) (σ : Sg), Okk G l cX2_wayNumber 3 RX2 (some .int) (rmo 0 0) ccI 35 [none, some (.int x1), none] [] σ (K x1 σ)) (hH : ∀ (x1 : Int32) (x2 : Int32) (σ : Sg), Okk G l cX2_wayNumber 3 RX2 (some .int) (rmo 0 0) ccI 4 [some (k_rr G 82), some (.int x1), some (.int x2)] [] σ (H x1 x2 σ)) (x1 : Int32) (x2 : Int32)  (σ : Sg) : Okk G l cX2_wayNumber 3 RX2 (some .int) (rmo 0 0) ccI 4 [some (k_rr G 82), some (.int x1), some (.int x2)] [] σ (d_X2_wayNumber_4  K H x1 x2 σ) := by
  unfold d_X2_wayNumber_4
  refine ok_iload2 (dq_of td_X2_wayNumber 4 rfl) ?_
  refine ok_iconst (v := 5) (dq_of td_X2_wayNumber 5 rfl) (by decide) ?_
  refine ok_ic_ge (tgt := 35) (dq_of td_X2_wayNumber 6 rfl) (by decide) ?_ ?_
  · refine ok_wk (wk_n (wk_s (wk_n wk_0))) ?_
    exact hK _ _
  · refine ok_iload1 (dq_of td_X2_wayNumber 7 rfl) ?_
    refine ok_iconst (v := 1) (dq_of td_X2_wayNumber 8 rfl) (by decide) ?_
    refine ok_aload0 (dq_of td_X2_wayNumber 9 rfl) ?_
    refine ok_get (v := k_rr G 83) fl_X2_12 (by decide) ko_82 rfl (dq_of td_X2_wayNumber 10 rfl) ?_
    refine ok_get (v := k_rr G 84) fl_X2_93 (by decide) (isT_kd tw_83) rfl (dq_of td_X2_wayNumber 11 rfl) ?_
    refine ok_iload2 (dq_of td_X2_wayNumber 12 rfl) ?_
    refine ok_iald ka_84 (dq_of td_X2_wayNumber 13 rfl) ?_
    refine ok_iadd (dq_of td_X2_wayNumber 14 rfl) ?_
    refine ok_gets (t := 0) (by decide) sl_X2_96 (dq_of td_X2_wayNumber 15 rfl) ?_
    refine ok_iload2 (dq_of td_X2_wayNumber 16 rfl) ?_
    refine ok_sald (by decide) rfl (dq_of td_X2_wayNumber 17 rfl) ?_
    refine ok_imul (dq_of td_X2_wayNumber 18 rfl) ?_
    refine ok_iadd (dq_of td_X2_wayNumber 19 rfl) ?_
    refine ok_gI (fun v1 => ?_)
    refine ok_istore1 (dq_of td_X2_wayNumber 20 rfl) rfl (by decide) ?_
    refine ok_jinc2 (w := 1) (dq_of td_X2_wayNumber 21 rfl) (by decide) rfl (by decide) ?_
    refine ok_goto (tgt := 4) (dq_of td_X2_wayNumber 22 rfl) (by decide) ?_
    refine ok_wk (wk_s (wk_s (wk_s wk_0))) ?_
    exact hH _ _ _
theorem ld_X2_wayNumber_4 {G : KW} {l : Launch}   {K : Int32 → Sg → Option (Int32 × Sg)} (hK : ∀ (x1 : Int32) (σ : Sg), Okk G l cX2_wayNumber 3 RX2 (some .int) (rmo 0 0) ccI 35 [none, some (.int x1), none] [] σ (K x1 σ)) (n : Nat) (x1 : Int32) (x2 : Int32) (σ : Sg) : Okk G l cX2_wayNumber 3 RX2 (some .int) (rmo 0 0) ccI 4 [some (k_rr G 82), some (.int x1), some (.int x2)] [] σ (e_lp2 (d_X2_wayNumber_4  K) n x1 x2 σ) :=
  ok_lp2 (Lf := fun (x1 : Int32) (x2 : Int32) => [some (k_rr G 82), some (.int x1), some (.int x2)]) (fun _ hH x1 x2 σ => od_X2_wayNumber_4   hK hH x1 x2 σ) n x1 x2 σ
def m_X2_wayNumber  (σ : Sg) : Option (Int32 × Sg) := e_lp2 (d_X2_wayNumber_4  (fun x1q2 σ2 => some (x1q2, σ2))) e_F 0 0 σ
theorem om_X2_wayNumber {G : KW} {l : Launch}   (σ : Sg) : Okk G l cX2_wayNumber 3 RX2 (some .int) (rmo 0 0) ccI 0 [some (k_rr G 82), none, none] [] σ (m_X2_wayNumber  σ) := by
  unfold m_X2_wayNumber
  refine ok_iconst (v := 0) (dq_of td_X2_wayNumber 0 rfl) (by decide) ?_
  refine ok_istore1 (dq_of td_X2_wayNumber 1 rfl) rfl (by decide) ?_
  refine ok_iconst (v := 0) (dq_of td_X2_wayNumber 2 rfl) (by decide) ?_
  refine ok_istore2 (dq_of td_X2_wayNumber 3 rfl) rfl (by decide) ?_
  refine ok_wk (wk_s (wk_s (wk_s wk_0))) ?_
  refine ld_X2_wayNumber_4   (fun x1q2 σ2 => ?_) _ _ _ _
  refine ok_iload1 (dq_of td_X2_wayNumber 23 rfl) ?_
  exact ok_iret (dq_of td_X2_wayNumber 24 rfl)
theorem ct_X2_wayNumber {G : KW} {l : Launch}   (σ : Sg) : ∀ b, m_X2_wayNumber  σ = some b → MetF G l yX2_wayNumber cX2_wayNumber 3 (some .int) 0 0 [k_rr G 82] (k_wl G σ) (ccI b).1 (k_wl G (ccI b).2) :=
  met_of (by decide) (Nat.le_of_ble_eq_true rfl) rfl (om_X2_wayNumber   σ)
theorem call_X2_wayNumber {G : KW} {l : Launch} {cc : ByteArray} {nL : Nat} {own : String} {rt : Option FieldType} {R : Room} {α : Type} {X : State → Array Value → Method → Prop} {Z : α → List Frame → Array Value → State → State → Prop} {k0 n0 pc index : Nat} {L : List (Option Value)} {S : List Value} {σ : Sg} {F : Int32 → Sg → Option α}  (lk : MLk own index yX2_wayNumber)  (hR : R.frames ≥ 0 + 1 ∧ R.locals ≥ 8 + (3 + 11) + 0) (hcs : k0 ≤ R.cells ∧ n0 ≤ R.slots) (hro : (S.map fun v => v.category).sum ≤ 8) (d : decode cc pc = .ok (.invokevirtual index, 3)) (kk : ∀ (r : Int32) (σ' : Sg), Okg G l cc nL own rt R X Z k0 n0 (pc + 3) L (.int r :: S) σ' (F r σ')) : Okg G l cc nL own rt R X Z k0 n0 pc L (k_rr G 82 :: S) σ (e_cI (m_X2_wayNumber  σ) F) :=
  ok_cV (cb := ccI) (As := []) (ct_X2_wayNumber   σ) mo_X2_wayNumber hi_X2_wayNumber lk rfl (ci := 2) rfl rfl (by decide) ko_82 hR rfl hcs hro d (fun b => kk b.1 b.2)
/-! CoatDinner$Steps.reach(I)V -/
def m_X2_reach (x1 : Int32) (σ : Sg) : Option (Sg) := e_lt (x1 / 32) (fun v1 => e_lt (jsl 1 (jrm x1 32)) (fun v2 => e_cI (m_X6_within x1 7775 σ) (fun r4 σ3 => (if r4 = 0 then some σ3 else e_cI (m_X6_within v1 242 σ3) (fun r6 σ5 => (if r6 = 0 then some σ5 else e_gd (k_in v1 243) ((if ((σ5 97 (Int32.toNatClampNeg v1)) &&& v2) = 0 then e_gd (k_in v1 243) (e_wr σ5 97 v1 243 ((σ5 97 (Int32.toNatClampNeg v1)) ||| v2) (fun σ7 => e_gd (k_in v1 243) (e_wr σ7 99 v1 243 ((σ7 99 (Int32.toNatClampNeg v1)) ||| v2) (fun σ8 => some σ8)))) else some σ5))))))))
theorem om_X2_reach {G : KW} {l : Launch} (x1 : Int32)  (σ : Sg) : Okk G l cX2_reach 4 RX2 none (rmo 1 21) ccV 0 [some (k_rr G 82), some (.int x1), none, none] [] σ (m_X2_reach x1 σ) := by
  unfold m_X2_reach
  refine ok_iload1 (dq_of td_X2_reach 0 rfl) ?_
  refine ok_bipush (v := 32) (dq_of td_X2_reach 1 rfl) (by decide) ?_
  refine ok_idiv (dq_of td_X2_reach 2 rfl) (by decide) ?_
  refine ok_gI (fun v1 => ?_)
  refine ok_istore2 (dq_of td_X2_reach 3 rfl) rfl (by decide) ?_
  refine ok_iconst (v := 1) (dq_of td_X2_reach 4 rfl) (by decide) ?_
  refine ok_iload1 (dq_of td_X2_reach 5 rfl) ?_
  refine ok_bipush (v := 32) (dq_of td_X2_reach 6 rfl) (by decide) ?_
  refine ok_irem (dq_of td_X2_reach 7 rfl) (by decide) ?_
  refine ok_ishl (dq_of td_X2_reach 8 rfl) ?_
  refine ok_gI (fun v2 => ?_)
  refine ok_istore3 (dq_of td_X2_reach 9 rfl) rfl (by decide) ?_
  refine ok_iload1 (dq_of td_X2_reach 10 rfl) ?_
  refine ok_sipush (v := 7775) (dq_of td_X2_reach 11 rfl) (by decide) ?_
  refine call_X6_within ml_X2_59  ⟨Nat.le_of_ble_eq_true rfl, Nat.le_of_ble_eq_true rfl⟩ ⟨Nat.zero_le _, Nat.zero_le _⟩ (Nat.le_of_ble_eq_true rfl) (dq_of td_X2_reach 12 rfl) (fun r4 σ3 => ?_)
  refine ok_if_eq (tgt := 63) (dq_of td_X2_reach 13 rfl) (by decide) ?_ ?_
  · exact ok_vret (dq_of td_X2_reach 41 rfl)
  · refine ok_iload2 (dq_of td_X2_reach 14 rfl) ?_
    refine ok_sipush (v := 242) (dq_of td_X2_reach 15 rfl) (by decide) ?_
    refine call_X6_within ml_X2_59  ⟨Nat.le_of_ble_eq_true rfl, Nat.le_of_ble_eq_true rfl⟩ ⟨Nat.zero_le _, Nat.zero_le _⟩ (Nat.le_of_ble_eq_true rfl) (dq_of td_X2_reach 16 rfl) (fun r6 σ5 => ?_)
    refine ok_if_eq (tgt := 63) (dq_of td_X2_reach 17 rfl) (by decide) ?_ ?_
    · exact ok_vret (dq_of td_X2_reach 41 rfl)
    · refine ok_aload0 (dq_of td_X2_reach 18 rfl) ?_
      refine ok_get (v := k_rr G 97) fl_X2_18 (by decide) ko_82 rfl (dq_of td_X2_reach 19 rfl) ?_
      refine ok_iload2 (dq_of td_X2_reach 20 rfl) ?_
      refine ok_iald ka_97 (dq_of td_X2_reach 21 rfl) ?_
      refine ok_iload3 (dq_of td_X2_reach 22 rfl) ?_
      refine ok_iand (dq_of td_X2_reach 23 rfl) ?_
      refine ok_if_ne (tgt := 63) (dq_of td_X2_reach 24 rfl) (by decide) ?_ ?_
      · exact ok_vret (dq_of td_X2_reach 41 rfl)
      · refine ok_aload0 (dq_of td_X2_reach 25 rfl) ?_
        refine ok_get (v := k_rr G 97) fl_X2_18 (by decide) ko_82 rfl (dq_of td_X2_reach 26 rfl) ?_
        refine ok_iload2 (dq_of td_X2_reach 27 rfl) ?_
        refine ok_dup2 (dq_of td_X2_reach 28 rfl) rfl rfl ?_
        refine ok_iald ka_97 (dq_of td_X2_reach 29 rfl) ?_
        refine ok_iload3 (dq_of td_X2_reach 30 rfl) ?_
        refine ok_ior (dq_of td_X2_reach 31 rfl) ?_
        refine ok_iast ka_97 (dq_of td_X2_reach 32 rfl) (fun σ7 => ?_)
        refine ok_aload0 (dq_of td_X2_reach 33 rfl) ?_
        refine ok_get (v := k_rr G 99) fl_X2_25 (by decide) ko_82 rfl (dq_of td_X2_reach 34 rfl) ?_
        refine ok_iload2 (dq_of td_X2_reach 35 rfl) ?_
        refine ok_dup2 (dq_of td_X2_reach 36 rfl) rfl rfl ?_
        refine ok_iald ka_99 (dq_of td_X2_reach 37 rfl) ?_
        refine ok_iload3 (dq_of td_X2_reach 38 rfl) ?_
        refine ok_ior (dq_of td_X2_reach 39 rfl) ?_
        refine ok_iast ka_99 (dq_of td_X2_reach 40 rfl) (fun σ8 => ?_)
        exact ok_vret (dq_of td_X2_reach 41 rfl)
theorem ct_X2_reach {G : KW} {l : Launch} (x1 : Int32)  (σ : Sg) : ∀ b, m_X2_reach x1 σ = some b → MetF G l yX2_reach cX2_reach 4 none 1 21 [k_rr G 82, .int x1] (k_wl G σ) (ccV b).1 (k_wl G (ccV b).2) :=
  met_of (by decide) (Nat.le_of_ble_eq_true rfl) rfl (om_X2_reach _  σ)
theorem call_X2_reach {G : KW} {l : Launch} {cc : ByteArray} {nL : Nat} {own : String} {rt : Option FieldType} {R : Room} {α : Type} {X : State → Array Value → Method → Prop} {Z : α → List Frame → Array Value → State → State → Prop} {k0 n0 pc index : Nat} {L : List (Option Value)} {S : List Value} {σ : Sg} {F : Sg → Option α} {x1 : Int32} (lk : MLk own index yX2_reach)  (hR : R.frames ≥ 1 + 1 ∧ R.locals ≥ 8 + (4 + 11) + 21) (hcs : k0 ≤ R.cells ∧ n0 ≤ R.slots) (hro : (S.map fun v => v.category).sum ≤ 8) (d : decode cc pc = .ok (.invokevirtual index, 3)) (kk : ∀ σ' : Sg, Okg G l cc nL own rt R X Z k0 n0 (pc + 3) L S σ' (F σ')) : Okg G l cc nL own rt R X Z k0 n0 pc L (.int x1 :: k_rr G 82 :: S) σ (e_cV (m_X2_reach x1 σ) F) :=
  ok_cV (cb := ccV) (As := [.int x1]) (ct_X2_reach _  σ) mo_X2_reach hi_X2_reach lk rfl (ci := 2) rfl rfl (by decide) ko_82 hR rfl hcs hro d (fun b => kk b)
/-! CoatDinner$Steps.takeFollowing()V -/
def d_X2_takeFollowing_2  (K : Sg → Option (Sg)) (H : Int32 → Sg → Option (Sg)) (x1 : Int32) (σ : Sg) : Option (Sg) := (if 243 ≤ x1 then K σ else e_gd (k_in x1 243) (e_wr σ 98 x1 243 (σ 99 (Int32.toNatClampNeg x1)) (fun σ1 => e_wr σ1 99 x1 243 0 (fun σ2 => H (x1 + 1) σ2))))
theorem od_X2_takeFollowing_2 {G : KW} {l : Launch}   {K : Sg → Option (Sg)} {H : Int32 → Sg → Option (Sg)} (hK : ∀  (σ : Sg), Okk G l cX2_takeFollowing 2 RX2 none (rmo 0 0) ccV 34 [none, none] [] σ (K  σ)) (hH : ∀ (x1 : Int32) (σ : Sg), Okk G l cX2_takeFollowing 2 RX2 none (rmo 0 0) ccV 2 [some (k_rr G 82), some (.int x1)] [] σ (H x1 σ)) (x1 : Int32)  (σ : Sg) : Okk G l cX2_takeFollowing 2 RX2 none (rmo 0 0) ccV 2 [some (k_rr G 82), some (.int x1)] [] σ (d_X2_takeFollowing_2  K H x1 σ) := by
  unfold d_X2_takeFollowing_2
  refine ok_iload1 (dq_of td_X2_takeFollowing 2 rfl) ?_
  refine ok_sipush (v := 243) (dq_of td_X2_takeFollowing 3 rfl) (by decide) ?_
  refine ok_ic_ge (tgt := 34) (dq_of td_X2_takeFollowing 4 rfl) (by decide) ?_ ?_
  · refine ok_wk (wk_n (wk_n wk_0)) ?_
    exact hK _
  · refine ok_aload0 (dq_of td_X2_takeFollowing 5 rfl) ?_
    refine ok_get (v := k_rr G 98) fl_X2_22 (by decide) ko_82 rfl (dq_of td_X2_takeFollowing 6 rfl) ?_
    refine ok_iload1 (dq_of td_X2_takeFollowing 7 rfl) ?_
    refine ok_aload0 (dq_of td_X2_takeFollowing 8 rfl) ?_
    refine ok_get (v := k_rr G 99) fl_X2_25 (by decide) ko_82 rfl (dq_of td_X2_takeFollowing 9 rfl) ?_
    refine ok_iload1 (dq_of td_X2_takeFollowing 10 rfl) ?_
    refine ok_iald ka_99 (dq_of td_X2_takeFollowing 11 rfl) ?_
    refine ok_iast ka_98 (dq_of td_X2_takeFollowing 12 rfl) (fun σ1 => ?_)
    refine ok_aload0 (dq_of td_X2_takeFollowing 13 rfl) ?_
    refine ok_get (v := k_rr G 99) fl_X2_25 (by decide) ko_82 rfl (dq_of td_X2_takeFollowing 14 rfl) ?_
    refine ok_iload1 (dq_of td_X2_takeFollowing 15 rfl) ?_
    refine ok_iconst (v := 0) (dq_of td_X2_takeFollowing 16 rfl) (by decide) ?_
    refine ok_iast ka_99 (dq_of td_X2_takeFollowing 17 rfl) (fun σ2 => ?_)
    refine ok_jinc1 (w := 1) (dq_of td_X2_takeFollowing 18 rfl) (by decide) rfl (by decide) ?_
    refine ok_goto (tgt := 2) (dq_of td_X2_takeFollowing 19 rfl) (by decide) ?_
    refine ok_wk (wk_s (wk_s wk_0)) ?_
    exact hH _ _
theorem ld_X2_takeFollowing_2 {G : KW} {l : Launch}   {K : Sg → Option (Sg)} (hK : ∀  (σ : Sg), Okk G l cX2_takeFollowing 2 RX2 none (rmo 0 0) ccV 34 [none, none] [] σ (K  σ)) (n : Nat) (x1 : Int32) (σ : Sg) : Okk G l cX2_takeFollowing 2 RX2 none (rmo 0 0) ccV 2 [some (k_rr G 82), some (.int x1)] [] σ (e_lp1 (d_X2_takeFollowing_2  K) n x1 σ) :=
  ok_lp1 (Lf := fun (x1 : Int32) => [some (k_rr G 82), some (.int x1)]) (fun _ hH x1 σ => od_X2_takeFollowing_2   hK hH x1 σ) n x1 σ
def m_X2_takeFollowing  (σ : Sg) : Option (Sg) := e_lp1 (d_X2_takeFollowing_2  (fun σ3 => some σ3)) e_F 0 σ
theorem om_X2_takeFollowing {G : KW} {l : Launch}   (σ : Sg) : Okk G l cX2_takeFollowing 2 RX2 none (rmo 0 0) ccV 0 [some (k_rr G 82), none] [] σ (m_X2_takeFollowing  σ) := by
  unfold m_X2_takeFollowing
  refine ok_iconst (v := 0) (dq_of td_X2_takeFollowing 0 rfl) (by decide) ?_
  refine ok_istore1 (dq_of td_X2_takeFollowing 1 rfl) rfl (by decide) ?_
  refine ok_wk (wk_s (wk_s wk_0)) ?_
  refine ld_X2_takeFollowing_2   (fun σ3 => ?_) _ _ _
  exact ok_vret (dq_of td_X2_takeFollowing 20 rfl)
theorem ct_X2_takeFollowing {G : KW} {l : Launch}   (σ : Sg) : ∀ b, m_X2_takeFollowing  σ = some b → MetF G l yX2_takeFollowing cX2_takeFollowing 2 none 0 0 [k_rr G 82] (k_wl G σ) (ccV b).1 (k_wl G (ccV b).2) :=
  met_of (by decide) (Nat.le_of_ble_eq_true rfl) rfl (om_X2_takeFollowing   σ)
theorem call_X2_takeFollowing {G : KW} {l : Launch} {cc : ByteArray} {nL : Nat} {own : String} {rt : Option FieldType} {R : Room} {α : Type} {X : State → Array Value → Method → Prop} {Z : α → List Frame → Array Value → State → State → Prop} {k0 n0 pc index : Nat} {L : List (Option Value)} {S : List Value} {σ : Sg} {F : Sg → Option α}  (lk : MLk own index yX2_takeFollowing)  (hR : R.frames ≥ 0 + 1 ∧ R.locals ≥ 8 + (2 + 11) + 0) (hcs : k0 ≤ R.cells ∧ n0 ≤ R.slots) (hro : (S.map fun v => v.category).sum ≤ 8) (d : decode cc pc = .ok (.invokevirtual index, 3)) (kk : ∀ σ' : Sg, Okg G l cc nL own rt R X Z k0 n0 (pc + 3) L S σ' (F σ')) : Okg G l cc nL own rt R X Z k0 n0 pc L (k_rr G 82 :: S) σ (e_cV (m_X2_takeFollowing  σ) F) :=
  ok_cV (cb := ccV) (As := []) (ct_X2_takeFollowing   σ) mo_X2_takeFollowing hi_X2_takeFollowing lk rfl (ci := 2) rfl rfl (by decide) ko_82 hR rfl hcs hro d (fun b => kk b)
/-! CoatDinner$Steps.dress(I)V -/
def d_X2_dress_4 (x1 : Int32) (K : Sg → Option (Sg)) (H : Int32 → Int32 → Sg → Option (Sg)) (x2 : Int32) (x3 : Int32) (σ : Sg) : Option (Sg) := (if 5 ≤ x3 then K σ else e_wr σ 84 x3 5 ((jrm x2 6) - 1) (fun σ1 => e_lt (x2 / 6) (fun v2 => H v2 (x3 + 1) σ1)))
theorem od_X2_dress_4 {G : KW} {l : Launch} (x1 : Int32)  {K : Sg → Option (Sg)} {H : Int32 → Int32 → Sg → Option (Sg)} (hK : ∀  (σ : Sg), Okk G l cX2_dress 4 RX2 none (rmo 0 0) ccV 35 [none, none, none, none] [] σ (K  σ)) (hH : ∀ (x2 : Int32) (x3 : Int32) (σ : Sg), Okk G l cX2_dress 4 RX2 none (rmo 0 0) ccV 4 [some (k_rr G 82), none, some (.int x2), some (.int x3)] [] σ (H x2 x3 σ)) (x2 : Int32) (x3 : Int32)  (σ : Sg) : Okk G l cX2_dress 4 RX2 none (rmo 0 0) ccV 4 [some (k_rr G 82), none, some (.int x2), some (.int x3)] [] σ (d_X2_dress_4 x1 K H x2 x3 σ) := by
  unfold d_X2_dress_4
  refine ok_iload3 (dq_of td_X2_dress 4 rfl) ?_
  refine ok_iconst (v := 5) (dq_of td_X2_dress 5 rfl) (by decide) ?_
  refine ok_ic_ge (tgt := 35) (dq_of td_X2_dress 6 rfl) (by decide) ?_ ?_
  · refine ok_wk (wk_n (wk_n (wk_n (wk_n wk_0)))) ?_
    exact hK _
  · refine ok_aload0 (dq_of td_X2_dress 7 rfl) ?_
    refine ok_get (v := k_rr G 83) fl_X2_12 (by decide) ko_82 rfl (dq_of td_X2_dress 8 rfl) ?_
    refine ok_get (v := k_rr G 84) fl_X2_93 (by decide) (isT_kd tw_83) rfl (dq_of td_X2_dress 9 rfl) ?_
    refine ok_iload3 (dq_of td_X2_dress 10 rfl) ?_
    refine ok_iload2 (dq_of td_X2_dress 11 rfl) ?_
    refine ok_bipush (v := 6) (dq_of td_X2_dress 12 rfl) (by decide) ?_
    refine ok_irem (dq_of td_X2_dress 13 rfl) (by decide) ?_
    refine ok_iconst (v := 1) (dq_of td_X2_dress 14 rfl) (by decide) ?_
    refine ok_isub (dq_of td_X2_dress 15 rfl) ?_
    refine ok_iast ka_84 (dq_of td_X2_dress 16 rfl) (fun σ1 => ?_)
    refine ok_iload2 (dq_of td_X2_dress 17 rfl) ?_
    refine ok_bipush (v := 6) (dq_of td_X2_dress 18 rfl) (by decide) ?_
    refine ok_idiv (dq_of td_X2_dress 19 rfl) (by decide) ?_
    refine ok_gI (fun v2 => ?_)
    refine ok_istore2 (dq_of td_X2_dress 20 rfl) rfl (by decide) ?_
    refine ok_jinc3 (w := 1) (dq_of td_X2_dress 21 rfl) (by decide) rfl (by decide) ?_
    refine ok_goto (tgt := 4) (dq_of td_X2_dress 22 rfl) (by decide) ?_
    refine ok_wk (wk_s (wk_n (wk_s (wk_s wk_0)))) ?_
    exact hH _ _ _
theorem ld_X2_dress_4 {G : KW} {l : Launch} (x1 : Int32)  {K : Sg → Option (Sg)} (hK : ∀  (σ : Sg), Okk G l cX2_dress 4 RX2 none (rmo 0 0) ccV 35 [none, none, none, none] [] σ (K  σ)) (n : Nat) (x2 : Int32) (x3 : Int32) (σ : Sg) : Okk G l cX2_dress 4 RX2 none (rmo 0 0) ccV 4 [some (k_rr G 82), none, some (.int x2), some (.int x3)] [] σ (e_lp2 (d_X2_dress_4 x1 K) n x2 x3 σ) :=
  ok_lp2 (Lf := fun (x2 : Int32) (x3 : Int32) => [some (k_rr G 82), none, some (.int x2), some (.int x3)]) (fun _ hH x2 x3 σ => od_X2_dress_4 _  hK hH x2 x3 σ) n x2 x3 σ
def m_X2_dress (x1 : Int32) (σ : Sg) : Option (Sg) := e_lp2 (d_X2_dress_4 x1 (fun σ3 => some σ3)) e_F x1 0 σ
theorem om_X2_dress {G : KW} {l : Launch} (x1 : Int32)  (σ : Sg) : Okk G l cX2_dress 4 RX2 none (rmo 0 0) ccV 0 [some (k_rr G 82), some (.int x1), none, none] [] σ (m_X2_dress x1 σ) := by
  unfold m_X2_dress
  refine ok_iload1 (dq_of td_X2_dress 0 rfl) ?_
  refine ok_istore2 (dq_of td_X2_dress 1 rfl) rfl (by decide) ?_
  refine ok_iconst (v := 0) (dq_of td_X2_dress 2 rfl) (by decide) ?_
  refine ok_istore3 (dq_of td_X2_dress 3 rfl) rfl (by decide) ?_
  refine ok_wk (wk_s (wk_n (wk_s (wk_s wk_0)))) ?_
  refine ld_X2_dress_4 _  (fun σ3 => ?_) _ _ _ _
  exact ok_vret (dq_of td_X2_dress 23 rfl)
theorem ct_X2_dress {G : KW} {l : Launch} (x1 : Int32)  (σ : Sg) : ∀ b, m_X2_dress x1 σ = some b → MetF G l yX2_dress cX2_dress 4 none 0 0 [k_rr G 82, .int x1] (k_wl G σ) (ccV b).1 (k_wl G (ccV b).2) :=
  met_of (by decide) (Nat.le_of_ble_eq_true rfl) rfl (om_X2_dress _  σ)
theorem call_X2_dress {G : KW} {l : Launch} {cc : ByteArray} {nL : Nat} {own : String} {rt : Option FieldType} {R : Room} {α : Type} {X : State → Array Value → Method → Prop} {Z : α → List Frame → Array Value → State → State → Prop} {k0 n0 pc index : Nat} {L : List (Option Value)} {S : List Value} {σ : Sg} {F : Sg → Option α} {x1 : Int32} (lk : MLk own index yX2_dress)  (hR : R.frames ≥ 0 + 1 ∧ R.locals ≥ 8 + (4 + 11) + 0) (hcs : k0 ≤ R.cells ∧ n0 ≤ R.slots) (hro : (S.map fun v => v.category).sum ≤ 8) (d : decode cc pc = .ok (.invokevirtual index, 3)) (kk : ∀ σ' : Sg, Okg G l cc nL own rt R X Z k0 n0 (pc + 3) L S σ' (F σ')) : Okg G l cc nL own rt R X Z k0 n0 pc L (.int x1 :: k_rr G 82 :: S) σ (e_cV (m_X2_dress x1 σ) F) :=
  ok_cV (cb := ccV) (As := [.int x1]) (ct_X2_dress _  σ) mo_X2_dress hi_X2_dress lk rfl (ci := 2) rfl rfl (by decide) ko_82 hR rfl hcs hro d (fun b => kk b)
/-! CoatDinner$Steps.fits(IIII)Z -/
def m_X2_fits (x1 : Int32) (x2 : Int32) (x3 : Int32) (x4 : Int32) (σ : Sg) : Option (Int32 × Sg) := e_cV (m_X2_dress x1 σ) (fun σ1 => e_cV (m_X3_sit 83 σ1) (fun σ2 => e_cI (m_X3_seatOf x2 σ2) (fun r4 σ3 => (if x3 = ((-1)) then (if x4 < r4 then e_rz 0 σ3 else e_rz 1 σ3) else e_cI (m_X3_seatOf x3 σ3) (fun r6 σ5 => e_cI (m_J9_abs_0f7a4 (r4 - r6) σ5) (fun r8 σ7 => (if r8 = 1 then e_rz 1 σ7 else e_rz 0 σ7)))))))
theorem om_X2_fits {G : KW} {l : Launch} (x1 : Int32) (x2 : Int32) (x3 : Int32) (x4 : Int32)  (σ : Sg) : Okk G l cX2_fits 6 RX2 (some .boolean) (rmo 2 44) ccI 0 [some (k_rr G 82), some (.int x1), some (.int x2), some (.int x3), some (.int x4), none] [] σ (m_X2_fits x1 x2 x3 x4 σ) := by
  unfold m_X2_fits
  refine ok_aload0 (dq_of td_X2_fits 0 rfl) ?_
  refine ok_iload1 (dq_of td_X2_fits 1 rfl) ?_
  refine call_X2_dress ml_X2_67  ⟨Nat.le_of_ble_eq_true rfl, Nat.le_of_ble_eq_true rfl⟩ ⟨Nat.zero_le _, Nat.zero_le _⟩ (Nat.le_of_ble_eq_true rfl) (dq_of td_X2_fits 2 rfl) (fun σ1 => ?_)
  refine ok_aload0 (dq_of td_X2_fits 3 rfl) ?_
  refine ok_get (v := k_rr G 60) fl_X2_28 (by decide) ko_82 rfl (dq_of td_X2_fits 4 rfl) ?_
  refine ok_aload0 (dq_of td_X2_fits 5 rfl) ?_
  refine ok_get (v := k_rr G 83) fl_X2_12 (by decide) ko_82 rfl (dq_of td_X2_fits 6 rfl) ?_
  refine call_X3_sit ml_X2_70 tw_83 ⟨Nat.le_of_ble_eq_true rfl, Nat.le_of_ble_eq_true rfl⟩ ⟨Nat.zero_le _, Nat.zero_le _⟩ (Nat.le_of_ble_eq_true rfl) (dq_of td_X2_fits 7 rfl) (fun σ2 => ?_)
  refine ok_aload0 (dq_of td_X2_fits 8 rfl) ?_
  refine ok_get (v := k_rr G 60) fl_X2_28 (by decide) ko_82 rfl (dq_of td_X2_fits 9 rfl) ?_
  refine ok_iload2 (dq_of td_X2_fits 10 rfl) ?_
  refine call_X3_seatOf ml_X2_73  ⟨Nat.le_of_ble_eq_true rfl, Nat.le_of_ble_eq_true rfl⟩ ⟨Nat.zero_le _, Nat.zero_le _⟩ (Nat.le_of_ble_eq_true rfl) (dq_of td_X2_fits 11 rfl) (fun r4 σ3 => ?_)
  refine ok_istore5 (dq_of td_X2_fits 12 rfl) rfl (by decide) ?_
  refine ok_iload3 (dq_of td_X2_fits 13 rfl) ?_
  refine ok_iconst (v := (-1)) (dq_of td_X2_fits 14 rfl) (by decide) ?_
  refine ok_ic_ne (tgt := 44) (dq_of td_X2_fits 15 rfl) (by decide) ?_ ?_
  · refine ok_iload5 (dq_of td_X2_fits 23 rfl) ?_
    refine ok_aload0 (dq_of td_X2_fits 24 rfl) ?_
    refine ok_get (v := k_rr G 60) fl_X2_28 (by decide) ko_82 rfl (dq_of td_X2_fits 25 rfl) ?_
    refine ok_iload3 (dq_of td_X2_fits 26 rfl) ?_
    refine call_X3_seatOf ml_X2_73  ⟨Nat.le_of_ble_eq_true rfl, Nat.le_of_ble_eq_true rfl⟩ ⟨Nat.zero_le _, Nat.zero_le _⟩ (Nat.le_of_ble_eq_true rfl) (dq_of td_X2_fits 27 rfl) (fun r6 σ5 => ?_)
    refine ok_isub (dq_of td_X2_fits 28 rfl) ?_
    refine call_J9_abs_0f7a4 mp_X2_77  ⟨Nat.le_of_ble_eq_true rfl, Nat.le_of_ble_eq_true rfl⟩ ⟨Nat.zero_le _, Nat.zero_le _⟩ (Nat.le_of_ble_eq_true rfl) (dq_of td_X2_fits 29 rfl) (fun r8 σ7 => ?_)
    refine ok_iconst (v := 1) (dq_of td_X2_fits 30 rfl) (by decide) ?_
    refine ok_ic_ne (tgt := 66) (dq_of td_X2_fits 31 rfl) (by decide) ?_ ?_
    · refine ok_iconst (v := 0) (dq_of td_X2_fits 34 rfl) (by decide) ?_
      exact ok_zret (dq_of td_X2_fits 35 rfl)
    · refine ok_iconst (v := 1) (dq_of td_X2_fits 32 rfl) (by decide) ?_
      refine ok_goto (tgt := 67) (dq_of td_X2_fits 33 rfl) (by decide) ?_
      exact ok_zret (dq_of td_X2_fits 35 rfl)
  · refine ok_iload5 (dq_of td_X2_fits 16 rfl) ?_
    refine ok_iload4 (dq_of td_X2_fits 17 rfl) ?_
    refine ok_ic_gt (tgt := 42) (dq_of td_X2_fits 18 rfl) (by decide) ?_ ?_
    · refine ok_iconst (v := 0) (dq_of td_X2_fits 21 rfl) (by decide) ?_
      exact ok_zret (dq_of td_X2_fits 22 rfl)
    · refine ok_iconst (v := 1) (dq_of td_X2_fits 19 rfl) (by decide) ?_
      refine ok_goto (tgt := 43) (dq_of td_X2_fits 20 rfl) (by decide) ?_
      exact ok_zret (dq_of td_X2_fits 22 rfl)
theorem ct_X2_fits {G : KW} {l : Launch} (x1 : Int32) (x2 : Int32) (x3 : Int32) (x4 : Int32)  (σ : Sg) : ∀ b, m_X2_fits x1 x2 x3 x4 σ = some b → MetF G l yX2_fits cX2_fits 6 (some .boolean) 2 44 [k_rr G 82, .int x1, .int x2, .int x3, .int x4] (k_wl G σ) (ccI b).1 (k_wl G (ccI b).2) :=
  met_of (by decide) (Nat.le_of_ble_eq_true rfl) rfl (om_X2_fits _ _ _ _  σ)
theorem call_X2_fits {G : KW} {l : Launch} {cc : ByteArray} {nL : Nat} {own : String} {rt : Option FieldType} {R : Room} {α : Type} {X : State → Array Value → Method → Prop} {Z : α → List Frame → Array Value → State → State → Prop} {k0 n0 pc index : Nat} {L : List (Option Value)} {S : List Value} {σ : Sg} {F : Int32 → Sg → Option α} {x1 : Int32} {x2 : Int32} {x3 : Int32} {x4 : Int32} (lk : MLk own index yX2_fits)  (hR : R.frames ≥ 2 + 1 ∧ R.locals ≥ 8 + (6 + 11) + 44) (hcs : k0 ≤ R.cells ∧ n0 ≤ R.slots) (hro : (S.map fun v => v.category).sum ≤ 8) (d : decode cc pc = .ok (.invokevirtual index, 3)) (kk : ∀ (r : Int32) (σ' : Sg), Okg G l cc nL own rt R X Z k0 n0 (pc + 3) L (.int r :: S) σ' (F r σ')) : Okg G l cc nL own rt R X Z k0 n0 pc L (.int x4 :: .int x3 :: .int x2 :: .int x1 :: k_rr G 82 :: S) σ (e_cI (m_X2_fits x1 x2 x3 x4 σ) F) :=
  ok_cV (cb := ccI) (As := [.int x1, .int x2, .int x3, .int x4]) (ct_X2_fits _ _ _ _  σ) mo_X2_fits hi_X2_fits lk rfl (ci := 2) rfl rfl (by decide) ko_82 hR rfl hcs hro d (fun b => kk b.1 b.2)
/-! CoatDinner$Steps.anyFits(III)Z -/
def d_X2_anyFits_14 (x1 : Int32) (x2 : Int32) (x3 : Int32) (K : Int32 → Sg → Option (Int32 × Sg)) (H : Int32 → Int32 → Sg → Option (Int32 × Sg)) (x4 : Int32) (x5 : Int32) (σ : Sg) : Option (Int32 × Sg) := (if 32 ≤ x5 then K x4 σ else e_gd (k_in x4 243) ((if (σ 98 (Int32.toNatClampNeg x4)) = 0 then K x4 σ else e_gd (k_in x4 243) ((if ((jsr (σ 98 (Int32.toNatClampNeg x4)) x5) &&& 1) = 1 then e_cI (m_X2_fits ((32 * x4) + x5) x1 x2 x3 σ) (fun r2 σ1 => (if r2 = 0 then H x4 (x5 + 1) σ1 else e_rz 1 σ1)) else H x4 (x5 + 1) σ)))))
def d_X2_anyFits_3 (x1 : Int32) (x2 : Int32) (x3 : Int32) (K : Sg → Option (Int32 × Sg)) (H : Int32 → Sg → Option (Int32 × Sg)) (x4 : Int32) (σ : Sg) : Option (Int32 × Sg) := (if 243 ≤ x4 then K σ else e_lp2 (d_X2_anyFits_14 x1 x2 x3 (fun x4q3 σ3 => H (x4q3 + 1) σ3)) e_F x4 0 σ)
theorem od_X2_anyFits_14 {G : KW} {l : Launch} (x1 : Int32) (x2 : Int32) (x3 : Int32)  {K : Int32 → Sg → Option (Int32 × Sg)} {H : Int32 → Int32 → Sg → Option (Int32 × Sg)} (hK : ∀ (x4 : Int32) (σ : Sg), Okk G l cX2_anyFits 6 RX2 (some .boolean) (rmo 3 69) ccI 73 [some (k_rr G 82), some (.int x1), some (.int x2), some (.int x3), some (.int x4), none] [] σ (K x4 σ)) (hH : ∀ (x4 : Int32) (x5 : Int32) (σ : Sg), Okk G l cX2_anyFits 6 RX2 (some .boolean) (rmo 3 69) ccI 14 [some (k_rr G 82), some (.int x1), some (.int x2), some (.int x3), some (.int x4), some (.int x5)] [] σ (H x4 x5 σ)) (x4 : Int32) (x5 : Int32)  (σ : Sg) : Okk G l cX2_anyFits 6 RX2 (some .boolean) (rmo 3 69) ccI 14 [some (k_rr G 82), some (.int x1), some (.int x2), some (.int x3), some (.int x4), some (.int x5)] [] σ (d_X2_anyFits_14 x1 x2 x3 K H x4 x5 σ) := by
  unfold d_X2_anyFits_14
  refine ok_iload5 (dq_of td_X2_anyFits 7 rfl) ?_
  refine ok_bipush (v := 32) (dq_of td_X2_anyFits 8 rfl) (by decide) ?_
  refine ok_ic_ge (tgt := 73) (dq_of td_X2_anyFits 9 rfl) (by decide) ?_ ?_
  · refine ok_wk (wk_s (wk_s (wk_s (wk_s (wk_s (wk_n wk_0)))))) ?_
    exact hK _ _
  · refine ok_aload0 (dq_of td_X2_anyFits 10 rfl) ?_
    refine ok_get (v := k_rr G 98) fl_X2_22 (by decide) ko_82 rfl (dq_of td_X2_anyFits 11 rfl) ?_
    refine ok_iload4 (dq_of td_X2_anyFits 12 rfl) ?_
    refine ok_iald ka_98 (dq_of td_X2_anyFits 13 rfl) ?_
    refine ok_if_eq (tgt := 73) (dq_of td_X2_anyFits 14 rfl) (by decide) ?_ ?_
    · refine ok_wk (wk_s (wk_s (wk_s (wk_s (wk_s (wk_n wk_0)))))) ?_
      exact hK _ _
    · refine ok_aload0 (dq_of td_X2_anyFits 15 rfl) ?_
      refine ok_get (v := k_rr G 98) fl_X2_22 (by decide) ko_82 rfl (dq_of td_X2_anyFits 16 rfl) ?_
      refine ok_iload4 (dq_of td_X2_anyFits 17 rfl) ?_
      refine ok_iald ka_98 (dq_of td_X2_anyFits 18 rfl) ?_
      refine ok_iload5 (dq_of td_X2_anyFits 19 rfl) ?_
      refine ok_ishr (dq_of td_X2_anyFits 20 rfl) ?_
      refine ok_iconst (v := 1) (dq_of td_X2_anyFits 21 rfl) (by decide) ?_
      refine ok_iand (dq_of td_X2_anyFits 22 rfl) ?_
      refine ok_iconst (v := 1) (dq_of td_X2_anyFits 23 rfl) (by decide) ?_
      refine ok_ic_ne (tgt := 67) (dq_of td_X2_anyFits 24 rfl) (by decide) ?_ ?_
      · refine ok_jinc5 (w := 1) (dq_of td_X2_anyFits 38 rfl) (by decide) rfl (by decide) ?_
        refine ok_goto (tgt := 14) (dq_of td_X2_anyFits 39 rfl) (by decide) ?_
        refine ok_wk (wk_s (wk_s (wk_s (wk_s (wk_s (wk_s wk_0)))))) ?_
        exact hH _ _ _
      · refine ok_aload0 (dq_of td_X2_anyFits 25 rfl) ?_
        refine ok_bipush (v := 32) (dq_of td_X2_anyFits 26 rfl) (by decide) ?_
        refine ok_iload4 (dq_of td_X2_anyFits 27 rfl) ?_
        refine ok_imul (dq_of td_X2_anyFits 28 rfl) ?_
        refine ok_iload5 (dq_of td_X2_anyFits 29 rfl) ?_
        refine ok_iadd (dq_of td_X2_anyFits 30 rfl) ?_
        refine ok_iload1 (dq_of td_X2_anyFits 31 rfl) ?_
        refine ok_iload2 (dq_of td_X2_anyFits 32 rfl) ?_
        refine ok_iload3 (dq_of td_X2_anyFits 33 rfl) ?_
        refine call_X2_fits ml_X2_63  ⟨Nat.le_of_ble_eq_true rfl, Nat.le_of_ble_eq_true rfl⟩ ⟨Nat.zero_le _, Nat.zero_le _⟩ (Nat.le_of_ble_eq_true rfl) (dq_of td_X2_anyFits 34 rfl) (fun r2 σ1 => ?_)
        refine ok_if_eq (tgt := 67) (dq_of td_X2_anyFits 35 rfl) (by decide) ?_ ?_
        · refine ok_jinc5 (w := 1) (dq_of td_X2_anyFits 38 rfl) (by decide) rfl (by decide) ?_
          refine ok_goto (tgt := 14) (dq_of td_X2_anyFits 39 rfl) (by decide) ?_
          refine ok_wk (wk_s (wk_s (wk_s (wk_s (wk_s (wk_s wk_0)))))) ?_
          exact hH _ _ _
        · refine ok_iconst (v := 1) (dq_of td_X2_anyFits 36 rfl) (by decide) ?_
          exact ok_zret (dq_of td_X2_anyFits 37 rfl)
theorem ld_X2_anyFits_14 {G : KW} {l : Launch} (x1 : Int32) (x2 : Int32) (x3 : Int32)  {K : Int32 → Sg → Option (Int32 × Sg)} (hK : ∀ (x4 : Int32) (σ : Sg), Okk G l cX2_anyFits 6 RX2 (some .boolean) (rmo 3 69) ccI 73 [some (k_rr G 82), some (.int x1), some (.int x2), some (.int x3), some (.int x4), none] [] σ (K x4 σ)) (n : Nat) (x4 : Int32) (x5 : Int32) (σ : Sg) : Okk G l cX2_anyFits 6 RX2 (some .boolean) (rmo 3 69) ccI 14 [some (k_rr G 82), some (.int x1), some (.int x2), some (.int x3), some (.int x4), some (.int x5)] [] σ (e_lp2 (d_X2_anyFits_14 x1 x2 x3 K) n x4 x5 σ) :=
  ok_lp2 (Lf := fun (x4 : Int32) (x5 : Int32) => [some (k_rr G 82), some (.int x1), some (.int x2), some (.int x3), some (.int x4), some (.int x5)]) (fun _ hH x4 x5 σ => od_X2_anyFits_14 _ _ _  hK hH x4 x5 σ) n x4 x5 σ
theorem od_X2_anyFits_3 {G : KW} {l : Launch} (x1 : Int32) (x2 : Int32) (x3 : Int32)  {K : Sg → Option (Int32 × Sg)} {H : Int32 → Sg → Option (Int32 × Sg)} (hK : ∀  (σ : Sg), Okk G l cX2_anyFits 6 RX2 (some .boolean) (rmo 3 69) ccI 79 [none, none, none, none, none, none] [] σ (K  σ)) (hH : ∀ (x4 : Int32) (σ : Sg), Okk G l cX2_anyFits 6 RX2 (some .boolean) (rmo 3 69) ccI 3 [some (k_rr G 82), some (.int x1), some (.int x2), some (.int x3), some (.int x4), none] [] σ (H x4 σ)) (x4 : Int32)  (σ : Sg) : Okk G l cX2_anyFits 6 RX2 (some .boolean) (rmo 3 69) ccI 3 [some (k_rr G 82), some (.int x1), some (.int x2), some (.int x3), some (.int x4), none] [] σ (d_X2_anyFits_3 x1 x2 x3 K H x4 σ) := by
  unfold d_X2_anyFits_3
  refine ok_iload4 (dq_of td_X2_anyFits 2 rfl) ?_
  refine ok_sipush (v := 243) (dq_of td_X2_anyFits 3 rfl) (by decide) ?_
  refine ok_ic_ge (tgt := 79) (dq_of td_X2_anyFits 4 rfl) (by decide) ?_ ?_
  · refine ok_wk (wk_n (wk_n (wk_n (wk_n (wk_n (wk_n wk_0)))))) ?_
    exact hK _
  · refine ok_iconst (v := 0) (dq_of td_X2_anyFits 5 rfl) (by decide) ?_
    refine ok_istore5 (dq_of td_X2_anyFits 6 rfl) rfl (by decide) ?_
    refine ok_wk (wk_s (wk_s (wk_s (wk_s (wk_s (wk_s wk_0)))))) ?_
    refine ld_X2_anyFits_14 _ _ _  (fun x4q3 σ3 => ?_) _ _ _ _
    refine ok_jinc4 (w := 1) (dq_of td_X2_anyFits 40 rfl) (by decide) rfl (by decide) ?_
    refine ok_goto (tgt := 3) (dq_of td_X2_anyFits 41 rfl) (by decide) ?_
    refine ok_wk (wk_s (wk_s (wk_s (wk_s (wk_s (wk_n wk_0)))))) ?_
    exact hH _ _
theorem ld_X2_anyFits_3 {G : KW} {l : Launch} (x1 : Int32) (x2 : Int32) (x3 : Int32)  {K : Sg → Option (Int32 × Sg)} (hK : ∀  (σ : Sg), Okk G l cX2_anyFits 6 RX2 (some .boolean) (rmo 3 69) ccI 79 [none, none, none, none, none, none] [] σ (K  σ)) (n : Nat) (x4 : Int32) (σ : Sg) : Okk G l cX2_anyFits 6 RX2 (some .boolean) (rmo 3 69) ccI 3 [some (k_rr G 82), some (.int x1), some (.int x2), some (.int x3), some (.int x4), none] [] σ (e_lp1 (d_X2_anyFits_3 x1 x2 x3 K) n x4 σ) :=
  ok_lp1 (Lf := fun (x4 : Int32) => [some (k_rr G 82), some (.int x1), some (.int x2), some (.int x3), some (.int x4), none]) (fun _ hH x4 σ => od_X2_anyFits_3 _ _ _  hK hH x4 σ) n x4 σ
def m_X2_anyFits (x1 : Int32) (x2 : Int32) (x3 : Int32) (σ : Sg) : Option (Int32 × Sg) := e_lp1 (d_X2_anyFits_3 x1 x2 x3 (fun σ4 => e_rz 0 σ4)) e_F 0 σ
theorem om_X2_anyFits {G : KW} {l : Launch} (x1 : Int32) (x2 : Int32) (x3 : Int32)  (σ : Sg) : Okk G l cX2_anyFits 6 RX2 (some .boolean) (rmo 3 69) ccI 0 [some (k_rr G 82), some (.int x1), some (.int x2), some (.int x3), none, none] [] σ (m_X2_anyFits x1 x2 x3 σ) := by
  unfold m_X2_anyFits
  refine ok_iconst (v := 0) (dq_of td_X2_anyFits 0 rfl) (by decide) ?_
  refine ok_istore4 (dq_of td_X2_anyFits 1 rfl) rfl (by decide) ?_
  refine ok_wk (wk_s (wk_s (wk_s (wk_s (wk_s (wk_n wk_0)))))) ?_
  refine ld_X2_anyFits_3 _ _ _  (fun σ4 => ?_) _ _ _
  refine ok_iconst (v := 0) (dq_of td_X2_anyFits 42 rfl) (by decide) ?_
  exact ok_zret (dq_of td_X2_anyFits 43 rfl)
theorem ct_X2_anyFits {G : KW} {l : Launch} (x1 : Int32) (x2 : Int32) (x3 : Int32)  (σ : Sg) : ∀ b, m_X2_anyFits x1 x2 x3 σ = some b → MetF G l yX2_anyFits cX2_anyFits 6 (some .boolean) 3 69 [k_rr G 82, .int x1, .int x2, .int x3] (k_wl G σ) (ccI b).1 (k_wl G (ccI b).2) :=
  met_of (by decide) (Nat.le_of_ble_eq_true rfl) rfl (om_X2_anyFits _ _ _  σ)
theorem call_X2_anyFits {G : KW} {l : Launch} {cc : ByteArray} {nL : Nat} {own : String} {rt : Option FieldType} {R : Room} {α : Type} {X : State → Array Value → Method → Prop} {Z : α → List Frame → Array Value → State → State → Prop} {k0 n0 pc index : Nat} {L : List (Option Value)} {S : List Value} {σ : Sg} {F : Int32 → Sg → Option α} {x1 : Int32} {x2 : Int32} {x3 : Int32} (lk : MLk own index yX2_anyFits)  (hR : R.frames ≥ 3 + 1 ∧ R.locals ≥ 8 + (6 + 11) + 69) (hcs : k0 ≤ R.cells ∧ n0 ≤ R.slots) (hro : (S.map fun v => v.category).sum ≤ 8) (d : decode cc pc = .ok (.invokevirtual index, 3)) (kk : ∀ (r : Int32) (σ' : Sg), Okg G l cc nL own rt R X Z k0 n0 (pc + 3) L (.int r :: S) σ' (F r σ')) : Okg G l cc nL own rt R X Z k0 n0 pc L (.int x3 :: .int x2 :: .int x1 :: k_rr G 82 :: S) σ (e_cI (m_X2_anyFits x1 x2 x3 σ) F) :=
  ok_cV (cb := ccI) (As := [.int x1, .int x2, .int x3]) (ct_X2_anyFits _ _ _  σ) mo_X2_anyFits hi_X2_anyFits lk rfl (ci := 2) rfl rfl (by decide) ko_82 hR rfl hcs hro d (fun b => kk b.1 b.2)
/-! CoatDinner$Steps.stepsOf(II)V -/
def d_X2_stepsOf_53 (x1 : Int32) (x2 : Int32) (K : Int32 → Int32 → Sg → Option (Sg)) (H : Int32 → Int32 → Int32 → Sg → Option (Sg)) (x3 : Int32) (x4 : Int32) (x5 : Int32) (σ : Sg) : Option (Sg) := (if 5 ≤ x5 then K x3 x4 σ else e_cI (m_X4_whyNotPutOn 83 x1 x5 σ) (fun r6 σ5 => (if r6 = 0 then e_gd (k_in x1 5) (e_cV (m_X2_reach (x4 + ((1 + x5) * (stv 0 (Int32.toNatClampNeg x1)))) σ5) (fun σ7 => H x3 x4 (x5 + 1) σ7)) else H x3 x4 (x5 + 1) σ5)))
def d_X2_stepsOf_98 (x1 : Int32) (x2 : Int32) (K : Sg → Option (Sg)) (H : Int32 → Int32 → Int32 → Sg → Option (Sg)) (x3 : Int32) (x4 : Int32) (x5 : Int32) (σ : Sg) : Option (Sg) := (if 5 ≤ x5 then K σ else (if x3 = ((-1)) then H x3 x4 (x5 + 1) σ else e_cI (m_X4_whyNotLend 83 x1 x5 x3 σ) (fun r10 σ9 => (if r10 = 0 then e_gd (k_in x5 5) (e_cV (m_X2_reach (x4 + ((1 + x3) * (stv 0 (Int32.toNatClampNeg x5)))) σ9) (fun σ11 => H x3 x4 (x5 + 1) σ11)) else H x3 x4 (x5 + 1) σ9))))
def b_X2_stepsOf_50 (x1 : Int32) (x2 : Int32) (x3 : Int32) (x4 : Int32) (σ : Sg) : Option (Sg) := e_lp3 (d_X2_stepsOf_53 x1 x2 (fun x3q8 x4q8 σ8 => e_lp3 (d_X2_stepsOf_98 x1 x2 (fun σ12 => some σ12)) e_F x3q8 x4q8 0 σ8)) e_F x3 x4 0 σ
theorem od_X2_stepsOf_53 {G : KW} {l : Launch} (x1 : Int32) (x2 : Int32)  {K : Int32 → Int32 → Sg → Option (Sg)} {H : Int32 → Int32 → Int32 → Sg → Option (Sg)} (hK : ∀ (x3 : Int32) (x4 : Int32) (σ : Sg), Okk G l cX2_stepsOf 6 RX2 none (rmo 2 45) ccV 95 [some (k_rr G 82), some (.int x1), none, some (.int x3), some (.int x4), none] [] σ (K x3 x4 σ)) (hH : ∀ (x3 : Int32) (x4 : Int32) (x5 : Int32) (σ : Sg), Okk G l cX2_stepsOf 6 RX2 none (rmo 2 45) ccV 53 [some (k_rr G 82), some (.int x1), none, some (.int x3), some (.int x4), some (.int x5)] [] σ (H x3 x4 x5 σ)) (x3 : Int32) (x4 : Int32) (x5 : Int32)  (σ : Sg) : Okk G l cX2_stepsOf 6 RX2 none (rmo 2 45) ccV 53 [some (k_rr G 82), some (.int x1), none, some (.int x3), some (.int x4), some (.int x5)] [] σ (d_X2_stepsOf_53 x1 x2 K H x3 x4 x5 σ) := by
  unfold d_X2_stepsOf_53
  refine ok_iload5 (dq_of td_X2_stepsOf 32 rfl) ?_
  refine ok_iconst (v := 5) (dq_of td_X2_stepsOf 33 rfl) (by decide) ?_
  refine ok_ic_ge (tgt := 95) (dq_of td_X2_stepsOf 34 rfl) (by decide) ?_ ?_
  · refine ok_wk (wk_s (wk_s (wk_n (wk_s (wk_s (wk_n wk_0)))))) ?_
    exact hK _ _ _
  · refine ok_aload0 (dq_of td_X2_stepsOf 35 rfl) ?_
    refine ok_get (v := k_rr G 83) fl_X2_12 (by decide) ko_82 rfl (dq_of td_X2_stepsOf 36 rfl) ?_
    refine ok_iload1 (dq_of td_X2_stepsOf 37 rfl) ?_
    refine ok_iload5 (dq_of td_X2_stepsOf 38 rfl) ?_
    refine call_X4_whyNotPutOn ml_X2_102 tw_83 ⟨Nat.le_of_ble_eq_true rfl, Nat.le_of_ble_eq_true rfl⟩ ⟨Nat.zero_le _, Nat.zero_le _⟩ (Nat.le_of_ble_eq_true rfl) (dq_of td_X2_stepsOf 39 rfl) (fun r6 σ5 => ?_)
    refine ok_if_ne (tgt := 89) (dq_of td_X2_stepsOf 40 rfl) (by decide) ?_ ?_
    · refine ok_jinc5 (w := 1) (dq_of td_X2_stepsOf 52 rfl) (by decide) rfl (by decide) ?_
      refine ok_goto (tgt := 53) (dq_of td_X2_stepsOf 53 rfl) (by decide) ?_
      refine ok_wk (wk_s (wk_s (wk_n (wk_s (wk_s (wk_s wk_0)))))) ?_
      exact hH _ _ _ _
    · refine ok_aload0 (dq_of td_X2_stepsOf 41 rfl) ?_
      refine ok_iload4 (dq_of td_X2_stepsOf 42 rfl) ?_
      refine ok_iconst (v := 1) (dq_of td_X2_stepsOf 43 rfl) (by decide) ?_
      refine ok_iload5 (dq_of td_X2_stepsOf 44 rfl) ?_
      refine ok_iadd (dq_of td_X2_stepsOf 45 rfl) ?_
      refine ok_gets (t := 0) (by decide) sl_X2_96 (dq_of td_X2_stepsOf 46 rfl) ?_
      refine ok_iload1 (dq_of td_X2_stepsOf 47 rfl) ?_
      refine ok_sald (by decide) rfl (dq_of td_X2_stepsOf 48 rfl) ?_
      refine ok_imul (dq_of td_X2_stepsOf 49 rfl) ?_
      refine ok_iadd (dq_of td_X2_stepsOf 50 rfl) ?_
      refine call_X2_reach ml_X2_45  ⟨Nat.le_of_ble_eq_true rfl, Nat.le_of_ble_eq_true rfl⟩ ⟨Nat.zero_le _, Nat.zero_le _⟩ (Nat.le_of_ble_eq_true rfl) (dq_of td_X2_stepsOf 51 rfl) (fun σ7 => ?_)
      refine ok_jinc5 (w := 1) (dq_of td_X2_stepsOf 52 rfl) (by decide) rfl (by decide) ?_
      refine ok_goto (tgt := 53) (dq_of td_X2_stepsOf 53 rfl) (by decide) ?_
      refine ok_wk (wk_s (wk_s (wk_n (wk_s (wk_s (wk_s wk_0)))))) ?_
      exact hH _ _ _ _
theorem ld_X2_stepsOf_53 {G : KW} {l : Launch} (x1 : Int32) (x2 : Int32)  {K : Int32 → Int32 → Sg → Option (Sg)} (hK : ∀ (x3 : Int32) (x4 : Int32) (σ : Sg), Okk G l cX2_stepsOf 6 RX2 none (rmo 2 45) ccV 95 [some (k_rr G 82), some (.int x1), none, some (.int x3), some (.int x4), none] [] σ (K x3 x4 σ)) (n : Nat) (x3 : Int32) (x4 : Int32) (x5 : Int32) (σ : Sg) : Okk G l cX2_stepsOf 6 RX2 none (rmo 2 45) ccV 53 [some (k_rr G 82), some (.int x1), none, some (.int x3), some (.int x4), some (.int x5)] [] σ (e_lp3 (d_X2_stepsOf_53 x1 x2 K) n x3 x4 x5 σ) :=
  ok_lp3 (Lf := fun (x3 : Int32) (x4 : Int32) (x5 : Int32) => [some (k_rr G 82), some (.int x1), none, some (.int x3), some (.int x4), some (.int x5)]) (fun _ hH x3 x4 x5 σ => od_X2_stepsOf_53 _ _  hK hH x3 x4 x5 σ) n x3 x4 x5 σ
theorem od_X2_stepsOf_98 {G : KW} {l : Launch} (x1 : Int32) (x2 : Int32)  {K : Sg → Option (Sg)} {H : Int32 → Int32 → Int32 → Sg → Option (Sg)} (hK : ∀  (σ : Sg), Okk G l cX2_stepsOf 6 RX2 none (rmo 2 45) ccV 146 [none, none, none, none, none, none] [] σ (K  σ)) (hH : ∀ (x3 : Int32) (x4 : Int32) (x5 : Int32) (σ : Sg), Okk G l cX2_stepsOf 6 RX2 none (rmo 2 45) ccV 98 [some (k_rr G 82), some (.int x1), none, some (.int x3), some (.int x4), some (.int x5)] [] σ (H x3 x4 x5 σ)) (x3 : Int32) (x4 : Int32) (x5 : Int32)  (σ : Sg) : Okk G l cX2_stepsOf 6 RX2 none (rmo 2 45) ccV 98 [some (k_rr G 82), some (.int x1), none, some (.int x3), some (.int x4), some (.int x5)] [] σ (d_X2_stepsOf_98 x1 x2 K H x3 x4 x5 σ) := by
  unfold d_X2_stepsOf_98
  refine ok_iload5 (dq_of td_X2_stepsOf 56 rfl) ?_
  refine ok_iconst (v := 5) (dq_of td_X2_stepsOf 57 rfl) (by decide) ?_
  refine ok_ic_ge (tgt := 146) (dq_of td_X2_stepsOf 58 rfl) (by decide) ?_ ?_
  · refine ok_wk (wk_n (wk_n (wk_n (wk_n (wk_n (wk_n wk_0)))))) ?_
    exact hK _
  · refine ok_iload3 (dq_of td_X2_stepsOf 59 rfl) ?_
    refine ok_iconst (v := (-1)) (dq_of td_X2_stepsOf 60 rfl) (by decide) ?_
    refine ok_ic_eq (tgt := 140) (dq_of td_X2_stepsOf 61 rfl) (by decide) ?_ ?_
    · refine ok_jinc5 (w := 1) (dq_of td_X2_stepsOf 80 rfl) (by decide) rfl (by decide) ?_
      refine ok_goto (tgt := 98) (dq_of td_X2_stepsOf 81 rfl) (by decide) ?_
      refine ok_wk (wk_s (wk_s (wk_n (wk_s (wk_s (wk_s wk_0)))))) ?_
      exact hH _ _ _ _
    · refine ok_aload0 (dq_of td_X2_stepsOf 62 rfl) ?_
      refine ok_get (v := k_rr G 83) fl_X2_12 (by decide) ko_82 rfl (dq_of td_X2_stepsOf 63 rfl) ?_
      refine ok_iload1 (dq_of td_X2_stepsOf 64 rfl) ?_
      refine ok_iload5 (dq_of td_X2_stepsOf 65 rfl) ?_
      refine ok_iload3 (dq_of td_X2_stepsOf 66 rfl) ?_
      refine call_X4_whyNotLend ml_X2_106 tw_83 ⟨Nat.le_of_ble_eq_true rfl, Nat.le_of_ble_eq_true rfl⟩ ⟨Nat.zero_le _, Nat.zero_le _⟩ (Nat.le_of_ble_eq_true rfl) (dq_of td_X2_stepsOf 67 rfl) (fun r10 σ9 => ?_)
      refine ok_if_ne (tgt := 140) (dq_of td_X2_stepsOf 68 rfl) (by decide) ?_ ?_
      · refine ok_jinc5 (w := 1) (dq_of td_X2_stepsOf 80 rfl) (by decide) rfl (by decide) ?_
        refine ok_goto (tgt := 98) (dq_of td_X2_stepsOf 81 rfl) (by decide) ?_
        refine ok_wk (wk_s (wk_s (wk_n (wk_s (wk_s (wk_s wk_0)))))) ?_
        exact hH _ _ _ _
      · refine ok_aload0 (dq_of td_X2_stepsOf 69 rfl) ?_
        refine ok_iload4 (dq_of td_X2_stepsOf 70 rfl) ?_
        refine ok_iconst (v := 1) (dq_of td_X2_stepsOf 71 rfl) (by decide) ?_
        refine ok_iload3 (dq_of td_X2_stepsOf 72 rfl) ?_
        refine ok_iadd (dq_of td_X2_stepsOf 73 rfl) ?_
        refine ok_gets (t := 0) (by decide) sl_X2_96 (dq_of td_X2_stepsOf 74 rfl) ?_
        refine ok_iload5 (dq_of td_X2_stepsOf 75 rfl) ?_
        refine ok_sald (by decide) rfl (dq_of td_X2_stepsOf 76 rfl) ?_
        refine ok_imul (dq_of td_X2_stepsOf 77 rfl) ?_
        refine ok_iadd (dq_of td_X2_stepsOf 78 rfl) ?_
        refine call_X2_reach ml_X2_45  ⟨Nat.le_of_ble_eq_true rfl, Nat.le_of_ble_eq_true rfl⟩ ⟨Nat.zero_le _, Nat.zero_le _⟩ (Nat.le_of_ble_eq_true rfl) (dq_of td_X2_stepsOf 79 rfl) (fun σ11 => ?_)
        refine ok_jinc5 (w := 1) (dq_of td_X2_stepsOf 80 rfl) (by decide) rfl (by decide) ?_
        refine ok_goto (tgt := 98) (dq_of td_X2_stepsOf 81 rfl) (by decide) ?_
        refine ok_wk (wk_s (wk_s (wk_n (wk_s (wk_s (wk_s wk_0)))))) ?_
        exact hH _ _ _ _
theorem ld_X2_stepsOf_98 {G : KW} {l : Launch} (x1 : Int32) (x2 : Int32)  {K : Sg → Option (Sg)} (hK : ∀  (σ : Sg), Okk G l cX2_stepsOf 6 RX2 none (rmo 2 45) ccV 146 [none, none, none, none, none, none] [] σ (K  σ)) (n : Nat) (x3 : Int32) (x4 : Int32) (x5 : Int32) (σ : Sg) : Okk G l cX2_stepsOf 6 RX2 none (rmo 2 45) ccV 98 [some (k_rr G 82), some (.int x1), none, some (.int x3), some (.int x4), some (.int x5)] [] σ (e_lp3 (d_X2_stepsOf_98 x1 x2 K) n x3 x4 x5 σ) :=
  ok_lp3 (Lf := fun (x3 : Int32) (x4 : Int32) (x5 : Int32) => [some (k_rr G 82), some (.int x1), none, some (.int x3), some (.int x4), some (.int x5)]) (fun _ hH x3 x4 x5 σ => od_X2_stepsOf_98 _ _  hK hH x3 x4 x5 σ) n x3 x4 x5 σ
theorem ob_X2_stepsOf_50 {G : KW} {l : Launch} (x1 : Int32) (x2 : Int32)  (x3 : Int32) (x4 : Int32)  (σ : Sg) : Okk G l cX2_stepsOf 6 RX2 none (rmo 2 45) ccV 50 [some (k_rr G 82), some (.int x1), none, some (.int x3), some (.int x4), none] [] σ (b_X2_stepsOf_50 x1 x2 x3 x4 σ) := by
  unfold b_X2_stepsOf_50
  refine ok_iconst (v := 0) (dq_of td_X2_stepsOf 30 rfl) (by decide) ?_
  refine ok_istore5 (dq_of td_X2_stepsOf 31 rfl) rfl (by decide) ?_
  refine ok_wk (wk_s (wk_s (wk_n (wk_s (wk_s (wk_s wk_0)))))) ?_
  refine ld_X2_stepsOf_53 _ _  (fun x3q8 x4q8 σ8 => ?_) _ _ _ _ _
  refine ok_iconst (v := 0) (dq_of td_X2_stepsOf 54 rfl) (by decide) ?_
  refine ok_istore5 (dq_of td_X2_stepsOf 55 rfl) rfl (by decide) ?_
  refine ok_wk (wk_s (wk_s (wk_n (wk_s (wk_s (wk_s wk_0)))))) ?_
  refine ld_X2_stepsOf_98 _ _  (fun σ12 => ?_) _ _ _ _ _
  exact ok_vret (dq_of td_X2_stepsOf 82 rfl)
def m_X2_stepsOf (x1 : Int32) (x2 : Int32) (σ : Sg) : Option (Sg) := (if x1 < 0 then some σ else (if x1 < 5 then e_gd (k_in x1 5) (e_lt (σ 84 (Int32.toNatClampNeg x1)) (fun v1 => e_gd (k_in x1 5) (e_lt (x2 - ((1 + v1) * (stv 0 (Int32.toNatClampNeg x1)))) (fun v2 => e_cI (m_X4_whyNotTakeOff 83 x1 σ) (fun r4 σ3 => (if r4 = 0 then e_cV (m_X2_reach v2 σ3) (fun σ13 => b_X2_stepsOf_50 x1 x2 v1 v2 σ13) else b_X2_stepsOf_50 x1 x2 v1 v2 σ3)))))) else some σ))
theorem om_X2_stepsOf {G : KW} {l : Launch} (x1 : Int32) (x2 : Int32)  (σ : Sg) : Okk G l cX2_stepsOf 6 RX2 none (rmo 2 45) ccV 0 [some (k_rr G 82), some (.int x1), some (.int x2), none, none, none] [] σ (m_X2_stepsOf x1 x2 σ) := by
  unfold m_X2_stepsOf
  refine ok_iload1 (dq_of td_X2_stepsOf 0 rfl) ?_
  refine ok_if_lt (tgt := 9) (dq_of td_X2_stepsOf 1 rfl) (by decide) ?_ ?_
  · exact ok_vret (dq_of td_X2_stepsOf 5 rfl)
  · refine ok_iload1 (dq_of td_X2_stepsOf 2 rfl) ?_
    refine ok_iconst (v := 5) (dq_of td_X2_stepsOf 3 rfl) (by decide) ?_
    refine ok_ic_lt (tgt := 10) (dq_of td_X2_stepsOf 4 rfl) (by decide) ?_ ?_
    · refine ok_aload0 (dq_of td_X2_stepsOf 6 rfl) ?_
      refine ok_get (v := k_rr G 83) fl_X2_12 (by decide) ko_82 rfl (dq_of td_X2_stepsOf 7 rfl) ?_
      refine ok_get (v := k_rr G 84) fl_X2_93 (by decide) (isT_kd tw_83) rfl (dq_of td_X2_stepsOf 8 rfl) ?_
      refine ok_iload1 (dq_of td_X2_stepsOf 9 rfl) ?_
      refine ok_iald ka_84 (dq_of td_X2_stepsOf 10 rfl) ?_
      refine ok_gI (fun v1 => ?_)
      refine ok_istore3 (dq_of td_X2_stepsOf 11 rfl) rfl (by decide) ?_
      refine ok_iload2 (dq_of td_X2_stepsOf 12 rfl) ?_
      refine ok_iconst (v := 1) (dq_of td_X2_stepsOf 13 rfl) (by decide) ?_
      refine ok_iload3 (dq_of td_X2_stepsOf 14 rfl) ?_
      refine ok_iadd (dq_of td_X2_stepsOf 15 rfl) ?_
      refine ok_gets (t := 0) (by decide) sl_X2_96 (dq_of td_X2_stepsOf 16 rfl) ?_
      refine ok_iload1 (dq_of td_X2_stepsOf 17 rfl) ?_
      refine ok_sald (by decide) rfl (dq_of td_X2_stepsOf 18 rfl) ?_
      refine ok_imul (dq_of td_X2_stepsOf 19 rfl) ?_
      refine ok_isub (dq_of td_X2_stepsOf 20 rfl) ?_
      refine ok_gI (fun v2 => ?_)
      refine ok_istore4 (dq_of td_X2_stepsOf 21 rfl) rfl (by decide) ?_
      refine ok_aload0 (dq_of td_X2_stepsOf 22 rfl) ?_
      refine ok_get (v := k_rr G 83) fl_X2_12 (by decide) ko_82 rfl (dq_of td_X2_stepsOf 23 rfl) ?_
      refine ok_iload1 (dq_of td_X2_stepsOf 24 rfl) ?_
      refine call_X4_whyNotTakeOff ml_X2_99 tw_83 ⟨Nat.le_of_ble_eq_true rfl, Nat.le_of_ble_eq_true rfl⟩ ⟨Nat.zero_le _, Nat.zero_le _⟩ (Nat.le_of_ble_eq_true rfl) (dq_of td_X2_stepsOf 25 rfl) (fun r4 σ3 => ?_)
      refine ok_if_ne (tgt := 50) (dq_of td_X2_stepsOf 26 rfl) (by decide) ?_ ?_
      · refine ok_wk (wk_s (wk_s (wk_n (wk_s (wk_s (wk_n wk_0)))))) ?_
        exact ob_X2_stepsOf_50 _ _  _ _  _
      · refine ok_aload0 (dq_of td_X2_stepsOf 27 rfl) ?_
        refine ok_iload4 (dq_of td_X2_stepsOf 28 rfl) ?_
        refine call_X2_reach ml_X2_45  ⟨Nat.le_of_ble_eq_true rfl, Nat.le_of_ble_eq_true rfl⟩ ⟨Nat.zero_le _, Nat.zero_le _⟩ (Nat.le_of_ble_eq_true rfl) (dq_of td_X2_stepsOf 29 rfl) (fun σ13 => ?_)
        refine ok_wk (wk_s (wk_s (wk_n (wk_s (wk_s (wk_n wk_0)))))) ?_
        exact ob_X2_stepsOf_50 _ _  _ _  _
    · exact ok_vret (dq_of td_X2_stepsOf 5 rfl)
theorem ct_X2_stepsOf {G : KW} {l : Launch} (x1 : Int32) (x2 : Int32)  (σ : Sg) : ∀ b, m_X2_stepsOf x1 x2 σ = some b → MetF G l yX2_stepsOf cX2_stepsOf 6 none 2 45 [k_rr G 82, .int x1, .int x2] (k_wl G σ) (ccV b).1 (k_wl G (ccV b).2) :=
  met_of (by decide) (Nat.le_of_ble_eq_true rfl) rfl (om_X2_stepsOf _ _  σ)
theorem call_X2_stepsOf {G : KW} {l : Launch} {cc : ByteArray} {nL : Nat} {own : String} {rt : Option FieldType} {R : Room} {α : Type} {X : State → Array Value → Method → Prop} {Z : α → List Frame → Array Value → State → State → Prop} {k0 n0 pc index : Nat} {L : List (Option Value)} {S : List Value} {σ : Sg} {F : Sg → Option α} {x1 : Int32} {x2 : Int32} (lk : MLk own index yX2_stepsOf)  (hR : R.frames ≥ 2 + 1 ∧ R.locals ≥ 8 + (6 + 11) + 45) (hcs : k0 ≤ R.cells ∧ n0 ≤ R.slots) (hro : (S.map fun v => v.category).sum ≤ 8) (d : decode cc pc = .ok (.invokevirtual index, 3)) (kk : ∀ σ' : Sg, Okg G l cc nL own rt R X Z k0 n0 (pc + 3) L S σ' (F σ')) : Okg G l cc nL own rt R X Z k0 n0 pc L (.int x2 :: .int x1 :: k_rr G 82 :: S) σ (e_cV (m_X2_stepsOf x1 x2 σ) F) :=
  ok_cV (cb := ccV) (As := [.int x1, .int x2]) (ct_X2_stepsOf _ _  σ) mo_X2_stepsOf hi_X2_stepsOf lk rfl (ci := 2) rfl rfl (by decide) ko_82 hR rfl hcs hro d (fun b => kk b)
/-! CoatDinner$Steps.stepFrom(I)V -/
def d_X2_stepFrom_7 (x1 : Int32) (K : Sg → Option (Sg)) (H : Int32 → Sg → Option (Sg)) (x2 : Int32) (σ : Sg) : Option (Sg) := (if 5 ≤ x2 then K σ else e_cI (m_X4_hasPerson 83 x2 σ) (fun r3 σ2 => (if r3 = 0 then H (x2 + 1) σ2 else e_cV (m_X2_stepsOf x2 x1 σ2) (fun σ4 => H (x2 + 1) σ4))))
theorem od_X2_stepFrom_7 {G : KW} {l : Launch} (x1 : Int32)  {K : Sg → Option (Sg)} {H : Int32 → Sg → Option (Sg)} (hK : ∀  (σ : Sg), Okk G l cX2_stepFrom 3 RX2 none (rmo 3 70) ccV 35 [none, none, none] [] σ (K  σ)) (hH : ∀ (x2 : Int32) (σ : Sg), Okk G l cX2_stepFrom 3 RX2 none (rmo 3 70) ccV 7 [some (k_rr G 82), some (.int x1), some (.int x2)] [] σ (H x2 σ)) (x2 : Int32)  (σ : Sg) : Okk G l cX2_stepFrom 3 RX2 none (rmo 3 70) ccV 7 [some (k_rr G 82), some (.int x1), some (.int x2)] [] σ (d_X2_stepFrom_7 x1 K H x2 σ) := by
  unfold d_X2_stepFrom_7
  refine ok_iload2 (dq_of td_X2_stepFrom 5 rfl) ?_
  refine ok_iconst (v := 5) (dq_of td_X2_stepFrom 6 rfl) (by decide) ?_
  refine ok_ic_ge (tgt := 35) (dq_of td_X2_stepFrom 7 rfl) (by decide) ?_ ?_
  · refine ok_wk (wk_n (wk_n (wk_n wk_0))) ?_
    exact hK _
  · refine ok_aload0 (dq_of td_X2_stepFrom 8 rfl) ?_
    refine ok_get (v := k_rr G 83) fl_X2_12 (by decide) ko_82 rfl (dq_of td_X2_stepFrom 9 rfl) ?_
    refine ok_iload2 (dq_of td_X2_stepFrom 10 rfl) ?_
    refine call_X4_hasPerson ml_X2_85 tw_83 ⟨Nat.le_of_ble_eq_true rfl, Nat.le_of_ble_eq_true rfl⟩ ⟨Nat.zero_le _, Nat.zero_le _⟩ (Nat.le_of_ble_eq_true rfl) (dq_of td_X2_stepFrom 11 rfl) (fun r3 σ2 => ?_)
    refine ok_if_eq (tgt := 29) (dq_of td_X2_stepFrom 12 rfl) (by decide) ?_ ?_
    · refine ok_jinc2 (w := 1) (dq_of td_X2_stepFrom 17 rfl) (by decide) rfl (by decide) ?_
      refine ok_goto (tgt := 7) (dq_of td_X2_stepFrom 18 rfl) (by decide) ?_
      refine ok_wk (wk_s (wk_s (wk_s wk_0))) ?_
      exact hH _ _
    · refine ok_aload0 (dq_of td_X2_stepFrom 13 rfl) ?_
      refine ok_iload2 (dq_of td_X2_stepFrom 14 rfl) ?_
      refine ok_iload1 (dq_of td_X2_stepFrom 15 rfl) ?_
      refine call_X2_stepsOf ml_X2_89  ⟨Nat.le_of_ble_eq_true rfl, Nat.le_of_ble_eq_true rfl⟩ ⟨Nat.zero_le _, Nat.zero_le _⟩ (Nat.le_of_ble_eq_true rfl) (dq_of td_X2_stepFrom 16 rfl) (fun σ4 => ?_)
      refine ok_jinc2 (w := 1) (dq_of td_X2_stepFrom 17 rfl) (by decide) rfl (by decide) ?_
      refine ok_goto (tgt := 7) (dq_of td_X2_stepFrom 18 rfl) (by decide) ?_
      refine ok_wk (wk_s (wk_s (wk_s wk_0))) ?_
      exact hH _ _
theorem ld_X2_stepFrom_7 {G : KW} {l : Launch} (x1 : Int32)  {K : Sg → Option (Sg)} (hK : ∀  (σ : Sg), Okk G l cX2_stepFrom 3 RX2 none (rmo 3 70) ccV 35 [none, none, none] [] σ (K  σ)) (n : Nat) (x2 : Int32) (σ : Sg) : Okk G l cX2_stepFrom 3 RX2 none (rmo 3 70) ccV 7 [some (k_rr G 82), some (.int x1), some (.int x2)] [] σ (e_lp1 (d_X2_stepFrom_7 x1 K) n x2 σ) :=
  ok_lp1 (Lf := fun (x2 : Int32) => [some (k_rr G 82), some (.int x1), some (.int x2)]) (fun _ hH x2 σ => od_X2_stepFrom_7 _  hK hH x2 σ) n x2 σ
def m_X2_stepFrom (x1 : Int32) (σ : Sg) : Option (Sg) := e_cV (m_X2_dress x1 σ) (fun σ1 => e_lp1 (d_X2_stepFrom_7 x1 (fun σ5 => some σ5)) e_F 0 σ1)
theorem om_X2_stepFrom {G : KW} {l : Launch} (x1 : Int32)  (σ : Sg) : Okk G l cX2_stepFrom 3 RX2 none (rmo 3 70) ccV 0 [some (k_rr G 82), some (.int x1), none] [] σ (m_X2_stepFrom x1 σ) := by
  unfold m_X2_stepFrom
  refine ok_aload0 (dq_of td_X2_stepFrom 0 rfl) ?_
  refine ok_iload1 (dq_of td_X2_stepFrom 1 rfl) ?_
  refine call_X2_dress ml_X2_67  ⟨Nat.le_of_ble_eq_true rfl, Nat.le_of_ble_eq_true rfl⟩ ⟨Nat.zero_le _, Nat.zero_le _⟩ (Nat.le_of_ble_eq_true rfl) (dq_of td_X2_stepFrom 2 rfl) (fun σ1 => ?_)
  refine ok_iconst (v := 0) (dq_of td_X2_stepFrom 3 rfl) (by decide) ?_
  refine ok_istore2 (dq_of td_X2_stepFrom 4 rfl) rfl (by decide) ?_
  refine ok_wk (wk_s (wk_s (wk_s wk_0))) ?_
  refine ld_X2_stepFrom_7 _  (fun σ5 => ?_) _ _ _
  exact ok_vret (dq_of td_X2_stepFrom 19 rfl)
theorem ct_X2_stepFrom {G : KW} {l : Launch} (x1 : Int32)  (σ : Sg) : ∀ b, m_X2_stepFrom x1 σ = some b → MetF G l yX2_stepFrom cX2_stepFrom 3 none 3 70 [k_rr G 82, .int x1] (k_wl G σ) (ccV b).1 (k_wl G (ccV b).2) :=
  met_of (by decide) (Nat.le_of_ble_eq_true rfl) rfl (om_X2_stepFrom _  σ)
theorem call_X2_stepFrom {G : KW} {l : Launch} {cc : ByteArray} {nL : Nat} {own : String} {rt : Option FieldType} {R : Room} {α : Type} {X : State → Array Value → Method → Prop} {Z : α → List Frame → Array Value → State → State → Prop} {k0 n0 pc index : Nat} {L : List (Option Value)} {S : List Value} {σ : Sg} {F : Sg → Option α} {x1 : Int32} (lk : MLk own index yX2_stepFrom)  (hR : R.frames ≥ 3 + 1 ∧ R.locals ≥ 8 + (3 + 11) + 70) (hcs : k0 ≤ R.cells ∧ n0 ≤ R.slots) (hro : (S.map fun v => v.category).sum ≤ 8) (d : decode cc pc = .ok (.invokevirtual index, 3)) (kk : ∀ σ' : Sg, Okg G l cc nL own rt R X Z k0 n0 (pc + 3) L S σ' (F σ')) : Okg G l cc nL own rt R X Z k0 n0 pc L (.int x1 :: k_rr G 82 :: S) σ (e_cV (m_X2_stepFrom x1 σ) F) :=
  ok_cV (cb := ccV) (As := [.int x1]) (ct_X2_stepFrom _  σ) mo_X2_stepFrom hi_X2_stepFrom lk rfl (ci := 2) rfl rfl (by decide) ko_82 hR rfl hcs hro d (fun b => kk b)
/-! CoatDinner$Steps.stepFromAll()V -/
def d_X2_stepFromAll_11  (K : Int32 → Sg → Option (Sg)) (H : Int32 → Int32 → Sg → Option (Sg)) (x1 : Int32) (x2 : Int32) (σ : Sg) : Option (Sg) := (if 32 ≤ x2 then K x1 σ else e_gd (k_in x1 243) ((if (σ 98 (Int32.toNatClampNeg x1)) = 0 then K x1 σ else e_gd (k_in x1 243) ((if ((jsr (σ 98 (Int32.toNatClampNeg x1)) x2) &&& 1) = 1 then e_cV (m_X2_stepFrom ((32 * x1) + x2) σ) (fun σ1 => H x1 (x2 + 1) σ1) else H x1 (x2 + 1) σ)))))
def d_X2_stepFromAll_2  (K : Sg → Option (Sg)) (H : Int32 → Sg → Option (Sg)) (x1 : Int32) (σ : Sg) : Option (Sg) := (if 243 ≤ x1 then K σ else e_lp2 (d_X2_stepFromAll_11  (fun x1q2 σ2 => H (x1q2 + 1) σ2)) e_F x1 0 σ)
theorem od_X2_stepFromAll_11 {G : KW} {l : Launch}   {K : Int32 → Sg → Option (Sg)} {H : Int32 → Int32 → Sg → Option (Sg)} (hK : ∀ (x1 : Int32) (σ : Sg), Okk G l cX2_stepFromAll 3 RX2 none (rmo 4 92) ccV 56 [some (k_rr G 82), some (.int x1), none] [] σ (K x1 σ)) (hH : ∀ (x1 : Int32) (x2 : Int32) (σ : Sg), Okk G l cX2_stepFromAll 3 RX2 none (rmo 4 92) ccV 11 [some (k_rr G 82), some (.int x1), some (.int x2)] [] σ (H x1 x2 σ)) (x1 : Int32) (x2 : Int32)  (σ : Sg) : Okk G l cX2_stepFromAll 3 RX2 none (rmo 4 92) ccV 11 [some (k_rr G 82), some (.int x1), some (.int x2)] [] σ (d_X2_stepFromAll_11  K H x1 x2 σ) := by
  unfold d_X2_stepFromAll_11
  refine ok_iload2 (dq_of td_X2_stepFromAll 7 rfl) ?_
  refine ok_bipush (v := 32) (dq_of td_X2_stepFromAll 8 rfl) (by decide) ?_
  refine ok_ic_ge (tgt := 56) (dq_of td_X2_stepFromAll 9 rfl) (by decide) ?_ ?_
  · refine ok_wk (wk_s (wk_s (wk_n wk_0))) ?_
    exact hK _ _
  · refine ok_aload0 (dq_of td_X2_stepFromAll 10 rfl) ?_
    refine ok_get (v := k_rr G 98) fl_X2_22 (by decide) ko_82 rfl (dq_of td_X2_stepFromAll 11 rfl) ?_
    refine ok_iload1 (dq_of td_X2_stepFromAll 12 rfl) ?_
    refine ok_iald ka_98 (dq_of td_X2_stepFromAll 13 rfl) ?_
    refine ok_if_eq (tgt := 56) (dq_of td_X2_stepFromAll 14 rfl) (by decide) ?_ ?_
    · refine ok_wk (wk_s (wk_s (wk_n wk_0))) ?_
      exact hK _ _
    · refine ok_aload0 (dq_of td_X2_stepFromAll 15 rfl) ?_
      refine ok_get (v := k_rr G 98) fl_X2_22 (by decide) ko_82 rfl (dq_of td_X2_stepFromAll 16 rfl) ?_
      refine ok_iload1 (dq_of td_X2_stepFromAll 17 rfl) ?_
      refine ok_iald ka_98 (dq_of td_X2_stepFromAll 18 rfl) ?_
      refine ok_iload2 (dq_of td_X2_stepFromAll 19 rfl) ?_
      refine ok_ishr (dq_of td_X2_stepFromAll 20 rfl) ?_
      refine ok_iconst (v := 1) (dq_of td_X2_stepFromAll 21 rfl) (by decide) ?_
      refine ok_iand (dq_of td_X2_stepFromAll 22 rfl) ?_
      refine ok_iconst (v := 1) (dq_of td_X2_stepFromAll 23 rfl) (by decide) ?_
      refine ok_ic_ne (tgt := 50) (dq_of td_X2_stepFromAll 24 rfl) (by decide) ?_ ?_
      · refine ok_jinc2 (w := 1) (dq_of td_X2_stepFromAll 32 rfl) (by decide) rfl (by decide) ?_
        refine ok_goto (tgt := 11) (dq_of td_X2_stepFromAll 33 rfl) (by decide) ?_
        refine ok_wk (wk_s (wk_s (wk_s wk_0))) ?_
        exact hH _ _ _
      · refine ok_aload0 (dq_of td_X2_stepFromAll 25 rfl) ?_
        refine ok_bipush (v := 32) (dq_of td_X2_stepFromAll 26 rfl) (by decide) ?_
        refine ok_iload1 (dq_of td_X2_stepFromAll 27 rfl) ?_
        refine ok_imul (dq_of td_X2_stepFromAll 28 rfl) ?_
        refine ok_iload2 (dq_of td_X2_stepFromAll 29 rfl) ?_
        refine ok_iadd (dq_of td_X2_stepFromAll 30 rfl) ?_
        refine call_X2_stepFrom ml_X2_82  ⟨Nat.le_of_ble_eq_true rfl, Nat.le_of_ble_eq_true rfl⟩ ⟨Nat.zero_le _, Nat.zero_le _⟩ (Nat.le_of_ble_eq_true rfl) (dq_of td_X2_stepFromAll 31 rfl) (fun σ1 => ?_)
        refine ok_jinc2 (w := 1) (dq_of td_X2_stepFromAll 32 rfl) (by decide) rfl (by decide) ?_
        refine ok_goto (tgt := 11) (dq_of td_X2_stepFromAll 33 rfl) (by decide) ?_
        refine ok_wk (wk_s (wk_s (wk_s wk_0))) ?_
        exact hH _ _ _
theorem ld_X2_stepFromAll_11 {G : KW} {l : Launch}   {K : Int32 → Sg → Option (Sg)} (hK : ∀ (x1 : Int32) (σ : Sg), Okk G l cX2_stepFromAll 3 RX2 none (rmo 4 92) ccV 56 [some (k_rr G 82), some (.int x1), none] [] σ (K x1 σ)) (n : Nat) (x1 : Int32) (x2 : Int32) (σ : Sg) : Okk G l cX2_stepFromAll 3 RX2 none (rmo 4 92) ccV 11 [some (k_rr G 82), some (.int x1), some (.int x2)] [] σ (e_lp2 (d_X2_stepFromAll_11  K) n x1 x2 σ) :=
  ok_lp2 (Lf := fun (x1 : Int32) (x2 : Int32) => [some (k_rr G 82), some (.int x1), some (.int x2)]) (fun _ hH x1 x2 σ => od_X2_stepFromAll_11   hK hH x1 x2 σ) n x1 x2 σ
theorem od_X2_stepFromAll_2 {G : KW} {l : Launch}   {K : Sg → Option (Sg)} {H : Int32 → Sg → Option (Sg)} (hK : ∀  (σ : Sg), Okk G l cX2_stepFromAll 3 RX2 none (rmo 4 92) ccV 62 [none, none, none] [] σ (K  σ)) (hH : ∀ (x1 : Int32) (σ : Sg), Okk G l cX2_stepFromAll 3 RX2 none (rmo 4 92) ccV 2 [some (k_rr G 82), some (.int x1), none] [] σ (H x1 σ)) (x1 : Int32)  (σ : Sg) : Okk G l cX2_stepFromAll 3 RX2 none (rmo 4 92) ccV 2 [some (k_rr G 82), some (.int x1), none] [] σ (d_X2_stepFromAll_2  K H x1 σ) := by
  unfold d_X2_stepFromAll_2
  refine ok_iload1 (dq_of td_X2_stepFromAll 2 rfl) ?_
  refine ok_sipush (v := 243) (dq_of td_X2_stepFromAll 3 rfl) (by decide) ?_
  refine ok_ic_ge (tgt := 62) (dq_of td_X2_stepFromAll 4 rfl) (by decide) ?_ ?_
  · refine ok_wk (wk_n (wk_n (wk_n wk_0))) ?_
    exact hK _
  · refine ok_iconst (v := 0) (dq_of td_X2_stepFromAll 5 rfl) (by decide) ?_
    refine ok_istore2 (dq_of td_X2_stepFromAll 6 rfl) rfl (by decide) ?_
    refine ok_wk (wk_s (wk_s (wk_s wk_0))) ?_
    refine ld_X2_stepFromAll_11   (fun x1q2 σ2 => ?_) _ _ _ _
    refine ok_jinc1 (w := 1) (dq_of td_X2_stepFromAll 34 rfl) (by decide) rfl (by decide) ?_
    refine ok_goto (tgt := 2) (dq_of td_X2_stepFromAll 35 rfl) (by decide) ?_
    refine ok_wk (wk_s (wk_s (wk_n wk_0))) ?_
    exact hH _ _
theorem ld_X2_stepFromAll_2 {G : KW} {l : Launch}   {K : Sg → Option (Sg)} (hK : ∀  (σ : Sg), Okk G l cX2_stepFromAll 3 RX2 none (rmo 4 92) ccV 62 [none, none, none] [] σ (K  σ)) (n : Nat) (x1 : Int32) (σ : Sg) : Okk G l cX2_stepFromAll 3 RX2 none (rmo 4 92) ccV 2 [some (k_rr G 82), some (.int x1), none] [] σ (e_lp1 (d_X2_stepFromAll_2  K) n x1 σ) :=
  ok_lp1 (Lf := fun (x1 : Int32) => [some (k_rr G 82), some (.int x1), none]) (fun _ hH x1 σ => od_X2_stepFromAll_2   hK hH x1 σ) n x1 σ
def m_X2_stepFromAll  (σ : Sg) : Option (Sg) := e_lp1 (d_X2_stepFromAll_2  (fun σ3 => some σ3)) e_F 0 σ
theorem om_X2_stepFromAll {G : KW} {l : Launch}   (σ : Sg) : Okk G l cX2_stepFromAll 3 RX2 none (rmo 4 92) ccV 0 [some (k_rr G 82), none, none] [] σ (m_X2_stepFromAll  σ) := by
  unfold m_X2_stepFromAll
  refine ok_iconst (v := 0) (dq_of td_X2_stepFromAll 0 rfl) (by decide) ?_
  refine ok_istore1 (dq_of td_X2_stepFromAll 1 rfl) rfl (by decide) ?_
  refine ok_wk (wk_s (wk_s (wk_n wk_0))) ?_
  refine ld_X2_stepFromAll_2   (fun σ3 => ?_) _ _ _
  exact ok_vret (dq_of td_X2_stepFromAll 36 rfl)
theorem ct_X2_stepFromAll {G : KW} {l : Launch}   (σ : Sg) : ∀ b, m_X2_stepFromAll  σ = some b → MetF G l yX2_stepFromAll cX2_stepFromAll 3 none 4 92 [k_rr G 82] (k_wl G σ) (ccV b).1 (k_wl G (ccV b).2) :=
  met_of (by decide) (Nat.le_of_ble_eq_true rfl) rfl (om_X2_stepFromAll   σ)
theorem call_X2_stepFromAll {G : KW} {l : Launch} {cc : ByteArray} {nL : Nat} {own : String} {rt : Option FieldType} {R : Room} {α : Type} {X : State → Array Value → Method → Prop} {Z : α → List Frame → Array Value → State → State → Prop} {k0 n0 pc index : Nat} {L : List (Option Value)} {S : List Value} {σ : Sg} {F : Sg → Option α}  (lk : MLk own index yX2_stepFromAll)  (hR : R.frames ≥ 4 + 1 ∧ R.locals ≥ 8 + (3 + 11) + 92) (hcs : k0 ≤ R.cells ∧ n0 ≤ R.slots) (hro : (S.map fun v => v.category).sum ≤ 8) (d : decode cc pc = .ok (.invokevirtual index, 3)) (kk : ∀ σ' : Sg, Okg G l cc nL own rt R X Z k0 n0 (pc + 3) L S σ' (F σ')) : Okg G l cc nL own rt R X Z k0 n0 pc L (k_rr G 82 :: S) σ (e_cV (m_X2_stepFromAll  σ) F) :=
  ok_cV (cb := ccV) (As := []) (ct_X2_stepFromAll   σ) mo_X2_stepFromAll hi_X2_stepFromAll lk rfl (ci := 2) rfl rfl (by decide) ko_82 hR rfl hcs hro d (fun b => kk b)
/-! CoatDinner$Steps.fewest(LCoatDinner$Town;III)I -/
def d_X2_fewest_22 (x1 : Nat) (x2 : Int32) (x3 : Int32) (x4 : Int32) (K : Sg → Option (Int32 × Sg)) (H : Int32 → Sg → Option (Int32 × Sg)) (x5 : Int32) (σ : Sg) : Option (Int32 × Sg) := (if 243 ≤ x5 then K σ else e_wr σ 97 x5 243 0 (fun σ3 => e_wr σ3 98 x5 243 0 (fun σ4 => e_wr σ4 99 x5 243 0 (fun σ5 => H (x5 + 1) σ5))))
def d_X2_fewest_71 (x1 : Nat) (x2 : Int32) (x3 : Int32) (x4 : Int32) (K : Sg → Option (Int32 × Sg)) (H : Int32 → Sg → Option (Int32 × Sg)) (x5 : Int32) (σ : Sg) : Option (Int32 × Sg) := (if 6 < x5 then K σ else e_cV (m_X2_takeFollowing σ) (fun σ10 => e_cI (m_X2_anyFits x2 x3 x4 σ10) (fun r12 σ11 => (if r12 = 0 then (if 6 ≤ x5 then H (x5 + 1) σ11 else e_cV (m_X2_stepFromAll σ11) (fun σ13 => H (x5 + 1) σ13)) else some (x5, σ11)))))
theorem od_X2_fewest_22 {G : KW} {l : Launch} (x1 : Nat) (x2 : Int32) (x3 : Int32) (x4 : Int32) (hx1 : k_tw x1) {K : Sg → Option (Int32 × Sg)} {H : Int32 → Sg → Option (Int32 × Sg)} (hK : ∀  (σ : Sg), Okk G l cX2_fewest 6 RX2 (some .int) (rmo 5 114) ccI 60 [some (k_rr G 82), none, some (.int x2), some (.int x3), some (.int x4), none] [] σ (K  σ)) (hH : ∀ (x5 : Int32) (σ : Sg), Okk G l cX2_fewest 6 RX2 (some .int) (rmo 5 114) ccI 22 [some (k_rr G 82), none, some (.int x2), some (.int x3), some (.int x4), some (.int x5)] [] σ (H x5 σ)) (x5 : Int32)  (σ : Sg) : Okk G l cX2_fewest 6 RX2 (some .int) (rmo 5 114) ccI 22 [some (k_rr G 82), none, some (.int x2), some (.int x3), some (.int x4), some (.int x5)] [] σ (d_X2_fewest_22 x1 x2 x3 x4 K H x5 σ) := by
  unfold d_X2_fewest_22
  refine ok_iload5 (dq_of td_X2_fewest 11 rfl) ?_
  refine ok_sipush (v := 243) (dq_of td_X2_fewest 12 rfl) (by decide) ?_
  refine ok_ic_ge (tgt := 60) (dq_of td_X2_fewest 13 rfl) (by decide) ?_ ?_
  · refine ok_wk (wk_s (wk_n (wk_s (wk_s (wk_s (wk_n wk_0)))))) ?_
    exact hK _
  · refine ok_aload0 (dq_of td_X2_fewest 14 rfl) ?_
    refine ok_get (v := k_rr G 97) fl_X2_18 (by decide) ko_82 rfl (dq_of td_X2_fewest 15 rfl) ?_
    refine ok_iload5 (dq_of td_X2_fewest 16 rfl) ?_
    refine ok_iconst (v := 0) (dq_of td_X2_fewest 17 rfl) (by decide) ?_
    refine ok_iast ka_97 (dq_of td_X2_fewest 18 rfl) (fun σ3 => ?_)
    refine ok_aload0 (dq_of td_X2_fewest 19 rfl) ?_
    refine ok_get (v := k_rr G 98) fl_X2_22 (by decide) ko_82 rfl (dq_of td_X2_fewest 20 rfl) ?_
    refine ok_iload5 (dq_of td_X2_fewest 21 rfl) ?_
    refine ok_iconst (v := 0) (dq_of td_X2_fewest 22 rfl) (by decide) ?_
    refine ok_iast ka_98 (dq_of td_X2_fewest 23 rfl) (fun σ4 => ?_)
    refine ok_aload0 (dq_of td_X2_fewest 24 rfl) ?_
    refine ok_get (v := k_rr G 99) fl_X2_25 (by decide) ko_82 rfl (dq_of td_X2_fewest 25 rfl) ?_
    refine ok_iload5 (dq_of td_X2_fewest 26 rfl) ?_
    refine ok_iconst (v := 0) (dq_of td_X2_fewest 27 rfl) (by decide) ?_
    refine ok_iast ka_99 (dq_of td_X2_fewest 28 rfl) (fun σ5 => ?_)
    refine ok_jinc5 (w := 1) (dq_of td_X2_fewest 29 rfl) (by decide) rfl (by decide) ?_
    refine ok_goto (tgt := 22) (dq_of td_X2_fewest 30 rfl) (by decide) ?_
    refine ok_wk (wk_s (wk_n (wk_s (wk_s (wk_s (wk_s wk_0)))))) ?_
    exact hH _ _
theorem ld_X2_fewest_22 {G : KW} {l : Launch} (x1 : Nat) (x2 : Int32) (x3 : Int32) (x4 : Int32) (hx1 : k_tw x1) {K : Sg → Option (Int32 × Sg)} (hK : ∀  (σ : Sg), Okk G l cX2_fewest 6 RX2 (some .int) (rmo 5 114) ccI 60 [some (k_rr G 82), none, some (.int x2), some (.int x3), some (.int x4), none] [] σ (K  σ)) (n : Nat) (x5 : Int32) (σ : Sg) : Okk G l cX2_fewest 6 RX2 (some .int) (rmo 5 114) ccI 22 [some (k_rr G 82), none, some (.int x2), some (.int x3), some (.int x4), some (.int x5)] [] σ (e_lp1 (d_X2_fewest_22 x1 x2 x3 x4 K) n x5 σ) :=
  ok_lp1 (Lf := fun (x5 : Int32) => [some (k_rr G 82), none, some (.int x2), some (.int x3), some (.int x4), some (.int x5)]) (fun _ hH x5 σ => od_X2_fewest_22 _ _ _ _ hx1 hK hH x5 σ) n x5 σ
theorem od_X2_fewest_71 {G : KW} {l : Launch} (x1 : Nat) (x2 : Int32) (x3 : Int32) (x4 : Int32) (hx1 : k_tw x1) {K : Sg → Option (Int32 × Sg)} {H : Int32 → Sg → Option (Int32 × Sg)} (hK : ∀  (σ : Sg), Okk G l cX2_fewest 6 RX2 (some .int) (rmo 5 114) ccI 113 [none, none, none, none, none, none] [] σ (K  σ)) (hH : ∀ (x5 : Int32) (σ : Sg), Okk G l cX2_fewest 6 RX2 (some .int) (rmo 5 114) ccI 71 [some (k_rr G 82), none, some (.int x2), some (.int x3), some (.int x4), some (.int x5)] [] σ (H x5 σ)) (x5 : Int32)  (σ : Sg) : Okk G l cX2_fewest 6 RX2 (some .int) (rmo 5 114) ccI 71 [some (k_rr G 82), none, some (.int x2), some (.int x3), some (.int x4), some (.int x5)] [] σ (d_X2_fewest_71 x1 x2 x3 x4 K H x5 σ) := by
  unfold d_X2_fewest_71
  refine ok_iload5 (dq_of td_X2_fewest 37 rfl) ?_
  refine ok_bipush (v := 6) (dq_of td_X2_fewest 38 rfl) (by decide) ?_
  refine ok_ic_gt (tgt := 113) (dq_of td_X2_fewest 39 rfl) (by decide) ?_ ?_
  · refine ok_wk (wk_n (wk_n (wk_n (wk_n (wk_n (wk_n wk_0)))))) ?_
    exact hK _
  · refine ok_aload0 (dq_of td_X2_fewest 40 rfl) ?_
    refine call_X2_takeFollowing ml_X2_49  ⟨Nat.le_of_ble_eq_true rfl, Nat.le_of_ble_eq_true rfl⟩ ⟨Nat.zero_le _, Nat.zero_le _⟩ (Nat.le_of_ble_eq_true rfl) (dq_of td_X2_fewest 41 rfl) (fun σ10 => ?_)
    refine ok_aload0 (dq_of td_X2_fewest 42 rfl) ?_
    refine ok_iload2 (dq_of td_X2_fewest 43 rfl) ?_
    refine ok_iload3 (dq_of td_X2_fewest 44 rfl) ?_
    refine ok_iload4 (dq_of td_X2_fewest 45 rfl) ?_
    refine call_X2_anyFits ml_X2_52  ⟨Nat.le_of_ble_eq_true rfl, Nat.le_of_ble_eq_true rfl⟩ ⟨Nat.zero_le _, Nat.zero_le _⟩ (Nat.le_of_ble_eq_true rfl) (dq_of td_X2_fewest 46 rfl) (fun r12 σ11 => ?_)
    refine ok_if_eq (tgt := 96) (dq_of td_X2_fewest 47 rfl) (by decide) ?_ ?_
    · refine ok_iload5 (dq_of td_X2_fewest 50 rfl) ?_
      refine ok_bipush (v := 6) (dq_of td_X2_fewest 51 rfl) (by decide) ?_
      refine ok_ic_ge (tgt := 107) (dq_of td_X2_fewest 52 rfl) (by decide) ?_ ?_
      · refine ok_jinc5 (w := 1) (dq_of td_X2_fewest 55 rfl) (by decide) rfl (by decide) ?_
        refine ok_goto (tgt := 71) (dq_of td_X2_fewest 56 rfl) (by decide) ?_
        refine ok_wk (wk_s (wk_n (wk_s (wk_s (wk_s (wk_s wk_0)))))) ?_
        exact hH _ _
      · refine ok_aload0 (dq_of td_X2_fewest 53 rfl) ?_
        refine call_X2_stepFromAll ml_X2_56  ⟨Nat.le_of_ble_eq_true rfl, Nat.le_of_ble_eq_true rfl⟩ ⟨Nat.zero_le _, Nat.zero_le _⟩ (Nat.le_of_ble_eq_true rfl) (dq_of td_X2_fewest 54 rfl) (fun σ13 => ?_)
        refine ok_jinc5 (w := 1) (dq_of td_X2_fewest 55 rfl) (by decide) rfl (by decide) ?_
        refine ok_goto (tgt := 71) (dq_of td_X2_fewest 56 rfl) (by decide) ?_
        refine ok_wk (wk_s (wk_n (wk_s (wk_s (wk_s (wk_s wk_0)))))) ?_
        exact hH _ _
    · refine ok_iload5 (dq_of td_X2_fewest 48 rfl) ?_
      exact ok_iret (dq_of td_X2_fewest 49 rfl)
theorem ld_X2_fewest_71 {G : KW} {l : Launch} (x1 : Nat) (x2 : Int32) (x3 : Int32) (x4 : Int32) (hx1 : k_tw x1) {K : Sg → Option (Int32 × Sg)} (hK : ∀  (σ : Sg), Okk G l cX2_fewest 6 RX2 (some .int) (rmo 5 114) ccI 113 [none, none, none, none, none, none] [] σ (K  σ)) (n : Nat) (x5 : Int32) (σ : Sg) : Okk G l cX2_fewest 6 RX2 (some .int) (rmo 5 114) ccI 71 [some (k_rr G 82), none, some (.int x2), some (.int x3), some (.int x4), some (.int x5)] [] σ (e_lp1 (d_X2_fewest_71 x1 x2 x3 x4 K) n x5 σ) :=
  ok_lp1 (Lf := fun (x5 : Int32) => [some (k_rr G 82), none, some (.int x2), some (.int x3), some (.int x4), some (.int x5)]) (fun _ hH x5 σ => od_X2_fewest_71 _ _ _ _ hx1 hK hH x5 σ) n x5 σ
def m_X2_fewest (x1 : Nat) (x2 : Int32) (x3 : Int32) (x4 : Int32) (σ : Sg) : Option (Int32 × Sg) := e_cV (m_X4_become 83 x1 σ) (fun σ1 => e_cV (m_X3_lay 83 σ1) (fun σ2 => e_lp1 (d_X2_fewest_22 x1 x2 x3 x4 (fun σ6 => e_cI (m_X2_wayNumber σ6) (fun r8 σ7 => e_cV (m_X2_reach r8 σ7) (fun σ9 => e_lp1 (d_X2_fewest_71 x1 x2 x3 x4 (fun σ14 => some ((-6), σ14))) e_F 0 σ9)))) e_F 0 σ2))
theorem om_X2_fewest {G : KW} {l : Launch} (x1 : Nat) (x2 : Int32) (x3 : Int32) (x4 : Int32) (hx1 : k_tw x1) (σ : Sg) : Okk G l cX2_fewest 6 RX2 (some .int) (rmo 5 114) ccI 0 [some (k_rr G 82), some (k_rr G x1), some (.int x2), some (.int x3), some (.int x4), none] [] σ (m_X2_fewest x1 x2 x3 x4 σ) := by
  unfold m_X2_fewest
  refine ok_aload0 (dq_of td_X2_fewest 0 rfl) ?_
  refine ok_get (v := k_rr G 83) fl_X2_12 (by decide) ko_82 rfl (dq_of td_X2_fewest 1 rfl) ?_
  refine ok_aload1 (dq_of td_X2_fewest 2 rfl) ?_
  refine call_X4_become ml_X2_32 tw_83 hx1 ⟨Nat.le_of_ble_eq_true rfl, Nat.le_of_ble_eq_true rfl⟩ ⟨Nat.zero_le _, Nat.zero_le _⟩ (Nat.le_of_ble_eq_true rfl) (dq_of td_X2_fewest 3 rfl) (fun σ1 => ?_)
  refine ok_aload0 (dq_of td_X2_fewest 4 rfl) ?_
  refine ok_get (v := k_rr G 60) fl_X2_28 (by decide) ko_82 rfl (dq_of td_X2_fewest 5 rfl) ?_
  refine ok_aload0 (dq_of td_X2_fewest 6 rfl) ?_
  refine ok_get (v := k_rr G 83) fl_X2_12 (by decide) ko_82 rfl (dq_of td_X2_fewest 7 rfl) ?_
  refine call_X3_lay ml_X2_36 tw_83 ⟨Nat.le_of_ble_eq_true rfl, Nat.le_of_ble_eq_true rfl⟩ ⟨Nat.zero_le _, Nat.zero_le _⟩ (Nat.le_of_ble_eq_true rfl) (dq_of td_X2_fewest 8 rfl) (fun σ2 => ?_)
  refine ok_iconst (v := 0) (dq_of td_X2_fewest 9 rfl) (by decide) ?_
  refine ok_istore5 (dq_of td_X2_fewest 10 rfl) rfl (by decide) ?_
  refine ok_wk (wk_s (wk_n (wk_s (wk_s (wk_s (wk_s wk_0)))))) ?_
  refine ld_X2_fewest_22 _ _ _ _ hx1 (fun σ6 => ?_) _ _ _
  refine ok_aload0 (dq_of td_X2_fewest 31 rfl) ?_
  refine ok_aload0 (dq_of td_X2_fewest 32 rfl) ?_
  refine call_X2_wayNumber ml_X2_41  ⟨Nat.le_of_ble_eq_true rfl, Nat.le_of_ble_eq_true rfl⟩ ⟨Nat.zero_le _, Nat.zero_le _⟩ (Nat.le_of_ble_eq_true rfl) (dq_of td_X2_fewest 33 rfl) (fun r8 σ7 => ?_)
  refine call_X2_reach ml_X2_45  ⟨Nat.le_of_ble_eq_true rfl, Nat.le_of_ble_eq_true rfl⟩ ⟨Nat.zero_le _, Nat.zero_le _⟩ (Nat.le_of_ble_eq_true rfl) (dq_of td_X2_fewest 34 rfl) (fun σ9 => ?_)
  refine ok_iconst (v := 0) (dq_of td_X2_fewest 35 rfl) (by decide) ?_
  refine ok_istore5 (dq_of td_X2_fewest 36 rfl) rfl (by decide) ?_
  refine ok_wk (wk_s (wk_n (wk_s (wk_s (wk_s (wk_s wk_0)))))) ?_
  refine ld_X2_fewest_71 _ _ _ _ hx1 (fun σ14 => ?_) _ _ _
  refine ok_bipush (v := (-6)) (dq_of td_X2_fewest 57 rfl) (by decide) ?_
  exact ok_iret (dq_of td_X2_fewest 58 rfl)
theorem ct_X2_fewest {G : KW} {l : Launch} (x1 : Nat) (x2 : Int32) (x3 : Int32) (x4 : Int32) (hx1 : k_tw x1) (σ : Sg) : ∀ b, m_X2_fewest x1 x2 x3 x4 σ = some b → MetF G l yX2_fewest cX2_fewest 6 (some .int) 5 114 [k_rr G 82, k_rr G x1, .int x2, .int x3, .int x4] (k_wl G σ) (ccI b).1 (k_wl G (ccI b).2) :=
  met_of (by decide) (Nat.le_of_ble_eq_true rfl) rfl (om_X2_fewest _ _ _ _ hx1 σ)
theorem call_X2_fewest {G : KW} {l : Launch} {cc : ByteArray} {nL : Nat} {own : String} {rt : Option FieldType} {R : Room} {α : Type} {X : State → Array Value → Method → Prop} {Z : α → List Frame → Array Value → State → State → Prop} {k0 n0 pc index : Nat} {L : List (Option Value)} {S : List Value} {σ : Sg} {F : Int32 → Sg → Option α} {x1 : Nat} {x2 : Int32} {x3 : Int32} {x4 : Int32} (lk : MLk own index yX2_fewest) (hx1 : k_tw x1) (hR : R.frames ≥ 5 + 1 ∧ R.locals ≥ 8 + (6 + 11) + 114) (hcs : k0 ≤ R.cells ∧ n0 ≤ R.slots) (hro : (S.map fun v => v.category).sum ≤ 8) (d : decode cc pc = .ok (.invokevirtual index, 3)) (kk : ∀ (r : Int32) (σ' : Sg), Okg G l cc nL own rt R X Z k0 n0 (pc + 3) L (.int r :: S) σ' (F r σ')) : Okg G l cc nL own rt R X Z k0 n0 pc L (.int x4 :: .int x3 :: .int x2 :: k_rr G x1 :: k_rr G 82 :: S) σ (e_cI (m_X2_fewest x1 x2 x3 x4 σ) F) :=
  ok_cV (cb := ccI) (As := [k_rr G x1, .int x2, .int x3, .int x4]) (ct_X2_fewest _ _ _ _ hx1 σ) mo_X2_fewest hi_X2_fewest lk rfl (ci := 2) rfl rfl (by decide) ko_82 hR rfl hcs hro d (fun b => kk b.1 b.2)
/-! CoatDinner$Table.sightsHold(LCoatDinner$Town;)Z -/
def d_X3_sightsHold_2 (x1 : Nat) (K : Sg → Option (Int32 × Sg)) (H : Int32 → Sg → Option (Int32 × Sg)) (x2 : Int32) (σ : Sg) : Option (Int32 × Sg) := (if (σ x1 3) ≤ x2 then K σ else (if 6 ≤ x2 then K σ else e_gd (k_in x2 6) (e_cI (m_X3_seatOf (σ (x1 + 12) (Int32.toNatClampNeg x2)) σ) (fun r2 σ1 => e_gd (k_in x2 6) ((if r2 = (σ1 (x1 + 13) (Int32.toNatClampNeg x2)) then H (x2 + 1) σ1 else e_rz 0 σ1))))))
theorem od_X3_sightsHold_2 {G : KW} {l : Launch} (x1 : Nat) (hx1 : k_tw x1) {K : Sg → Option (Int32 × Sg)} {H : Int32 → Sg → Option (Int32 × Sg)} (hK : ∀  (σ : Sg), Okk G l cX3_sightsHold 3 RX3 (some .boolean) (rmo 1 21) ccI 43 [none, none, none] [] σ (K  σ)) (hH : ∀ (x2 : Int32) (σ : Sg), Okk G l cX3_sightsHold 3 RX3 (some .boolean) (rmo 1 21) ccI 2 [some (k_rr G 60), some (k_rr G x1), some (.int x2)] [] σ (H x2 σ)) (x2 : Int32)  (σ : Sg) : Okk G l cX3_sightsHold 3 RX3 (some .boolean) (rmo 1 21) ccI 2 [some (k_rr G 60), some (k_rr G x1), some (.int x2)] [] σ (d_X3_sightsHold_2 x1 K H x2 σ) := by
  unfold d_X3_sightsHold_2
  refine ok_iload2 (dq_of td_X3_sightsHold 2 rfl) ?_
  refine ok_aload1 (dq_of td_X3_sightsHold 3 rfl) ?_
  refine ok_get (v := .int (σ x1 3)) fl_X3_41 (by decide) (isT_kd hx1) rfl (dq_of td_X3_sightsHold 4 rfl) ?_
  refine ok_ic_ge (tgt := 43) (dq_of td_X3_sightsHold 5 rfl) (by decide) ?_ ?_
  · refine ok_wk (wk_n (wk_n (wk_n wk_0))) ?_
    exact hK _
  · refine ok_iload2 (dq_of td_X3_sightsHold 6 rfl) ?_
    refine ok_bipush (v := 6) (dq_of td_X3_sightsHold 7 rfl) (by decide) ?_
    refine ok_ic_ge (tgt := 43) (dq_of td_X3_sightsHold 8 rfl) (by decide) ?_ ?_
    · refine ok_wk (wk_n (wk_n (wk_n wk_0))) ?_
      exact hK _
    · refine ok_aload0 (dq_of td_X3_sightsHold 9 rfl) ?_
      refine ok_aload1 (dq_of td_X3_sightsHold 10 rfl) ?_
      refine ok_get (v := k_rr G (x1 + 12)) fl_X3_45 (by decide) (isT_kd hx1) rfl (dq_of td_X3_sightsHold 11 rfl) ?_
      refine ok_iload2 (dq_of td_X3_sightsHold 12 rfl) ?_
      refine ok_iald (isT_a12 hx1) (dq_of td_X3_sightsHold 13 rfl) ?_
      refine call_X3_seatOf ml_X3_48  ⟨Nat.le_of_ble_eq_true rfl, Nat.le_of_ble_eq_true rfl⟩ ⟨Nat.zero_le _, Nat.zero_le _⟩ (Nat.le_of_ble_eq_true rfl) (dq_of td_X3_sightsHold 14 rfl) (fun r2 σ1 => ?_)
      refine ok_aload1 (dq_of td_X3_sightsHold 15 rfl) ?_
      refine ok_get (v := k_rr G (x1 + 13)) fl_X3_51 (by decide) (isT_kd hx1) rfl (dq_of td_X3_sightsHold 16 rfl) ?_
      refine ok_iload2 (dq_of td_X3_sightsHold 17 rfl) ?_
      refine ok_iald (isT_a13 hx1) (dq_of td_X3_sightsHold 18 rfl) ?_
      refine ok_ic_eq (tgt := 37) (dq_of td_X3_sightsHold 19 rfl) (by decide) ?_ ?_
      · refine ok_jinc2 (w := 1) (dq_of td_X3_sightsHold 22 rfl) (by decide) rfl (by decide) ?_
        refine ok_goto (tgt := 2) (dq_of td_X3_sightsHold 23 rfl) (by decide) ?_
        refine ok_wk (wk_s (wk_s (wk_s wk_0))) ?_
        exact hH _ _
      · refine ok_iconst (v := 0) (dq_of td_X3_sightsHold 20 rfl) (by decide) ?_
        exact ok_zret (dq_of td_X3_sightsHold 21 rfl)
theorem ld_X3_sightsHold_2 {G : KW} {l : Launch} (x1 : Nat) (hx1 : k_tw x1) {K : Sg → Option (Int32 × Sg)} (hK : ∀  (σ : Sg), Okk G l cX3_sightsHold 3 RX3 (some .boolean) (rmo 1 21) ccI 43 [none, none, none] [] σ (K  σ)) (n : Nat) (x2 : Int32) (σ : Sg) : Okk G l cX3_sightsHold 3 RX3 (some .boolean) (rmo 1 21) ccI 2 [some (k_rr G 60), some (k_rr G x1), some (.int x2)] [] σ (e_lp1 (d_X3_sightsHold_2 x1 K) n x2 σ) :=
  ok_lp1 (Lf := fun (x2 : Int32) => [some (k_rr G 60), some (k_rr G x1), some (.int x2)]) (fun _ hH x2 σ => od_X3_sightsHold_2 _ hx1 hK hH x2 σ) n x2 σ
def m_X3_sightsHold (x1 : Nat) (σ : Sg) : Option (Int32 × Sg) := e_lp1 (d_X3_sightsHold_2 x1 (fun σ3 => e_rz 1 σ3)) e_F 0 σ
theorem om_X3_sightsHold {G : KW} {l : Launch} (x1 : Nat) (hx1 : k_tw x1) (σ : Sg) : Okk G l cX3_sightsHold 3 RX3 (some .boolean) (rmo 1 21) ccI 0 [some (k_rr G 60), some (k_rr G x1), none] [] σ (m_X3_sightsHold x1 σ) := by
  unfold m_X3_sightsHold
  refine ok_iconst (v := 0) (dq_of td_X3_sightsHold 0 rfl) (by decide) ?_
  refine ok_istore2 (dq_of td_X3_sightsHold 1 rfl) rfl (by decide) ?_
  refine ok_wk (wk_s (wk_s (wk_s wk_0))) ?_
  refine ld_X3_sightsHold_2 _ hx1 (fun σ3 => ?_) _ _ _
  refine ok_iconst (v := 1) (dq_of td_X3_sightsHold 24 rfl) (by decide) ?_
  exact ok_zret (dq_of td_X3_sightsHold 25 rfl)
theorem ct_X3_sightsHold {G : KW} {l : Launch} (x1 : Nat) (hx1 : k_tw x1) (σ : Sg) : ∀ b, m_X3_sightsHold x1 σ = some b → MetF G l yX3_sightsHold cX3_sightsHold 3 (some .boolean) 1 21 [k_rr G 60, k_rr G x1] (k_wl G σ) (ccI b).1 (k_wl G (ccI b).2) :=
  met_of (by decide) (Nat.le_of_ble_eq_true rfl) rfl (om_X3_sightsHold _ hx1 σ)
theorem call_X3_sightsHold {G : KW} {l : Launch} {cc : ByteArray} {nL : Nat} {own : String} {rt : Option FieldType} {R : Room} {α : Type} {X : State → Array Value → Method → Prop} {Z : α → List Frame → Array Value → State → State → Prop} {k0 n0 pc index : Nat} {L : List (Option Value)} {S : List Value} {σ : Sg} {F : Int32 → Sg → Option α} {x1 : Nat} (lk : MLk own index yX3_sightsHold) (hx1 : k_tw x1) (hR : R.frames ≥ 1 + 1 ∧ R.locals ≥ 8 + (3 + 11) + 21) (hcs : k0 ≤ R.cells ∧ n0 ≤ R.slots) (hro : (S.map fun v => v.category).sum ≤ 8) (d : decode cc pc = .ok (.invokevirtual index, 3)) (kk : ∀ (r : Int32) (σ' : Sg), Okg G l cc nL own rt R X Z k0 n0 (pc + 3) L (.int r :: S) σ' (F r σ')) : Okg G l cc nL own rt R X Z k0 n0 pc L (k_rr G x1 :: k_rr G 60 :: S) σ (e_cI (m_X3_sightsHold x1 σ) F) :=
  ok_cV (cb := ccI) (As := [k_rr G x1]) (ct_X3_sightsHold _ hx1 σ) mo_X3_sightsHold hi_X3_sightsHold lk rfl (ci := 3) rfl rfl (by decide) ko_60 hR rfl hcs hro d (fun b => kk b.1 b.2)
/-! CoatDinner$Table.winner(LCoatDinner$Town;)I -/
def d_X3_winner_19 (x1 : Nat) (K : Int32 → Int32 → Int32 → Int32 → Sg → Option (Int32 × Sg)) (H : Int32 → Int32 → Int32 → Int32 → Int32 → Sg → Option (Int32 × Sg)) (x2 : Int32) (x3 : Int32) (x4 : Int32) (x5 : Int32) (x6 : Int32) (σ : Sg) : Option (Int32 × Sg) := (if 5 ≤ x6 then K x2 x3 x4 x5 σ else e_cI (m_X4_hasPerson x1 x6 σ) (fun r2 σ1 => (if r2 = 0 then H x2 x3 x4 x5 (x6 + 1) σ1 else e_gd (k_in x6 5) ((if (σ1 (x1 + 6) (Int32.toNatClampNeg x6)) = x4 then e_gd (k_in x6 5) (e_lt (x5 + (σ1 62 (Int32.toNatClampNeg x6))) (fun v3 => H x2 x3 x4 v3 (x6 + 1) σ1)) else H x2 x3 x4 x5 (x6 + 1) σ1)))))
def d_X3_winner_7 (x1 : Nat) (K : Int32 → Sg → Option (Int32 × Sg)) (H : Int32 → Int32 → Int32 → Sg → Option (Int32 × Sg)) (x2 : Int32) (x3 : Int32) (x4 : Int32) (σ : Sg) : Option (Int32 × Sg) := (if 3 ≤ x4 then K x2 σ else e_lp5 (d_X3_winner_19 x1 (fun x2q4 x3q4 x4q4 x5q4 σ4 => (if x5q4 ≤ x3q4 then H x2q4 x3q4 (x4q4 + 1) σ4 else H x4q4 x5q4 (x4q4 + 1) σ4))) e_F x2 x3 x4 0 0 σ)
theorem od_X3_winner_19 {G : KW} {l : Launch} (x1 : Nat) (hx1 : k_tw x1) {K : Int32 → Int32 → Int32 → Int32 → Sg → Option (Int32 × Sg)} {H : Int32 → Int32 → Int32 → Int32 → Int32 → Sg → Option (Int32 × Sg)} (hK : ∀ (x2 : Int32) (x3 : Int32) (x4 : Int32) (x5 : Int32) (σ : Sg), Okk G l cX3_winner 7 RX3 (some .int) (rmo 1 21) ccI 64 [some (k_rr G 60), some (k_rr G x1), some (.int x2), some (.int x3), some (.int x4), some (.int x5), none] [] σ (K x2 x3 x4 x5 σ)) (hH : ∀ (x2 : Int32) (x3 : Int32) (x4 : Int32) (x5 : Int32) (x6 : Int32) (σ : Sg), Okk G l cX3_winner 7 RX3 (some .int) (rmo 1 21) ccI 19 [some (k_rr G 60), some (k_rr G x1), some (.int x2), some (.int x3), some (.int x4), some (.int x5), some (.int x6)] [] σ (H x2 x3 x4 x5 x6 σ)) (x2 : Int32) (x3 : Int32) (x4 : Int32) (x5 : Int32) (x6 : Int32)  (σ : Sg) : Okk G l cX3_winner 7 RX3 (some .int) (rmo 1 21) ccI 19 [some (k_rr G 60), some (k_rr G x1), some (.int x2), some (.int x3), some (.int x4), some (.int x5), some (.int x6)] [] σ (d_X3_winner_19 x1 K H x2 x3 x4 x5 x6 σ) := by
  unfold d_X3_winner_19
  refine ok_iload6 (dq_of td_X3_winner 13 rfl) ?_
  refine ok_iconst (v := 5) (dq_of td_X3_winner 14 rfl) (by decide) ?_
  refine ok_ic_ge (tgt := 64) (dq_of td_X3_winner 15 rfl) (by decide) ?_ ?_
  · refine ok_wk (wk_s (wk_s (wk_s (wk_s (wk_s (wk_s (wk_n wk_0))))))) ?_
    exact hK _ _ _ _ _
  · refine ok_aload1 (dq_of td_X3_winner 16 rfl) ?_
    refine ok_iload6 (dq_of td_X3_winner 17 rfl) ?_
    refine call_X4_hasPerson ml_X3_31 hx1 ⟨Nat.le_of_ble_eq_true rfl, Nat.le_of_ble_eq_true rfl⟩ ⟨Nat.zero_le _, Nat.zero_le _⟩ (Nat.le_of_ble_eq_true rfl) (dq_of td_X3_winner 18 rfl) (fun r2 σ1 => ?_)
    refine ok_if_eq (tgt := 58) (dq_of td_X3_winner 19 rfl) (by decide) ?_ ?_
    · refine ok_jinc6 (w := 1) (dq_of td_X3_winner 33 rfl) (by decide) rfl (by decide) ?_
      refine ok_goto (tgt := 19) (dq_of td_X3_winner 34 rfl) (by decide) ?_
      refine ok_wk (wk_s (wk_s (wk_s (wk_s (wk_s (wk_s (wk_s wk_0))))))) ?_
      exact hH _ _ _ _ _ _
    · refine ok_aload1 (dq_of td_X3_winner 20 rfl) ?_
      refine ok_get (v := k_rr G (x1 + 6)) fl_X3_54 (by decide) (isT_kd hx1) rfl (dq_of td_X3_winner 21 rfl) ?_
      refine ok_iload6 (dq_of td_X3_winner 22 rfl) ?_
      refine ok_iald (isT_a6 hx1) (dq_of td_X3_winner 23 rfl) ?_
      refine ok_iload4 (dq_of td_X3_winner 24 rfl) ?_
      refine ok_ic_ne (tgt := 58) (dq_of td_X3_winner 25 rfl) (by decide) ?_ ?_
      · refine ok_jinc6 (w := 1) (dq_of td_X3_winner 33 rfl) (by decide) rfl (by decide) ?_
        refine ok_goto (tgt := 19) (dq_of td_X3_winner 34 rfl) (by decide) ?_
        refine ok_wk (wk_s (wk_s (wk_s (wk_s (wk_s (wk_s (wk_s wk_0))))))) ?_
        exact hH _ _ _ _ _ _
      · refine ok_iload5 (dq_of td_X3_winner 26 rfl) ?_
        refine ok_aload0 (dq_of td_X3_winner 27 rfl) ?_
        refine ok_get (v := k_rr G 62) fl_X3_15 (by decide) ko_60 rfl (dq_of td_X3_winner 28 rfl) ?_
        refine ok_iload6 (dq_of td_X3_winner 29 rfl) ?_
        refine ok_iald ka_62 (dq_of td_X3_winner 30 rfl) ?_
        refine ok_iadd (dq_of td_X3_winner 31 rfl) ?_
        refine ok_gI (fun v3 => ?_)
        refine ok_istore5 (dq_of td_X3_winner 32 rfl) rfl (by decide) ?_
        refine ok_jinc6 (w := 1) (dq_of td_X3_winner 33 rfl) (by decide) rfl (by decide) ?_
        refine ok_goto (tgt := 19) (dq_of td_X3_winner 34 rfl) (by decide) ?_
        refine ok_wk (wk_s (wk_s (wk_s (wk_s (wk_s (wk_s (wk_s wk_0))))))) ?_
        exact hH _ _ _ _ _ _
theorem ld_X3_winner_19 {G : KW} {l : Launch} (x1 : Nat) (hx1 : k_tw x1) {K : Int32 → Int32 → Int32 → Int32 → Sg → Option (Int32 × Sg)} (hK : ∀ (x2 : Int32) (x3 : Int32) (x4 : Int32) (x5 : Int32) (σ : Sg), Okk G l cX3_winner 7 RX3 (some .int) (rmo 1 21) ccI 64 [some (k_rr G 60), some (k_rr G x1), some (.int x2), some (.int x3), some (.int x4), some (.int x5), none] [] σ (K x2 x3 x4 x5 σ)) (n : Nat) (x2 : Int32) (x3 : Int32) (x4 : Int32) (x5 : Int32) (x6 : Int32) (σ : Sg) : Okk G l cX3_winner 7 RX3 (some .int) (rmo 1 21) ccI 19 [some (k_rr G 60), some (k_rr G x1), some (.int x2), some (.int x3), some (.int x4), some (.int x5), some (.int x6)] [] σ (e_lp5 (d_X3_winner_19 x1 K) n x2 x3 x4 x5 x6 σ) :=
  ok_lp5 (Lf := fun (x2 : Int32) (x3 : Int32) (x4 : Int32) (x5 : Int32) (x6 : Int32) => [some (k_rr G 60), some (k_rr G x1), some (.int x2), some (.int x3), some (.int x4), some (.int x5), some (.int x6)]) (fun _ hH x2 x3 x4 x5 x6 σ => od_X3_winner_19 _ hx1 hK hH x2 x3 x4 x5 x6 σ) n x2 x3 x4 x5 x6 σ
theorem od_X3_winner_7 {G : KW} {l : Launch} (x1 : Nat) (hx1 : k_tw x1) {K : Int32 → Sg → Option (Int32 × Sg)} {H : Int32 → Int32 → Int32 → Sg → Option (Int32 × Sg)} (hK : ∀ (x2 : Int32) (σ : Sg), Okk G l cX3_winner 7 RX3 (some .int) (rmo 1 21) ccI 82 [none, none, some (.int x2), none, none, none, none] [] σ (K x2 σ)) (hH : ∀ (x2 : Int32) (x3 : Int32) (x4 : Int32) (σ : Sg), Okk G l cX3_winner 7 RX3 (some .int) (rmo 1 21) ccI 7 [some (k_rr G 60), some (k_rr G x1), some (.int x2), some (.int x3), some (.int x4), none, none] [] σ (H x2 x3 x4 σ)) (x2 : Int32) (x3 : Int32) (x4 : Int32)  (σ : Sg) : Okk G l cX3_winner 7 RX3 (some .int) (rmo 1 21) ccI 7 [some (k_rr G 60), some (k_rr G x1), some (.int x2), some (.int x3), some (.int x4), none, none] [] σ (d_X3_winner_7 x1 K H x2 x3 x4 σ) := by
  unfold d_X3_winner_7
  refine ok_iload4 (dq_of td_X3_winner 6 rfl) ?_
  refine ok_iconst (v := 3) (dq_of td_X3_winner 7 rfl) (by decide) ?_
  refine ok_ic_ge (tgt := 82) (dq_of td_X3_winner 8 rfl) (by decide) ?_ ?_
  · refine ok_wk (wk_n (wk_n (wk_s (wk_n (wk_n (wk_n (wk_n wk_0))))))) ?_
    exact hK _ _
  · refine ok_iconst (v := 0) (dq_of td_X3_winner 9 rfl) (by decide) ?_
    refine ok_istore5 (dq_of td_X3_winner 10 rfl) rfl (by decide) ?_
    refine ok_iconst (v := 0) (dq_of td_X3_winner 11 rfl) (by decide) ?_
    refine ok_istore6 (dq_of td_X3_winner 12 rfl) rfl (by decide) ?_
    refine ok_wk (wk_s (wk_s (wk_s (wk_s (wk_s (wk_s (wk_s wk_0))))))) ?_
    refine ld_X3_winner_19 _ hx1 (fun x2q4 x3q4 x4q4 x5q4 σ4 => ?_) _ _ _ _ _ _ _
    refine ok_iload5 (dq_of td_X3_winner 35 rfl) ?_
    refine ok_iload3 (dq_of td_X3_winner 36 rfl) ?_
    refine ok_ic_le (tgt := 76) (dq_of td_X3_winner 37 rfl) (by decide) ?_ ?_
    · refine ok_jinc4 (w := 1) (dq_of td_X3_winner 42 rfl) (by decide) rfl (by decide) ?_
      refine ok_goto (tgt := 7) (dq_of td_X3_winner 43 rfl) (by decide) ?_
      refine ok_wk (wk_s (wk_s (wk_s (wk_s (wk_s (wk_n (wk_n wk_0))))))) ?_
      exact hH _ _ _ _
    · refine ok_iload4 (dq_of td_X3_winner 38 rfl) ?_
      refine ok_istore2 (dq_of td_X3_winner 39 rfl) rfl (by decide) ?_
      refine ok_iload5 (dq_of td_X3_winner 40 rfl) ?_
      refine ok_istore3 (dq_of td_X3_winner 41 rfl) rfl (by decide) ?_
      refine ok_jinc4 (w := 1) (dq_of td_X3_winner 42 rfl) (by decide) rfl (by decide) ?_
      refine ok_goto (tgt := 7) (dq_of td_X3_winner 43 rfl) (by decide) ?_
      refine ok_wk (wk_s (wk_s (wk_s (wk_s (wk_s (wk_n (wk_n wk_0))))))) ?_
      exact hH _ _ _ _
theorem ld_X3_winner_7 {G : KW} {l : Launch} (x1 : Nat) (hx1 : k_tw x1) {K : Int32 → Sg → Option (Int32 × Sg)} (hK : ∀ (x2 : Int32) (σ : Sg), Okk G l cX3_winner 7 RX3 (some .int) (rmo 1 21) ccI 82 [none, none, some (.int x2), none, none, none, none] [] σ (K x2 σ)) (n : Nat) (x2 : Int32) (x3 : Int32) (x4 : Int32) (σ : Sg) : Okk G l cX3_winner 7 RX3 (some .int) (rmo 1 21) ccI 7 [some (k_rr G 60), some (k_rr G x1), some (.int x2), some (.int x3), some (.int x4), none, none] [] σ (e_lp3 (d_X3_winner_7 x1 K) n x2 x3 x4 σ) :=
  ok_lp3 (Lf := fun (x2 : Int32) (x3 : Int32) (x4 : Int32) => [some (k_rr G 60), some (k_rr G x1), some (.int x2), some (.int x3), some (.int x4), none, none]) (fun _ hH x2 x3 x4 σ => od_X3_winner_7 _ hx1 hK hH x2 x3 x4 σ) n x2 x3 x4 σ
def m_X3_winner (x1 : Nat) (σ : Sg) : Option (Int32 × Sg) := e_lp3 (d_X3_winner_7 x1 (fun x2q5 σ5 => some (x2q5, σ5))) e_F 0 ((-1)) 0 σ
theorem om_X3_winner {G : KW} {l : Launch} (x1 : Nat) (hx1 : k_tw x1) (σ : Sg) : Okk G l cX3_winner 7 RX3 (some .int) (rmo 1 21) ccI 0 [some (k_rr G 60), some (k_rr G x1), none, none, none, none, none] [] σ (m_X3_winner x1 σ) := by
  unfold m_X3_winner
  refine ok_iconst (v := 0) (dq_of td_X3_winner 0 rfl) (by decide) ?_
  refine ok_istore2 (dq_of td_X3_winner 1 rfl) rfl (by decide) ?_
  refine ok_iconst (v := (-1)) (dq_of td_X3_winner 2 rfl) (by decide) ?_
  refine ok_istore3 (dq_of td_X3_winner 3 rfl) rfl (by decide) ?_
  refine ok_iconst (v := 0) (dq_of td_X3_winner 4 rfl) (by decide) ?_
  refine ok_istore4 (dq_of td_X3_winner 5 rfl) rfl (by decide) ?_
  refine ok_wk (wk_s (wk_s (wk_s (wk_s (wk_s (wk_n (wk_n wk_0))))))) ?_
  refine ld_X3_winner_7 _ hx1 (fun x2q5 σ5 => ?_) _ _ _ _ _
  refine ok_iload2 (dq_of td_X3_winner 44 rfl) ?_
  exact ok_iret (dq_of td_X3_winner 45 rfl)
theorem ct_X3_winner {G : KW} {l : Launch} (x1 : Nat) (hx1 : k_tw x1) (σ : Sg) : ∀ b, m_X3_winner x1 σ = some b → MetF G l yX3_winner cX3_winner 7 (some .int) 1 21 [k_rr G 60, k_rr G x1] (k_wl G σ) (ccI b).1 (k_wl G (ccI b).2) :=
  met_of (by decide) (Nat.le_of_ble_eq_true rfl) rfl (om_X3_winner _ hx1 σ)
theorem call_X3_winner {G : KW} {l : Launch} {cc : ByteArray} {nL : Nat} {own : String} {rt : Option FieldType} {R : Room} {α : Type} {X : State → Array Value → Method → Prop} {Z : α → List Frame → Array Value → State → State → Prop} {k0 n0 pc index : Nat} {L : List (Option Value)} {S : List Value} {σ : Sg} {F : Int32 → Sg → Option α} {x1 : Nat} (lk : MLk own index yX3_winner) (hx1 : k_tw x1) (hR : R.frames ≥ 1 + 1 ∧ R.locals ≥ 8 + (7 + 11) + 21) (hcs : k0 ≤ R.cells ∧ n0 ≤ R.slots) (hro : (S.map fun v => v.category).sum ≤ 8) (d : decode cc pc = .ok (.invokevirtual index, 3)) (kk : ∀ (r : Int32) (σ' : Sg), Okg G l cc nL own rt R X Z k0 n0 (pc + 3) L (.int r :: S) σ' (F r σ')) : Okg G l cc nL own rt R X Z k0 n0 pc L (k_rr G x1 :: k_rr G 60 :: S) σ (e_cI (m_X3_winner x1 σ) F) :=
  ok_cV (cb := ccI) (As := [k_rr G x1]) (ct_X3_winner _ hx1 σ) mo_X3_winner hi_X3_winner lk rfl (ci := 3) rfl rfl (by decide) ko_60 hR rfl hcs hro d (fun b => kk b.1 b.2)
