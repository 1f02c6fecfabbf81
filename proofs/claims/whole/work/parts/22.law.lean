/-! THE CLAIM OUT OF ONE WALK OF THE LAW'S BODY. Your part is whole_start (and what it stands on); all else here is the same for every law, but numbers. -/
def R_law : String := "CoatDinnerLaw"
def lw_P (b : Addr) (xs : List Int32) (args : Array Value) (s : State) : Prop := args = #[.ref b] ∧ s.IntsAt b xs ∧ xs.length ≤ 256 ∧ (Jvm.Cond.and given_1 narrow_1).before args s = true
def lw_Q (_ : Array Value) (s : State) (o : Outcome) (t : State) : Prop := o = .returned (some (.int 1)) ∧ Framed s o t [] 123 12726
def lw_Z (below : List Frame) (a : Array Value) (s : State) : State → Prop := fun t => ∃ o, t.status = .running ∧ Ended t below o ∧ lw_Q a s o t
/-- the law's own end, with 1 on the stack, nothing written that was there before, its room as the claim has it -/
theorem lw_ret {p : Program} {l : Launch} {e : Env} {s : State} {m : MethodId} {below : List Frame} {meth : Method} {c : Code} {b : Nat} (hx : p.tables.exec = Jvm.exec) (hb : c.code = code) (hr : meth.sig.returnType = ret) (hlocks : meth.locks = false) {pc : Nat} {H : Heap} {ls : Array Slot} (hdg : decode code pc = .ok (.ireturn, 1)) : W p l e room_1 s m #[Value.ref b] below meth c H [] 123 12726 (lw_Z below #[Value.ref b] s) (F0 m pc ls [.int 1]) := by
  intro T hT X
  obtain ⟨fs, hret, hrun, hended, hW, hframe⟩ := X.leave (v := some (.int 1)) (hlocks := hlocks) (fun h => by rw [hr] at h; cases h)
  have hmeth' : T.vm.method? m = some meth := X.method'
  refine ⟨T.setFrames fs, ?_, .returned (some (.int 1)), hrun, hended, rfl, ⟨_, rfl⟩, hW, hframe⟩
  jvm_step X.here [X.here.top, hx, hb, hdg, hmeth', hr, ret, narrow_b1]
  (try refine ⟨rfl, ?_⟩); (try refine ⟨rfl, ?_⟩)
  first | (intro acts; rw [hret _ acts rfl rfl rfl]) | rw [hret _ _ rfl rfl rfl]
  exact Steps.refl _
/-- what holds at the law's entry: the machine, the code, the tables' words (any of lw_tbl by 'hts w (by decide +kernel)'), the script of L ints xs at the cell b, what the Statement gives of the start (any of its parts by flat_of_before) -/
def lw_At (p : Program) (s : State) (m : MethodId) (meth : Method) (c : Code) (b L : Nat) (xs : Nat → Int32) : Prop :=
  p.tables.exec = Jvm.exec ∧ c.code = code ∧ meth.sig.returnType = ret ∧ c.maxLocals = 4 ∧ s.vm.findClass R_law = some m.cls ∧ (∀ w ∈ lw_tbl, w.before #[Value.ref b] s = true) ∧ va_X b L xs s s.heap ∧ b < s.heap.size ∧ meth.locks = false ∧ (Jvm.Cond.and given_1 narrow_1).before #[Value.ref b] s = true

theorem ml_law_9 : MLk R_law 9 yX6_init := Or.inl (gw_of 111 (by decide +kernel) rfl)
theorem ml_law_13 : MLk R_law 13 yX6_person := Or.inl (gw_of 329 (by decide +kernel) rfl)
theorem ml_law_18 : MLk R_law 18 yX6_leave := Or.inl (gw_of 351 (by decide +kernel) rfl)
theorem ml_law_22 : MLk R_law 22 yX6_coat := Or.inl (gw_of 368 (by decide +kernel) rfl)
theorem ml_law_27 : MLk R_law 27 yX6_set := Or.inl (gw_of 376 (by decide +kernel) rfl)
theorem ml_law_31 : MLk R_law 31 yX6_cap := Or.inl (gw_of 392 (by decide +kernel) rfl)
theorem ml_law_35 : MLk R_law 35 yX6_give := Or.inl (gw_of 399 (by decide +kernel) rfl)
theorem ml_law_39 : MLk R_law 39 yX6_say := Or.inl (gw_of 403 (by decide +kernel) rfl)
theorem ml_law_43 : MLk R_law 43 yX6_wipe := Or.inl (gw_of 412 (by decide +kernel) rfl)
theorem ml_law_48 : MLk R_law 48 yX6_fault := Or.inl (gw_of 420 (by decide +kernel) rfl)
theorem ml_law_52 : MLk R_law 52 yX6_judge := Or.inl (gw_of 442 (by decide +kernel) rfl)
theorem ml_law_56 : MLk R_law 56 yX6_done := Or.inl (gw_of 529 (by decide +kernel) rfl)
theorem ml_law_60 : MLk R_law 60 yX6_state := Or.inl (gw_of 533 (by decide +kernel) rfl)
theorem ml_law_65 : MLk R_law 65 yX6_behind := Or.inl (gw_of 547 (by decide +kernel) rfl)
theorem ml_law_69 : MLk R_law 69 yX6_at := Or.inl (gw_of 551 (by decide +kernel) rfl)
theorem ml_law_73 : MLk R_law 73 yX6_beside := Or.inl (gw_of 555 (by decide +kernel) rfl)
theorem ml_law_77 : MLk R_law 77 yX6_head := Or.inl (gw_of 613 (by decide +kernel) rfl)
theorem ml_law_81 : MLk R_law 81 yX6_ways := Or.inl (gw_of 620 (by decide +kernel) rfl)
theorem ml_law_85 : MLk R_law 85 yX6_seatings := Or.inl (gw_of 647 (by decide +kernel) rfl)
theorem ml_law_89 : MLk R_law 89 yX6_decides := Or.inl (gw_of 663 (by decide +kernel) rfl)
theorem ml_law_93 : MLk R_law 93 yX6_sewn := Or.inl (gw_of 671 (by decide +kernel) rfl)
theorem ml_law_97 : MLk R_law 97 yX6_hired := Or.inl (gw_of 675 (by decide +kernel) rfl)
theorem ml_law_101 : MLk R_law 101 yX6_rises := Or.inl (gw_of 684 (by decide +kernel) rfl)
theorem ml_law_105 : MLk R_law 105 yX6_league := Or.inl (gw_of 688 (by decide +kernel) rfl)
theorem ml_law_109 : MLk R_law 109 yX6_share := Or.inl (gw_of 704 (by decide +kernel) rfl)
theorem ml_law_114 : MLk R_law 114 yX6_leaves := Or.inl (gw_of 724 (by decide +kernel) rfl)
theorem ml_law_118 : MLk R_law 118 yX6_elected := Or.inl (gw_of 732 (by decide +kernel) rfl)
theorem ml_law_122 : MLk R_law 122 yX6_moths := Or.inl (gw_of 749 (by decide +kernel) rfl)
theorem ml_law_127 : MLk R_law 127 yX6_seen := Or.inl (gw_of 763 (by decide +kernel) rfl)
theorem ml_law_131 : MLk R_law 131 yX6_forget := Or.inl (gw_of 771 (by decide +kernel) rfl)
theorem ml_law_135 : MLk R_law 135 yX6_fit := Or.inl (gw_of 775 (by decide +kernel) rfl)
theorem ml_law_139 : MLk R_law 139 yX6_year := Or.inl (gw_of 793 (by decide +kernel) rfl)
theorem ml_law_143 : MLk R_law 143 yX6_image := Or.inl (gw_of 814 (by decide +kernel) rfl)
theorem ml_law_147 : MLk R_law 147 yX6_restore := Or.inl (gw_of 822 (by decide +kernel) rfl)
theorem ml_law_151 : MLk R_law 151 yX6_told := Or.inl (gw_of 826 (by decide +kernel) rfl)
theorem ml_law_12 : MLk R_law 12 yX7_init := Or.inl (gw_of 844 (by decide +kernel) rfl)
theorem ml_law_17 : MLk R_law 17 yX7_person := Or.inl (gw_of 939 (by decide +kernel) rfl)
theorem ml_law_21 : MLk R_law 21 yX7_leave := Or.inl (gw_of 956 (by decide +kernel) rfl)
theorem ml_law_26 : MLk R_law 26 yX7_coat := Or.inl (gw_of 964 (by decide +kernel) rfl)
theorem ml_law_30 : MLk R_law 30 yX7_set := Or.inl (gw_of 968 (by decide +kernel) rfl)
theorem ml_law_34 : MLk R_law 34 yX7_cap := Or.inl (gw_of 980 (by decide +kernel) rfl)
theorem ml_law_38 : MLk R_law 38 yX7_give := Or.inl (gw_of 984 (by decide +kernel) rfl)
theorem ml_law_42 : MLk R_law 42 yX7_say := Or.inl (gw_of 988 (by decide +kernel) rfl)
theorem ml_law_47 : MLk R_law 47 yX7_wipe := Or.inl (gw_of 992 (by decide +kernel) rfl)
theorem ml_law_51 : MLk R_law 51 yX7_fault := Or.inl (gw_of 996 (by decide +kernel) rfl)
theorem ml_law_55 : MLk R_law 55 yX7_judge := Or.inl (gw_of 1004 (by decide +kernel) rfl)
theorem ml_law_59 : MLk R_law 59 yX7_done := Or.inl (gw_of 1040 (by decide +kernel) rfl)
theorem ml_law_64 : MLk R_law 64 yX7_state := Or.inl (gw_of 1048 (by decide +kernel) rfl)
theorem ml_law_68 : MLk R_law 68 yX7_behind := Or.inl (gw_of 1056 (by decide +kernel) rfl)
theorem ml_law_72 : MLk R_law 72 yX7_at := Or.inl (gw_of 1060 (by decide +kernel) rfl)
theorem ml_law_76 : MLk R_law 76 yX7_beside := Or.inl (gw_of 1064 (by decide +kernel) rfl)
theorem ml_law_80 : MLk R_law 80 yX7_head := Or.inl (gw_of 1092 (by decide +kernel) rfl)
theorem ml_law_84 : MLk R_law 84 yX7_ways := Or.inl (gw_of 1096 (by decide +kernel) rfl)
theorem ml_law_88 : MLk R_law 88 yX7_seatings := Or.inl (gw_of 1104 (by decide +kernel) rfl)
theorem ml_law_92 : MLk R_law 92 yX7_decides := Or.inl (gw_of 1108 (by decide +kernel) rfl)
theorem ml_law_96 : MLk R_law 96 yX7_sewn := Or.inl (gw_of 1116 (by decide +kernel) rfl)
theorem ml_law_100 : MLk R_law 100 yX7_hired := Or.inl (gw_of 1120 (by decide +kernel) rfl)
theorem ml_law_104 : MLk R_law 104 yX7_rises := Or.inl (gw_of 1124 (by decide +kernel) rfl)
theorem ml_law_108 : MLk R_law 108 yX7_league := Or.inl (gw_of 1128 (by decide +kernel) rfl)
theorem ml_law_113 : MLk R_law 113 yX7_share := Or.inl (gw_of 1140 (by decide +kernel) rfl)
theorem ml_law_117 : MLk R_law 117 yX7_leaves := Or.inl (gw_of 1149 (by decide +kernel) rfl)
theorem ml_law_121 : MLk R_law 121 yX7_elected := Or.inl (gw_of 1153 (by decide +kernel) rfl)
theorem ml_law_126 : MLk R_law 126 yX7_moths := Or.inl (gw_of 1161 (by decide +kernel) rfl)
theorem ml_law_130 : MLk R_law 130 yX7_seen := Or.inl (gw_of 1166 (by decide +kernel) rfl)
theorem ml_law_134 : MLk R_law 134 yX7_forget := Or.inl (gw_of 1170 (by decide +kernel) rfl)
theorem ml_law_138 : MLk R_law 138 yX7_fit := Or.inl (gw_of 1174 (by decide +kernel) rfl)
theorem ml_law_142 : MLk R_law 142 yX7_year := Or.inl (gw_of 1182 (by decide +kernel) rfl)
theorem ml_law_146 : MLk R_law 146 yX7_image := Or.inl (gw_of 1187 (by decide +kernel) rfl)
theorem ml_law_150 : MLk R_law 150 yX7_restore := Or.inl (gw_of 1191 (by decide +kernel) rfl)
theorem ml_law_154 : MLk R_law 154 yX7_told := Or.inl (gw_of 1195 (by decide +kernel) rfl)
/-! ===== the law's own context ===== -/
def lX (G : KW) (b Ls : Nat) (xs : Nat → Int32) : State → Array Value → Method → Prop := fun s args _ => args = #[Value.ref b] ∧ va_X b Ls xs s s.heap ∧ b < s.heap.size ∧ G.1 = s.heap.size
def lZ (b : Nat) (_ : Unit) (below : List Frame) (_ : Array Value) (s : State) : State → Prop := lw_Z below #[Value.ref b] s
section LAWR
variable {G : KW} {l : Launch} {cc : ByteArray} {nL : Nat} {own : String} {rt : Option FieldType} {R : Room} {b Ls : Nat} {xs : Nat → Int32} {α : Type} {Z : α → List Frame → Array Value → State → State → Prop} {k0 n0 pc : Nat} {L : List (Option Value)} {S : List Value} {σ : Sg} {E : Option α}
theorem ol_none {X : State → Array Value → Method → Prop} : Okg G l cc nL own rt R X Z k0 n0 pc L S σ none := fun a ha => by cases ha
theorem ol_aload0 {X : State → Array Value → Method → Prop} {r : List (Option Value)} (d : decode cc pc = .ok (.aload_n 0, 1)) (k : Okg G l cc nL own rt R X Z k0 n0 (pc + 1) (some (.ref b) :: r) (.ref b :: S) σ E) : Okg G l cc nL own rt R X Z k0 n0 pc (some (.ref b) :: r) S σ E := fun a ha => gw_aload_n rfl d (k a ha)
theorem ol_sld {i : Int32} (d : decode cc pc = .ok (.iaload, 1)) (k : Okg G l cc nL own rt R (lX G b Ls xs) Z k0 n0 (pc + 1) L (.int (xs i.toNatClampNeg) :: S) σ E) : Okg G l cc nL own rt R (lX G b Ls xs) Z k0 n0 pc L (.int i :: .ref b :: S) σ (e_gd (k_in i Ls) E) := by
  intro a ha p e s m args below meth c H locs ls C X0 hW hS hl
  by_cases h : k_in i Ls = true
  · rw [e_gd, if_pos h] at ha
    exact va_sld C.1 C.2.1 X0.2.1 X0.2.2.1 (by have h1 := X0.2.2.1; have h2 := X0.2.2.2; show ¬ G.1 ≤ b; omega) hS (inb_in h) d (k a ha p e s m args below meth c H locs ls C X0 hW hS hl)
  · rw [e_gd, if_neg h] at ha; cases ha
theorem ol_slen (d : decode cc pc = .ok (.arraylength, 1)) (k : Okg G l cc nL own rt R (lX G b Ls xs) Z k0 n0 (pc + 1) L (.int (Int32.ofNat Ls) :: S) σ E) : Okg G l cc nL own rt R (lX G b Ls xs) Z k0 n0 pc L (.ref b :: S) σ E := by
  intro a ha p e s m args below meth c H locs ls C X0 hW hS hl
  exact va_slen C.1 C.2.1 X0.2.1 X0.2.2.1 (by have h1 := X0.2.2.1; have h2 := X0.2.2.2; show ¬ G.1 ≤ b; omega) hS d (k a ha p e s m args below meth c H locs ls C X0 hW hS hl)
theorem ol_ret {pc : Nat} {L : List (Option Value)} {σ : Sg} (d : decode code pc = .ok (.ireturn, 1)) : Okg G l code 4 R_law ret room_1 (lX G b Ls xs) (lZ b) 123 12726 pc L [.int 1] σ (some ()) := by
  intro a ha p e s m args below meth c H locs ls C X0 hW hS hl
  obtain ⟨rfl, -, -, h4⟩ := X0
  exact va_forget (fun q hq => by have := hS.2.2 q hq; have h5 : G.1 ≤ q.base := this; omega) (lw_ret C.1 C.2.1 C.2.2.2.2.2.2.1 C.2.2.2.2.2.1 d)
end LAWR
def d_L_law_18 (xs : Nat → Int32) (Ls : Nat) (K : Sg → Option (Unit)) (H : Int32 → Sg → Option (Unit)) (x3 : Int32) (σ : Sg) : Option (Unit) := (if ((Int32.ofNat Ls) - 4) < x3 then K σ else e_gd (k_in x3 Ls) (e_sw ((xs (Int32.toNatClampNeg x3)) &&& 63) 34 (fun j => match j with | 0 => e_gd (k_in (x3 + 1) Ls) (e_cI (m_X6_person (xs (Int32.toNatClampNeg (x3 + 1))) σ) (fun r2 σ1 => e_gd (k_in (x3 + 1) Ls) (e_cI (m_X7_person (xs (Int32.toNatClampNeg (x3 + 1))) σ1) (fun r4 σ3 => (if r2 = r4 then H (x3 + 4) σ3 else none))))) | 1 => e_gd (k_in (x3 + 1) Ls) (e_cI (m_X6_leave (xs (Int32.toNatClampNeg (x3 + 1))) σ) (fun r6 σ5 => e_gd (k_in (x3 + 1) Ls) (e_cI (m_X7_leave (xs (Int32.toNatClampNeg (x3 + 1))) σ5) (fun r8 σ7 => (if r6 = r8 then H (x3 + 4) σ7 else none))))) | 2 => e_gd (k_in (x3 + 1) Ls) (e_gd (k_in (x3 + 2) Ls) (e_gd (k_in (x3 + 3) Ls) (e_cI (m_X6_coat (xs (Int32.toNatClampNeg (x3 + 1))) (xs (Int32.toNatClampNeg (x3 + 2))) (xs (Int32.toNatClampNeg (x3 + 3))) σ) (fun r10 σ9 => e_gd (k_in (x3 + 1) Ls) (e_gd (k_in (x3 + 2) Ls) (e_gd (k_in (x3 + 3) Ls) (e_cI (m_X7_coat (xs (Int32.toNatClampNeg (x3 + 1))) (xs (Int32.toNatClampNeg (x3 + 2))) (xs (Int32.toNatClampNeg (x3 + 3))) σ9) (fun r12 σ11 => (if r10 = r12 then H (x3 + 4) σ11 else none))))))))) | 3 => e_gd (k_in (x3 + 1) Ls) (e_gd (k_in (x3 + 2) Ls) (e_gd (k_in (x3 + 3) Ls) (e_cI (m_X6_set (xs (Int32.toNatClampNeg (x3 + 1))) (xs (Int32.toNatClampNeg (x3 + 2))) (xs (Int32.toNatClampNeg (x3 + 3))) σ) (fun r14 σ13 => e_gd (k_in (x3 + 1) Ls) (e_gd (k_in (x3 + 2) Ls) (e_gd (k_in (x3 + 3) Ls) (e_cI (m_X7_set (xs (Int32.toNatClampNeg (x3 + 1))) (xs (Int32.toNatClampNeg (x3 + 2))) (xs (Int32.toNatClampNeg (x3 + 3))) σ13) (fun r16 σ15 => (if r14 = r16 then H (x3 + 4) σ15 else none))))))))) | 4 => e_gd (k_in (x3 + 1) Ls) (e_cI (m_X6_cap (xs (Int32.toNatClampNeg (x3 + 1))) σ) (fun r18 σ17 => e_gd (k_in (x3 + 1) Ls) (e_cI (m_X7_cap (xs (Int32.toNatClampNeg (x3 + 1))) σ17) (fun r20 σ19 => (if r18 = r20 then H (x3 + 4) σ19 else none))))) | 5 => e_gd (k_in (x3 + 1) Ls) (e_gd (k_in (x3 + 2) Ls) (e_gd (k_in (x3 + 3) Ls) (e_cI (m_X6_give (xs (Int32.toNatClampNeg (x3 + 1))) (xs (Int32.toNatClampNeg (x3 + 2))) (xs (Int32.toNatClampNeg (x3 + 3))) σ) (fun r22 σ21 => e_gd (k_in (x3 + 1) Ls) (e_gd (k_in (x3 + 2) Ls) (e_gd (k_in (x3 + 3) Ls) (e_cI (m_X7_give (xs (Int32.toNatClampNeg (x3 + 1))) (xs (Int32.toNatClampNeg (x3 + 2))) (xs (Int32.toNatClampNeg (x3 + 3))) σ21) (fun r24 σ23 => (if r22 = r24 then H (x3 + 4) σ23 else none))))))))) | 6 => e_gd (k_in (x3 + 1) Ls) (e_cI (m_X6_say (xs (Int32.toNatClampNeg (x3 + 1))) σ) (fun r26 σ25 => e_gd (k_in (x3 + 1) Ls) (e_cI (m_X7_say (xs (Int32.toNatClampNeg (x3 + 1))) σ25) (fun r28 σ27 => (if r26 = r28 then H (x3 + 4) σ27 else none))))) | 7 => e_cI (m_X6_wipe σ) (fun r30 σ29 => e_cI (m_X7_wipe σ29) (fun r32 σ31 => (if r30 = r32 then H (x3 + 4) σ31 else none))) | 8 => e_cI (m_X6_fault σ) (fun r34 σ33 => e_cI (m_X7_fault σ33) (fun r36 σ35 => (if r34 = r36 then H (x3 + 4) σ35 else none))) | 9 => e_gd (k_in (x3 + 1) Ls) (e_cI (m_X6_judge (xs (Int32.toNatClampNeg (x3 + 1))) σ) (fun r38 σ37 => e_gd (k_in (x3 + 1) Ls) (e_cI (m_X7_judge (xs (Int32.toNatClampNeg (x3 + 1))) σ37) (fun r40 σ39 => (if r38 = r40 then H (x3 + 4) σ39 else none))))) | 10 => e_cI (m_X6_done σ) (fun r42 σ41 => e_cI (m_X7_done σ41) (fun r44 σ43 => (if r42 = r44 then H (x3 + 4) σ43 else none))) | 11 => e_gd (k_in (x3 + 1) Ls) (e_gd (k_in (x3 + 2) Ls) (e_cI (m_X6_state (xs (Int32.toNatClampNeg (x3 + 1))) (xs (Int32.toNatClampNeg (x3 + 2))) σ) (fun r46 σ45 => e_gd (k_in (x3 + 1) Ls) (e_gd (k_in (x3 + 2) Ls) (e_cI (m_X7_state (xs (Int32.toNatClampNeg (x3 + 1))) (xs (Int32.toNatClampNeg (x3 + 2))) σ45) (fun r48 σ47 => (if r46 = r48 then H (x3 + 4) σ47 else none))))))) | 12 => e_gd (k_in (x3 + 1) Ls) (e_gd (k_in (x3 + 2) Ls) (e_cI (m_X6_behind (xs (Int32.toNatClampNeg (x3 + 1))) (xs (Int32.toNatClampNeg (x3 + 2))) σ) (fun r50 σ49 => e_gd (k_in (x3 + 1) Ls) (e_gd (k_in (x3 + 2) Ls) (e_cI (m_X7_behind (xs (Int32.toNatClampNeg (x3 + 1))) (xs (Int32.toNatClampNeg (x3 + 2))) σ49) (fun r52 σ51 => (if r50 = r52 then H (x3 + 4) σ51 else none))))))) | 13 => e_gd (k_in (x3 + 1) Ls) (e_cI (m_X6_at (xs (Int32.toNatClampNeg (x3 + 1))) σ) (fun r54 σ53 => e_gd (k_in (x3 + 1) Ls) (e_cI (m_X7_at (xs (Int32.toNatClampNeg (x3 + 1))) σ53) (fun r56 σ55 => (if r54 = r56 then H (x3 + 4) σ55 else none))))) | 14 => e_gd (k_in (x3 + 1) Ls) (e_gd (k_in (x3 + 2) Ls) (e_cI (m_X6_beside (xs (Int32.toNatClampNeg (x3 + 1))) (xs (Int32.toNatClampNeg (x3 + 2))) σ) (fun r58 σ57 => e_gd (k_in (x3 + 1) Ls) (e_gd (k_in (x3 + 2) Ls) (e_cI (m_X7_beside (xs (Int32.toNatClampNeg (x3 + 1))) (xs (Int32.toNatClampNeg (x3 + 2))) σ57) (fun r60 σ59 => (if r58 = r60 then H (x3 + 4) σ59 else none))))))) | 15 => e_gd (k_in (x3 + 1) Ls) (e_gd (k_in (x3 + 2) Ls) (e_cI (m_X6_head (xs (Int32.toNatClampNeg (x3 + 1))) (xs (Int32.toNatClampNeg (x3 + 2))) σ) (fun r62 σ61 => e_gd (k_in (x3 + 1) Ls) (e_gd (k_in (x3 + 2) Ls) (e_cI (m_X7_head (xs (Int32.toNatClampNeg (x3 + 1))) (xs (Int32.toNatClampNeg (x3 + 2))) σ61) (fun r64 σ63 => (if r62 = r64 then H (x3 + 4) σ63 else none))))))) | 16 => e_gd (k_in (x3 + 1) Ls) (e_gd (k_in (x3 + 2) Ls) (e_cI (m_X6_ways (xs (Int32.toNatClampNeg (x3 + 1))) (xs (Int32.toNatClampNeg (x3 + 2))) σ) (fun r66 σ65 => e_gd (k_in (x3 + 1) Ls) (e_gd (k_in (x3 + 2) Ls) (e_cI (m_X7_ways (xs (Int32.toNatClampNeg (x3 + 1))) (xs (Int32.toNatClampNeg (x3 + 2))) σ65) (fun r68 σ67 => (if r66 = r68 then H (x3 + 4) σ67 else none))))))) | 17 => e_cI (m_X6_seatings σ) (fun r70 σ69 => e_cI (m_X7_seatings σ69) (fun r72 σ71 => (if r70 = r72 then H (x3 + 4) σ71 else none))) | 18 => e_gd (k_in (x3 + 1) Ls) (e_cI (m_X6_decides (xs (Int32.toNatClampNeg (x3 + 1))) σ) (fun r74 σ73 => e_gd (k_in (x3 + 1) Ls) (e_cI (m_X7_decides (xs (Int32.toNatClampNeg (x3 + 1))) σ73) (fun r76 σ75 => (if r74 = r76 then H (x3 + 4) σ75 else none))))) | 19 => e_gd (k_in (x3 + 1) Ls) (e_gd (k_in (x3 + 2) Ls) (e_cI (m_X6_sewn (xs (Int32.toNatClampNeg (x3 + 1))) (xs (Int32.toNatClampNeg (x3 + 2))) σ) (fun r78 σ77 => e_gd (k_in (x3 + 1) Ls) (e_gd (k_in (x3 + 2) Ls) (e_cI (m_X7_sewn (xs (Int32.toNatClampNeg (x3 + 1))) (xs (Int32.toNatClampNeg (x3 + 2))) σ77) (fun r80 σ79 => (if r78 = r80 then H (x3 + 4) σ79 else none))))))) | 20 => e_gd (k_in (x3 + 1) Ls) (e_gd (k_in (x3 + 2) Ls) (e_gd (k_in (x3 + 3) Ls) (e_cI (m_X6_hired (xs (Int32.toNatClampNeg (x3 + 1))) (xs (Int32.toNatClampNeg (x3 + 2))) (xs (Int32.toNatClampNeg (x3 + 3))) σ) (fun r82 σ81 => e_gd (k_in (x3 + 1) Ls) (e_gd (k_in (x3 + 2) Ls) (e_gd (k_in (x3 + 3) Ls) (e_cI (m_X7_hired (xs (Int32.toNatClampNeg (x3 + 1))) (xs (Int32.toNatClampNeg (x3 + 2))) (xs (Int32.toNatClampNeg (x3 + 3))) σ81) (fun r84 σ83 => (if r82 = r84 then H (x3 + 4) σ83 else none))))))))) | 21 => e_gd (k_in (x3 + 1) Ls) (e_cI (m_X6_rises (xs (Int32.toNatClampNeg (x3 + 1))) σ) (fun r86 σ85 => e_gd (k_in (x3 + 1) Ls) (e_cI (m_X7_rises (xs (Int32.toNatClampNeg (x3 + 1))) σ85) (fun r88 σ87 => (if r86 = r88 then H (x3 + 4) σ87 else none))))) | 22 => e_gd (k_in (x3 + 1) Ls) (e_cI (m_X6_league (xs (Int32.toNatClampNeg (x3 + 1))) σ) (fun r90 σ89 => e_gd (k_in (x3 + 1) Ls) (e_cI (m_X7_league (xs (Int32.toNatClampNeg (x3 + 1))) σ89) (fun r92 σ91 => (if r90 = r92 then H (x3 + 4) σ91 else none))))) | 23 => e_gd (k_in (x3 + 1) Ls) (e_gd (k_in (x3 + 2) Ls) (e_cJ (m_X6_share (xs (Int32.toNatClampNeg (x3 + 1))) (xs (Int32.toNatClampNeg (x3 + 2))) σ) (fun r94 σ93 => e_gd (k_in (x3 + 1) Ls) (e_gd (k_in (x3 + 2) Ls) (e_cJ (m_X7_share (xs (Int32.toNatClampNeg (x3 + 1))) (xs (Int32.toNatClampNeg (x3 + 2))) σ93) (fun r96 σ95 => (if (lg_cmp r94 r96) = 0 then H (x3 + 4) σ95 else none))))))) | 24 => e_gd (k_in (x3 + 1) Ls) (e_cI (m_X6_leaves (xs (Int32.toNatClampNeg (x3 + 1))) σ) (fun r98 σ97 => e_gd (k_in (x3 + 1) Ls) (e_cI (m_X7_leaves (xs (Int32.toNatClampNeg (x3 + 1))) σ97) (fun r100 σ99 => (if r98 = r100 then H (x3 + 4) σ99 else none))))) | 25 => e_gd (k_in (x3 + 1) Ls) (e_cI (m_X6_elected (xs (Int32.toNatClampNeg (x3 + 1))) σ) (fun r102 σ101 => e_gd (k_in (x3 + 1) Ls) (e_cI (m_X7_elected (xs (Int32.toNatClampNeg (x3 + 1))) σ101) (fun r104 σ103 => (if r102 = r104 then H (x3 + 4) σ103 else none))))) | 26 => e_gd (k_in (x3 + 1) Ls) (e_gd (k_in (x3 + 2) Ls) (e_gd (k_in (x3 + 3) Ls) (e_cJ (m_X6_moths (xs (Int32.toNatClampNeg (x3 + 1))) (xs (Int32.toNatClampNeg (x3 + 2))) (xs (Int32.toNatClampNeg (x3 + 3))) σ) (fun r106 σ105 => e_gd (k_in (x3 + 1) Ls) (e_gd (k_in (x3 + 2) Ls) (e_gd (k_in (x3 + 3) Ls) (e_cJ (m_X7_moths (xs (Int32.toNatClampNeg (x3 + 1))) (xs (Int32.toNatClampNeg (x3 + 2))) (xs (Int32.toNatClampNeg (x3 + 3))) σ105) (fun r108 σ107 => (if (lg_cmp r106 r108) = 0 then H (x3 + 4) σ107 else none))))))))) | 27 => e_gd (k_in (x3 + 1) Ls) (e_gd (k_in (x3 + 2) Ls) (e_cI (m_X6_seen (xs (Int32.toNatClampNeg (x3 + 1))) (xs (Int32.toNatClampNeg (x3 + 2))) σ) (fun r110 σ109 => e_gd (k_in (x3 + 1) Ls) (e_gd (k_in (x3 + 2) Ls) (e_cI (m_X7_seen (xs (Int32.toNatClampNeg (x3 + 1))) (xs (Int32.toNatClampNeg (x3 + 2))) σ109) (fun r112 σ111 => (if r110 = r112 then H (x3 + 4) σ111 else none))))))) | 28 => e_cI (m_X6_forget σ) (fun r114 σ113 => e_cI (m_X7_forget σ113) (fun r116 σ115 => (if r114 = r116 then H (x3 + 4) σ115 else none))) | 29 => e_gd (k_in (x3 + 1) Ls) (e_cI (m_X6_fit (xs (Int32.toNatClampNeg (x3 + 1))) σ) (fun r118 σ117 => e_gd (k_in (x3 + 1) Ls) (e_cI (m_X7_fit (xs (Int32.toNatClampNeg (x3 + 1))) σ117) (fun r120 σ119 => (if r118 = r120 then H (x3 + 4) σ119 else none))))) | 30 => e_gd (k_in (x3 + 1) Ls) (e_gd (k_in (x3 + 2) Ls) (e_gd (k_in (x3 + 3) Ls) (e_cI (m_X6_year (xs (Int32.toNatClampNeg (x3 + 1))) (xs (Int32.toNatClampNeg (x3 + 2))) (xs (Int32.toNatClampNeg (x3 + 3))) σ) (fun r122 σ121 => e_gd (k_in (x3 + 1) Ls) (e_gd (k_in (x3 + 2) Ls) (e_gd (k_in (x3 + 3) Ls) (e_cI (m_X7_year (xs (Int32.toNatClampNeg (x3 + 1))) (xs (Int32.toNatClampNeg (x3 + 2))) (xs (Int32.toNatClampNeg (x3 + 3))) σ121) (fun r124 σ123 => (if r122 = r124 then H (x3 + 4) σ123 else none))))))))) | 31 => e_gd (k_in (x3 + 1) Ls) (e_cI (m_X6_image (xs (Int32.toNatClampNeg (x3 + 1))) σ) (fun r126 σ125 => e_gd (k_in (x3 + 1) Ls) (e_cI (m_X7_image (xs (Int32.toNatClampNeg (x3 + 1))) σ125) (fun r128 σ127 => (if r126 = r128 then H (x3 + 4) σ127 else none))))) | 32 => e_gd (k_in (x3 + 1) Ls) (e_cI (m_X6_restore (xs (Int32.toNatClampNeg (x3 + 1))) σ) (fun r130 σ129 => e_gd (k_in (x3 + 1) Ls) (e_cI (m_X7_restore (xs (Int32.toNatClampNeg (x3 + 1))) σ129) (fun r132 σ131 => (if r130 = r132 then H (x3 + 4) σ131 else none))))) | _ => e_gd (k_in (x3 + 1) Ls) (e_cI (m_X6_told (xs (Int32.toNatClampNeg (x3 + 1))) σ) (fun r134 σ133 => e_gd (k_in (x3 + 1) Ls) (e_cI (m_X7_told (xs (Int32.toNatClampNeg (x3 + 1))) σ133) (fun r136 σ135 => (if r134 = r136 then H (x3 + 4) σ135 else none)))))) (H (x3 + 4) σ)))
theorem od_L_law_18 {G : KW} {l : Launch} (xs : Nat → Int32) (Ls : Nat) (b : Nat) {K : Sg → Option (Unit)} {H : Int32 → Sg → Option (Unit)} (hK : ∀  (σ : Sg), Okg G l code 4 R_law ret room_1 (lX G b Ls xs) (lZ b) 123 12726 1124 [none, none, none, none] [] σ (K  σ)) (hH : ∀ (x3 : Int32) (σ : Sg), Okg G l code 4 R_law ret room_1 (lX G b Ls xs) (lZ b) 123 12726 18 [some (.ref b), some (k_rr G 0), some (k_rr G 100), some (.int x3)] [] σ (H x3 σ)) (x3 : Int32)  (σ : Sg) : Okg G l code 4 R_law ret room_1 (lX G b Ls xs) (lZ b) 123 12726 18 [some (.ref b), some (k_rr G 0), some (k_rr G 100), some (.int x3)] [] σ (d_L_law_18 xs Ls K H x3 σ) := by
  unfold d_L_law_18
  refine ok_iload3 (dq_of td_L_law_0 10 rfl) ?_
  refine ol_aload0 (dq_of td_L_law_0 11 rfl) ?_
  refine ol_slen (dq_of td_L_law_0 12 rfl) ?_
  refine ok_iconst (v := 4) (dq_of td_L_law_0 13 rfl) (by decide) ?_
  refine ok_isub (dq_of td_L_law_0 14 rfl) ?_
  refine ok_ic_gt (tgt := 1124) (dq_of td_L_law_0 15 rfl) (by decide) ?_ ?_
  · refine ok_wk (wk_n (wk_n (wk_n (wk_n wk_0)))) ?_
    exact hK _
  · refine ol_aload0 (dq_of td_L_law_0 16 rfl) ?_
    refine ok_iload3 (dq_of td_L_law_0 17 rfl) ?_
    refine ol_sld (dq_of td_L_law_0 18 rfl) ?_
    refine ok_bipush (v := 63) (dq_of td_L_law_0 19 rfl) (by decide) ?_
    refine ok_iand (dq_of td_L_law_0 20 rfl) ?_
    refine ok_tsw (tgt := 1118) (dq_of td_L_law_0 21 rfl) (by decide) (by decide) ?_ ?_
    · refine ok_jinc3 (w := 4) (dq_of td_L_law_25 2 rfl) (by decide) rfl (by decide) ?_
      refine ok_goto (tgt := 18) (dq_of td_L_law_25 3 rfl) (by decide) ?_
      refine ok_wk (wk_s (wk_s (wk_s (wk_s wk_0)))) ?_
      exact hH _ _
    · intro j hj
      match j, hj with
      | 0, _ =>
        refine ⟨_, 184, rfl, by decide, ?_⟩
        refine ok_aload1 (dq_of td_L_law_0 22 rfl) ?_
        refine ol_aload0 (dq_of td_L_law_0 23 rfl) ?_
        refine ok_iload3 (dq_of td_L_law_0 24 rfl) ?_
        refine ok_iconst (v := 1) (dq_of td_L_law_0 25 rfl) (by decide) ?_
        refine ok_iadd (dq_of td_L_law_0 26 rfl) ?_
        refine ol_sld (dq_of td_L_law_0 27 rfl) ?_
        refine call_X6_person ml_law_13  ⟨Nat.le_of_ble_eq_true rfl, Nat.le_of_ble_eq_true rfl⟩ ⟨by decide, by decide⟩ (Nat.le_of_ble_eq_true rfl) (dq_of td_L_law_0 28 rfl) (fun r2 σ1 => ?_)
        refine ok_aload2 (dq_of td_L_law_0 29 rfl) ?_
        refine ol_aload0 (dq_of td_L_law_1 0 rfl) ?_
        refine ok_iload3 (dq_of td_L_law_1 1 rfl) ?_
        refine ok_iconst (v := 1) (dq_of td_L_law_1 2 rfl) (by decide) ?_
        refine ok_iadd (dq_of td_L_law_1 3 rfl) ?_
        refine ol_sld (dq_of td_L_law_1 4 rfl) ?_
        refine call_X7_person ml_law_17  ⟨Nat.le_of_ble_eq_true rfl, Nat.le_of_ble_eq_true rfl⟩ ⟨by decide, by decide⟩ (Nat.le_of_ble_eq_true rfl) (dq_of td_L_law_1 5 rfl) (fun r4 σ3 => ?_)
        refine ok_ic_eq (tgt := 1118) (dq_of td_L_law_1 6 rfl) (by decide) ?_ ?_
        · refine ok_jinc3 (w := 4) (dq_of td_L_law_25 2 rfl) (by decide) rfl (by decide) ?_
          refine ok_goto (tgt := 18) (dq_of td_L_law_25 3 rfl) (by decide) ?_
          refine ok_wk (wk_s (wk_s (wk_s (wk_s wk_0)))) ?_
          exact hH _ _
        · refine ok_iconst (v := 0) (dq_of td_L_law_1 7 rfl) (by decide) ?_
          exact ol_none
      | 1, _ =>
        refine ⟨_, 207, rfl, by decide, ?_⟩
        refine ok_aload1 (dq_of td_L_law_1 9 rfl) ?_
        refine ol_aload0 (dq_of td_L_law_1 10 rfl) ?_
        refine ok_iload3 (dq_of td_L_law_1 11 rfl) ?_
        refine ok_iconst (v := 1) (dq_of td_L_law_1 12 rfl) (by decide) ?_
        refine ok_iadd (dq_of td_L_law_1 13 rfl) ?_
        refine ol_sld (dq_of td_L_law_1 14 rfl) ?_
        refine call_X6_leave ml_law_18  ⟨Nat.le_of_ble_eq_true rfl, Nat.le_of_ble_eq_true rfl⟩ ⟨by decide, by decide⟩ (Nat.le_of_ble_eq_true rfl) (dq_of td_L_law_1 15 rfl) (fun r6 σ5 => ?_)
        refine ok_aload2 (dq_of td_L_law_1 16 rfl) ?_
        refine ol_aload0 (dq_of td_L_law_1 17 rfl) ?_
        refine ok_iload3 (dq_of td_L_law_1 18 rfl) ?_
        refine ok_iconst (v := 1) (dq_of td_L_law_1 19 rfl) (by decide) ?_
        refine ok_iadd (dq_of td_L_law_1 20 rfl) ?_
        refine ol_sld (dq_of td_L_law_1 21 rfl) ?_
        refine call_X7_leave ml_law_21  ⟨Nat.le_of_ble_eq_true rfl, Nat.le_of_ble_eq_true rfl⟩ ⟨by decide, by decide⟩ (Nat.le_of_ble_eq_true rfl) (dq_of td_L_law_1 22 rfl) (fun r8 σ7 => ?_)
        refine ok_ic_eq (tgt := 1118) (dq_of td_L_law_1 23 rfl) (by decide) ?_ ?_
        · refine ok_jinc3 (w := 4) (dq_of td_L_law_25 2 rfl) (by decide) rfl (by decide) ?_
          refine ok_goto (tgt := 18) (dq_of td_L_law_25 3 rfl) (by decide) ?_
          refine ok_wk (wk_s (wk_s (wk_s (wk_s wk_0)))) ?_
          exact hH _ _
        · refine ok_iconst (v := 0) (dq_of td_L_law_1 24 rfl) (by decide) ?_
          exact ol_none
      | 2, _ =>
        refine ⟨_, 230, rfl, by decide, ?_⟩
        refine ok_aload1 (dq_of td_L_law_1 26 rfl) ?_
        refine ol_aload0 (dq_of td_L_law_1 27 rfl) ?_
        refine ok_iload3 (dq_of td_L_law_1 28 rfl) ?_
        refine ok_iconst (v := 1) (dq_of td_L_law_1 29 rfl) (by decide) ?_
        refine ok_iadd (dq_of td_L_law_2 0 rfl) ?_
        refine ol_sld (dq_of td_L_law_2 1 rfl) ?_
        refine ol_aload0 (dq_of td_L_law_2 2 rfl) ?_
        refine ok_iload3 (dq_of td_L_law_2 3 rfl) ?_
        refine ok_iconst (v := 2) (dq_of td_L_law_2 4 rfl) (by decide) ?_
        refine ok_iadd (dq_of td_L_law_2 5 rfl) ?_
        refine ol_sld (dq_of td_L_law_2 6 rfl) ?_
        refine ol_aload0 (dq_of td_L_law_2 7 rfl) ?_
        refine ok_iload3 (dq_of td_L_law_2 8 rfl) ?_
        refine ok_iconst (v := 3) (dq_of td_L_law_2 9 rfl) (by decide) ?_
        refine ok_iadd (dq_of td_L_law_2 10 rfl) ?_
        refine ol_sld (dq_of td_L_law_2 11 rfl) ?_
        refine call_X6_coat ml_law_22  ⟨Nat.le_of_ble_eq_true rfl, Nat.le_of_ble_eq_true rfl⟩ ⟨by decide, by decide⟩ (Nat.le_of_ble_eq_true rfl) (dq_of td_L_law_2 12 rfl) (fun r10 σ9 => ?_)
        refine ok_aload2 (dq_of td_L_law_2 13 rfl) ?_
        refine ol_aload0 (dq_of td_L_law_2 14 rfl) ?_
        refine ok_iload3 (dq_of td_L_law_2 15 rfl) ?_
        refine ok_iconst (v := 1) (dq_of td_L_law_2 16 rfl) (by decide) ?_
        refine ok_iadd (dq_of td_L_law_2 17 rfl) ?_
        refine ol_sld (dq_of td_L_law_2 18 rfl) ?_
        refine ol_aload0 (dq_of td_L_law_2 19 rfl) ?_
        refine ok_iload3 (dq_of td_L_law_2 20 rfl) ?_
        refine ok_iconst (v := 2) (dq_of td_L_law_2 21 rfl) (by decide) ?_
        refine ok_iadd (dq_of td_L_law_2 22 rfl) ?_
        refine ol_sld (dq_of td_L_law_2 23 rfl) ?_
        refine ol_aload0 (dq_of td_L_law_2 24 rfl) ?_
        refine ok_iload3 (dq_of td_L_law_2 25 rfl) ?_
        refine ok_iconst (v := 3) (dq_of td_L_law_2 26 rfl) (by decide) ?_
        refine ok_iadd (dq_of td_L_law_2 27 rfl) ?_
        refine ol_sld (dq_of td_L_law_2 28 rfl) ?_
        refine call_X7_coat ml_law_26  ⟨Nat.le_of_ble_eq_true rfl, Nat.le_of_ble_eq_true rfl⟩ ⟨by decide, by decide⟩ (Nat.le_of_ble_eq_true rfl) (dq_of td_L_law_2 29 rfl) (fun r12 σ11 => ?_)
        refine ok_ic_eq (tgt := 1118) (dq_of td_L_law_3 0 rfl) (by decide) ?_ ?_
        · refine ok_jinc3 (w := 4) (dq_of td_L_law_25 2 rfl) (by decide) rfl (by decide) ?_
          refine ok_goto (tgt := 18) (dq_of td_L_law_25 3 rfl) (by decide) ?_
          refine ok_wk (wk_s (wk_s (wk_s (wk_s wk_0)))) ?_
          exact hH _ _
        · refine ok_iconst (v := 0) (dq_of td_L_law_3 1 rfl) (by decide) ?_
          exact ol_none
      | 3, _ =>
        refine ⟨_, 273, rfl, by decide, ?_⟩
        refine ok_aload1 (dq_of td_L_law_3 3 rfl) ?_
        refine ol_aload0 (dq_of td_L_law_3 4 rfl) ?_
        refine ok_iload3 (dq_of td_L_law_3 5 rfl) ?_
        refine ok_iconst (v := 1) (dq_of td_L_law_3 6 rfl) (by decide) ?_
        refine ok_iadd (dq_of td_L_law_3 7 rfl) ?_
        refine ol_sld (dq_of td_L_law_3 8 rfl) ?_
        refine ol_aload0 (dq_of td_L_law_3 9 rfl) ?_
        refine ok_iload3 (dq_of td_L_law_3 10 rfl) ?_
        refine ok_iconst (v := 2) (dq_of td_L_law_3 11 rfl) (by decide) ?_
        refine ok_iadd (dq_of td_L_law_3 12 rfl) ?_
        refine ol_sld (dq_of td_L_law_3 13 rfl) ?_
        refine ol_aload0 (dq_of td_L_law_3 14 rfl) ?_
        refine ok_iload3 (dq_of td_L_law_3 15 rfl) ?_
        refine ok_iconst (v := 3) (dq_of td_L_law_3 16 rfl) (by decide) ?_
        refine ok_iadd (dq_of td_L_law_3 17 rfl) ?_
        refine ol_sld (dq_of td_L_law_3 18 rfl) ?_
        refine call_X6_set ml_law_27  ⟨Nat.le_of_ble_eq_true rfl, Nat.le_of_ble_eq_true rfl⟩ ⟨by decide, by decide⟩ (Nat.le_of_ble_eq_true rfl) (dq_of td_L_law_3 19 rfl) (fun r14 σ13 => ?_)
        refine ok_aload2 (dq_of td_L_law_3 20 rfl) ?_
        refine ol_aload0 (dq_of td_L_law_3 21 rfl) ?_
        refine ok_iload3 (dq_of td_L_law_3 22 rfl) ?_
        refine ok_iconst (v := 1) (dq_of td_L_law_3 23 rfl) (by decide) ?_
        refine ok_iadd (dq_of td_L_law_3 24 rfl) ?_
        refine ol_sld (dq_of td_L_law_3 25 rfl) ?_
        refine ol_aload0 (dq_of td_L_law_3 26 rfl) ?_
        refine ok_iload3 (dq_of td_L_law_3 27 rfl) ?_
        refine ok_iconst (v := 2) (dq_of td_L_law_3 28 rfl) (by decide) ?_
        refine ok_iadd (dq_of td_L_law_3 29 rfl) ?_
        refine ol_sld (dq_of td_L_law_4 0 rfl) ?_
        refine ol_aload0 (dq_of td_L_law_4 1 rfl) ?_
        refine ok_iload3 (dq_of td_L_law_4 2 rfl) ?_
        refine ok_iconst (v := 3) (dq_of td_L_law_4 3 rfl) (by decide) ?_
        refine ok_iadd (dq_of td_L_law_4 4 rfl) ?_
        refine ol_sld (dq_of td_L_law_4 5 rfl) ?_
        refine call_X7_set ml_law_30  ⟨Nat.le_of_ble_eq_true rfl, Nat.le_of_ble_eq_true rfl⟩ ⟨by decide, by decide⟩ (Nat.le_of_ble_eq_true rfl) (dq_of td_L_law_4 6 rfl) (fun r16 σ15 => ?_)
        refine ok_ic_eq (tgt := 1118) (dq_of td_L_law_4 7 rfl) (by decide) ?_ ?_
        · refine ok_jinc3 (w := 4) (dq_of td_L_law_25 2 rfl) (by decide) rfl (by decide) ?_
          refine ok_goto (tgt := 18) (dq_of td_L_law_25 3 rfl) (by decide) ?_
          refine ok_wk (wk_s (wk_s (wk_s (wk_s wk_0)))) ?_
          exact hH _ _
        · refine ok_iconst (v := 0) (dq_of td_L_law_4 8 rfl) (by decide) ?_
          exact ol_none
      | 4, _ =>
        refine ⟨_, 316, rfl, by decide, ?_⟩
        refine ok_aload1 (dq_of td_L_law_4 10 rfl) ?_
        refine ol_aload0 (dq_of td_L_law_4 11 rfl) ?_
        refine ok_iload3 (dq_of td_L_law_4 12 rfl) ?_
        refine ok_iconst (v := 1) (dq_of td_L_law_4 13 rfl) (by decide) ?_
        refine ok_iadd (dq_of td_L_law_4 14 rfl) ?_
        refine ol_sld (dq_of td_L_law_4 15 rfl) ?_
        refine call_X6_cap ml_law_31  ⟨Nat.le_of_ble_eq_true rfl, Nat.le_of_ble_eq_true rfl⟩ ⟨by decide, by decide⟩ (Nat.le_of_ble_eq_true rfl) (dq_of td_L_law_4 16 rfl) (fun r18 σ17 => ?_)
        refine ok_aload2 (dq_of td_L_law_4 17 rfl) ?_
        refine ol_aload0 (dq_of td_L_law_4 18 rfl) ?_
        refine ok_iload3 (dq_of td_L_law_4 19 rfl) ?_
        refine ok_iconst (v := 1) (dq_of td_L_law_4 20 rfl) (by decide) ?_
        refine ok_iadd (dq_of td_L_law_4 21 rfl) ?_
        refine ol_sld (dq_of td_L_law_4 22 rfl) ?_
        refine call_X7_cap ml_law_34  ⟨Nat.le_of_ble_eq_true rfl, Nat.le_of_ble_eq_true rfl⟩ ⟨by decide, by decide⟩ (Nat.le_of_ble_eq_true rfl) (dq_of td_L_law_4 23 rfl) (fun r20 σ19 => ?_)
        refine ok_ic_eq (tgt := 1118) (dq_of td_L_law_4 24 rfl) (by decide) ?_ ?_
        · refine ok_jinc3 (w := 4) (dq_of td_L_law_25 2 rfl) (by decide) rfl (by decide) ?_
          refine ok_goto (tgt := 18) (dq_of td_L_law_25 3 rfl) (by decide) ?_
          refine ok_wk (wk_s (wk_s (wk_s (wk_s wk_0)))) ?_
          exact hH _ _
        · refine ok_iconst (v := 0) (dq_of td_L_law_4 25 rfl) (by decide) ?_
          exact ol_none
      | 5, _ =>
        refine ⟨_, 339, rfl, by decide, ?_⟩
        refine ok_aload1 (dq_of td_L_law_4 27 rfl) ?_
        refine ol_aload0 (dq_of td_L_law_4 28 rfl) ?_
        refine ok_iload3 (dq_of td_L_law_4 29 rfl) ?_
        refine ok_iconst (v := 1) (dq_of td_L_law_5 0 rfl) (by decide) ?_
        refine ok_iadd (dq_of td_L_law_5 1 rfl) ?_
        refine ol_sld (dq_of td_L_law_5 2 rfl) ?_
        refine ol_aload0 (dq_of td_L_law_5 3 rfl) ?_
        refine ok_iload3 (dq_of td_L_law_5 4 rfl) ?_
        refine ok_iconst (v := 2) (dq_of td_L_law_5 5 rfl) (by decide) ?_
        refine ok_iadd (dq_of td_L_law_5 6 rfl) ?_
        refine ol_sld (dq_of td_L_law_5 7 rfl) ?_
        refine ol_aload0 (dq_of td_L_law_5 8 rfl) ?_
        refine ok_iload3 (dq_of td_L_law_5 9 rfl) ?_
        refine ok_iconst (v := 3) (dq_of td_L_law_5 10 rfl) (by decide) ?_
        refine ok_iadd (dq_of td_L_law_5 11 rfl) ?_
        refine ol_sld (dq_of td_L_law_5 12 rfl) ?_
        refine call_X6_give ml_law_35  ⟨Nat.le_of_ble_eq_true rfl, Nat.le_of_ble_eq_true rfl⟩ ⟨by decide, by decide⟩ (Nat.le_of_ble_eq_true rfl) (dq_of td_L_law_5 13 rfl) (fun r22 σ21 => ?_)
        refine ok_aload2 (dq_of td_L_law_5 14 rfl) ?_
        refine ol_aload0 (dq_of td_L_law_5 15 rfl) ?_
        refine ok_iload3 (dq_of td_L_law_5 16 rfl) ?_
        refine ok_iconst (v := 1) (dq_of td_L_law_5 17 rfl) (by decide) ?_
        refine ok_iadd (dq_of td_L_law_5 18 rfl) ?_
        refine ol_sld (dq_of td_L_law_5 19 rfl) ?_
        refine ol_aload0 (dq_of td_L_law_5 20 rfl) ?_
        refine ok_iload3 (dq_of td_L_law_5 21 rfl) ?_
        refine ok_iconst (v := 2) (dq_of td_L_law_5 22 rfl) (by decide) ?_
        refine ok_iadd (dq_of td_L_law_5 23 rfl) ?_
        refine ol_sld (dq_of td_L_law_5 24 rfl) ?_
        refine ol_aload0 (dq_of td_L_law_5 25 rfl) ?_
        refine ok_iload3 (dq_of td_L_law_5 26 rfl) ?_
        refine ok_iconst (v := 3) (dq_of td_L_law_5 27 rfl) (by decide) ?_
        refine ok_iadd (dq_of td_L_law_5 28 rfl) ?_
        refine ol_sld (dq_of td_L_law_5 29 rfl) ?_
        refine call_X7_give ml_law_38  ⟨Nat.le_of_ble_eq_true rfl, Nat.le_of_ble_eq_true rfl⟩ ⟨by decide, by decide⟩ (Nat.le_of_ble_eq_true rfl) (dq_of td_L_law_6 0 rfl) (fun r24 σ23 => ?_)
        refine ok_ic_eq (tgt := 1118) (dq_of td_L_law_6 1 rfl) (by decide) ?_ ?_
        · refine ok_jinc3 (w := 4) (dq_of td_L_law_25 2 rfl) (by decide) rfl (by decide) ?_
          refine ok_goto (tgt := 18) (dq_of td_L_law_25 3 rfl) (by decide) ?_
          refine ok_wk (wk_s (wk_s (wk_s (wk_s wk_0)))) ?_
          exact hH _ _
        · refine ok_iconst (v := 0) (dq_of td_L_law_6 2 rfl) (by decide) ?_
          exact ol_none
      | 6, _ =>
        refine ⟨_, 382, rfl, by decide, ?_⟩
        refine ok_aload1 (dq_of td_L_law_6 4 rfl) ?_
        refine ol_aload0 (dq_of td_L_law_6 5 rfl) ?_
        refine ok_iload3 (dq_of td_L_law_6 6 rfl) ?_
        refine ok_iconst (v := 1) (dq_of td_L_law_6 7 rfl) (by decide) ?_
        refine ok_iadd (dq_of td_L_law_6 8 rfl) ?_
        refine ol_sld (dq_of td_L_law_6 9 rfl) ?_
        refine call_X6_say ml_law_39  ⟨Nat.le_of_ble_eq_true rfl, Nat.le_of_ble_eq_true rfl⟩ ⟨by decide, by decide⟩ (Nat.le_of_ble_eq_true rfl) (dq_of td_L_law_6 10 rfl) (fun r26 σ25 => ?_)
        refine ok_aload2 (dq_of td_L_law_6 11 rfl) ?_
        refine ol_aload0 (dq_of td_L_law_6 12 rfl) ?_
        refine ok_iload3 (dq_of td_L_law_6 13 rfl) ?_
        refine ok_iconst (v := 1) (dq_of td_L_law_6 14 rfl) (by decide) ?_
        refine ok_iadd (dq_of td_L_law_6 15 rfl) ?_
        refine ol_sld (dq_of td_L_law_6 16 rfl) ?_
        refine call_X7_say ml_law_42  ⟨Nat.le_of_ble_eq_true rfl, Nat.le_of_ble_eq_true rfl⟩ ⟨by decide, by decide⟩ (Nat.le_of_ble_eq_true rfl) (dq_of td_L_law_6 17 rfl) (fun r28 σ27 => ?_)
        refine ok_ic_eq (tgt := 1118) (dq_of td_L_law_6 18 rfl) (by decide) ?_ ?_
        · refine ok_jinc3 (w := 4) (dq_of td_L_law_25 2 rfl) (by decide) rfl (by decide) ?_
          refine ok_goto (tgt := 18) (dq_of td_L_law_25 3 rfl) (by decide) ?_
          refine ok_wk (wk_s (wk_s (wk_s (wk_s wk_0)))) ?_
          exact hH _ _
        · refine ok_iconst (v := 0) (dq_of td_L_law_6 19 rfl) (by decide) ?_
          exact ol_none
      | 7, _ =>
        refine ⟨_, 405, rfl, by decide, ?_⟩
        refine ok_aload1 (dq_of td_L_law_6 21 rfl) ?_
        refine call_X6_wipe ml_law_43  ⟨Nat.le_of_ble_eq_true rfl, Nat.le_of_ble_eq_true rfl⟩ ⟨by decide, by decide⟩ (Nat.le_of_ble_eq_true rfl) (dq_of td_L_law_6 22 rfl) (fun r30 σ29 => ?_)
        refine ok_aload2 (dq_of td_L_law_6 23 rfl) ?_
        refine call_X7_wipe ml_law_47  ⟨Nat.le_of_ble_eq_true rfl, Nat.le_of_ble_eq_true rfl⟩ ⟨by decide, by decide⟩ (Nat.le_of_ble_eq_true rfl) (dq_of td_L_law_6 24 rfl) (fun r32 σ31 => ?_)
        refine ok_ic_eq (tgt := 1118) (dq_of td_L_law_6 25 rfl) (by decide) ?_ ?_
        · refine ok_jinc3 (w := 4) (dq_of td_L_law_25 2 rfl) (by decide) rfl (by decide) ?_
          refine ok_goto (tgt := 18) (dq_of td_L_law_25 3 rfl) (by decide) ?_
          refine ok_wk (wk_s (wk_s (wk_s (wk_s wk_0)))) ?_
          exact hH _ _
        · refine ok_iconst (v := 0) (dq_of td_L_law_6 26 rfl) (by decide) ?_
          exact ol_none
      | 8, _ =>
        refine ⟨_, 418, rfl, by decide, ?_⟩
        refine ok_aload1 (dq_of td_L_law_6 28 rfl) ?_
        refine call_X6_fault ml_law_48  ⟨Nat.le_of_ble_eq_true rfl, Nat.le_of_ble_eq_true rfl⟩ ⟨by decide, by decide⟩ (Nat.le_of_ble_eq_true rfl) (dq_of td_L_law_6 29 rfl) (fun r34 σ33 => ?_)
        refine ok_aload2 (dq_of td_L_law_7 0 rfl) ?_
        refine call_X7_fault ml_law_51  ⟨Nat.le_of_ble_eq_true rfl, Nat.le_of_ble_eq_true rfl⟩ ⟨by decide, by decide⟩ (Nat.le_of_ble_eq_true rfl) (dq_of td_L_law_7 1 rfl) (fun r36 σ35 => ?_)
        refine ok_ic_eq (tgt := 1118) (dq_of td_L_law_7 2 rfl) (by decide) ?_ ?_
        · refine ok_jinc3 (w := 4) (dq_of td_L_law_25 2 rfl) (by decide) rfl (by decide) ?_
          refine ok_goto (tgt := 18) (dq_of td_L_law_25 3 rfl) (by decide) ?_
          refine ok_wk (wk_s (wk_s (wk_s (wk_s wk_0)))) ?_
          exact hH _ _
        · refine ok_iconst (v := 0) (dq_of td_L_law_7 3 rfl) (by decide) ?_
          exact ol_none
      | 9, _ =>
        refine ⟨_, 431, rfl, by decide, ?_⟩
        refine ok_aload1 (dq_of td_L_law_7 5 rfl) ?_
        refine ol_aload0 (dq_of td_L_law_7 6 rfl) ?_
        refine ok_iload3 (dq_of td_L_law_7 7 rfl) ?_
        refine ok_iconst (v := 1) (dq_of td_L_law_7 8 rfl) (by decide) ?_
        refine ok_iadd (dq_of td_L_law_7 9 rfl) ?_
        refine ol_sld (dq_of td_L_law_7 10 rfl) ?_
        refine call_X6_judge ml_law_52  ⟨Nat.le_of_ble_eq_true rfl, Nat.le_of_ble_eq_true rfl⟩ ⟨by decide, by decide⟩ (Nat.le_of_ble_eq_true rfl) (dq_of td_L_law_7 11 rfl) (fun r38 σ37 => ?_)
        refine ok_aload2 (dq_of td_L_law_7 12 rfl) ?_
        refine ol_aload0 (dq_of td_L_law_7 13 rfl) ?_
        refine ok_iload3 (dq_of td_L_law_7 14 rfl) ?_
        refine ok_iconst (v := 1) (dq_of td_L_law_7 15 rfl) (by decide) ?_
        refine ok_iadd (dq_of td_L_law_7 16 rfl) ?_
        refine ol_sld (dq_of td_L_law_7 17 rfl) ?_
        refine call_X7_judge ml_law_55  ⟨Nat.le_of_ble_eq_true rfl, Nat.le_of_ble_eq_true rfl⟩ ⟨by decide, by decide⟩ (Nat.le_of_ble_eq_true rfl) (dq_of td_L_law_7 18 rfl) (fun r40 σ39 => ?_)
        refine ok_ic_eq (tgt := 1118) (dq_of td_L_law_7 19 rfl) (by decide) ?_ ?_
        · refine ok_jinc3 (w := 4) (dq_of td_L_law_25 2 rfl) (by decide) rfl (by decide) ?_
          refine ok_goto (tgt := 18) (dq_of td_L_law_25 3 rfl) (by decide) ?_
          refine ok_wk (wk_s (wk_s (wk_s (wk_s wk_0)))) ?_
          exact hH _ _
        · refine ok_iconst (v := 0) (dq_of td_L_law_7 20 rfl) (by decide) ?_
          exact ol_none
      | 10, _ =>
        refine ⟨_, 454, rfl, by decide, ?_⟩
        refine ok_aload1 (dq_of td_L_law_7 22 rfl) ?_
        refine call_X6_done ml_law_56  ⟨Nat.le_of_ble_eq_true rfl, Nat.le_of_ble_eq_true rfl⟩ ⟨by decide, by decide⟩ (Nat.le_of_ble_eq_true rfl) (dq_of td_L_law_7 23 rfl) (fun r42 σ41 => ?_)
        refine ok_aload2 (dq_of td_L_law_7 24 rfl) ?_
        refine call_X7_done ml_law_59  ⟨Nat.le_of_ble_eq_true rfl, Nat.le_of_ble_eq_true rfl⟩ ⟨by decide, by decide⟩ (Nat.le_of_ble_eq_true rfl) (dq_of td_L_law_7 25 rfl) (fun r44 σ43 => ?_)
        refine ok_ic_eq (tgt := 1118) (dq_of td_L_law_7 26 rfl) (by decide) ?_ ?_
        · refine ok_jinc3 (w := 4) (dq_of td_L_law_25 2 rfl) (by decide) rfl (by decide) ?_
          refine ok_goto (tgt := 18) (dq_of td_L_law_25 3 rfl) (by decide) ?_
          refine ok_wk (wk_s (wk_s (wk_s (wk_s wk_0)))) ?_
          exact hH _ _
        · refine ok_iconst (v := 0) (dq_of td_L_law_7 27 rfl) (by decide) ?_
          exact ol_none
      | 11, _ =>
        refine ⟨_, 467, rfl, by decide, ?_⟩
        refine ok_aload1 (dq_of td_L_law_7 29 rfl) ?_
        refine ol_aload0 (dq_of td_L_law_8 0 rfl) ?_
        refine ok_iload3 (dq_of td_L_law_8 1 rfl) ?_
        refine ok_iconst (v := 1) (dq_of td_L_law_8 2 rfl) (by decide) ?_
        refine ok_iadd (dq_of td_L_law_8 3 rfl) ?_
        refine ol_sld (dq_of td_L_law_8 4 rfl) ?_
        refine ol_aload0 (dq_of td_L_law_8 5 rfl) ?_
        refine ok_iload3 (dq_of td_L_law_8 6 rfl) ?_
        refine ok_iconst (v := 2) (dq_of td_L_law_8 7 rfl) (by decide) ?_
        refine ok_iadd (dq_of td_L_law_8 8 rfl) ?_
        refine ol_sld (dq_of td_L_law_8 9 rfl) ?_
        refine call_X6_state ml_law_60  ⟨Nat.le_of_ble_eq_true rfl, Nat.le_of_ble_eq_true rfl⟩ ⟨by decide, by decide⟩ (Nat.le_of_ble_eq_true rfl) (dq_of td_L_law_8 10 rfl) (fun r46 σ45 => ?_)
        refine ok_aload2 (dq_of td_L_law_8 11 rfl) ?_
        refine ol_aload0 (dq_of td_L_law_8 12 rfl) ?_
        refine ok_iload3 (dq_of td_L_law_8 13 rfl) ?_
        refine ok_iconst (v := 1) (dq_of td_L_law_8 14 rfl) (by decide) ?_
        refine ok_iadd (dq_of td_L_law_8 15 rfl) ?_
        refine ol_sld (dq_of td_L_law_8 16 rfl) ?_
        refine ol_aload0 (dq_of td_L_law_8 17 rfl) ?_
        refine ok_iload3 (dq_of td_L_law_8 18 rfl) ?_
        refine ok_iconst (v := 2) (dq_of td_L_law_8 19 rfl) (by decide) ?_
        refine ok_iadd (dq_of td_L_law_8 20 rfl) ?_
        refine ol_sld (dq_of td_L_law_8 21 rfl) ?_
        refine call_X7_state ml_law_64  ⟨Nat.le_of_ble_eq_true rfl, Nat.le_of_ble_eq_true rfl⟩ ⟨by decide, by decide⟩ (Nat.le_of_ble_eq_true rfl) (dq_of td_L_law_8 22 rfl) (fun r48 σ47 => ?_)
        refine ok_ic_eq (tgt := 1118) (dq_of td_L_law_8 23 rfl) (by decide) ?_ ?_
        · refine ok_jinc3 (w := 4) (dq_of td_L_law_25 2 rfl) (by decide) rfl (by decide) ?_
          refine ok_goto (tgt := 18) (dq_of td_L_law_25 3 rfl) (by decide) ?_
          refine ok_wk (wk_s (wk_s (wk_s (wk_s wk_0)))) ?_
          exact hH _ _
        · refine ok_iconst (v := 0) (dq_of td_L_law_8 24 rfl) (by decide) ?_
          exact ol_none
      | 12, _ =>
        refine ⟨_, 500, rfl, by decide, ?_⟩
        refine ok_aload1 (dq_of td_L_law_8 26 rfl) ?_
        refine ol_aload0 (dq_of td_L_law_8 27 rfl) ?_
        refine ok_iload3 (dq_of td_L_law_8 28 rfl) ?_
        refine ok_iconst (v := 1) (dq_of td_L_law_8 29 rfl) (by decide) ?_
        refine ok_iadd (dq_of td_L_law_9 0 rfl) ?_
        refine ol_sld (dq_of td_L_law_9 1 rfl) ?_
        refine ol_aload0 (dq_of td_L_law_9 2 rfl) ?_
        refine ok_iload3 (dq_of td_L_law_9 3 rfl) ?_
        refine ok_iconst (v := 2) (dq_of td_L_law_9 4 rfl) (by decide) ?_
        refine ok_iadd (dq_of td_L_law_9 5 rfl) ?_
        refine ol_sld (dq_of td_L_law_9 6 rfl) ?_
        refine call_X6_behind ml_law_65  ⟨Nat.le_of_ble_eq_true rfl, Nat.le_of_ble_eq_true rfl⟩ ⟨by decide, by decide⟩ (Nat.le_of_ble_eq_true rfl) (dq_of td_L_law_9 7 rfl) (fun r50 σ49 => ?_)
        refine ok_aload2 (dq_of td_L_law_9 8 rfl) ?_
        refine ol_aload0 (dq_of td_L_law_9 9 rfl) ?_
        refine ok_iload3 (dq_of td_L_law_9 10 rfl) ?_
        refine ok_iconst (v := 1) (dq_of td_L_law_9 11 rfl) (by decide) ?_
        refine ok_iadd (dq_of td_L_law_9 12 rfl) ?_
        refine ol_sld (dq_of td_L_law_9 13 rfl) ?_
        refine ol_aload0 (dq_of td_L_law_9 14 rfl) ?_
        refine ok_iload3 (dq_of td_L_law_9 15 rfl) ?_
        refine ok_iconst (v := 2) (dq_of td_L_law_9 16 rfl) (by decide) ?_
        refine ok_iadd (dq_of td_L_law_9 17 rfl) ?_
        refine ol_sld (dq_of td_L_law_9 18 rfl) ?_
        refine call_X7_behind ml_law_68  ⟨Nat.le_of_ble_eq_true rfl, Nat.le_of_ble_eq_true rfl⟩ ⟨by decide, by decide⟩ (Nat.le_of_ble_eq_true rfl) (dq_of td_L_law_9 19 rfl) (fun r52 σ51 => ?_)
        refine ok_ic_eq (tgt := 1118) (dq_of td_L_law_9 20 rfl) (by decide) ?_ ?_
        · refine ok_jinc3 (w := 4) (dq_of td_L_law_25 2 rfl) (by decide) rfl (by decide) ?_
          refine ok_goto (tgt := 18) (dq_of td_L_law_25 3 rfl) (by decide) ?_
          refine ok_wk (wk_s (wk_s (wk_s (wk_s wk_0)))) ?_
          exact hH _ _
        · refine ok_iconst (v := 0) (dq_of td_L_law_9 21 rfl) (by decide) ?_
          exact ol_none
      | 13, _ =>
        refine ⟨_, 533, rfl, by decide, ?_⟩
        refine ok_aload1 (dq_of td_L_law_9 23 rfl) ?_
        refine ol_aload0 (dq_of td_L_law_9 24 rfl) ?_
        refine ok_iload3 (dq_of td_L_law_9 25 rfl) ?_
        refine ok_iconst (v := 1) (dq_of td_L_law_9 26 rfl) (by decide) ?_
        refine ok_iadd (dq_of td_L_law_9 27 rfl) ?_
        refine ol_sld (dq_of td_L_law_9 28 rfl) ?_
        refine call_X6_at ml_law_69  ⟨Nat.le_of_ble_eq_true rfl, Nat.le_of_ble_eq_true rfl⟩ ⟨by decide, by decide⟩ (Nat.le_of_ble_eq_true rfl) (dq_of td_L_law_9 29 rfl) (fun r54 σ53 => ?_)
        refine ok_aload2 (dq_of td_L_law_10 0 rfl) ?_
        refine ol_aload0 (dq_of td_L_law_10 1 rfl) ?_
        refine ok_iload3 (dq_of td_L_law_10 2 rfl) ?_
        refine ok_iconst (v := 1) (dq_of td_L_law_10 3 rfl) (by decide) ?_
        refine ok_iadd (dq_of td_L_law_10 4 rfl) ?_
        refine ol_sld (dq_of td_L_law_10 5 rfl) ?_
        refine call_X7_at ml_law_72  ⟨Nat.le_of_ble_eq_true rfl, Nat.le_of_ble_eq_true rfl⟩ ⟨by decide, by decide⟩ (Nat.le_of_ble_eq_true rfl) (dq_of td_L_law_10 6 rfl) (fun r56 σ55 => ?_)
        refine ok_ic_eq (tgt := 1118) (dq_of td_L_law_10 7 rfl) (by decide) ?_ ?_
        · refine ok_jinc3 (w := 4) (dq_of td_L_law_25 2 rfl) (by decide) rfl (by decide) ?_
          refine ok_goto (tgt := 18) (dq_of td_L_law_25 3 rfl) (by decide) ?_
          refine ok_wk (wk_s (wk_s (wk_s (wk_s wk_0)))) ?_
          exact hH _ _
        · refine ok_iconst (v := 0) (dq_of td_L_law_10 8 rfl) (by decide) ?_
          exact ol_none
      | 14, _ =>
        refine ⟨_, 556, rfl, by decide, ?_⟩
        refine ok_aload1 (dq_of td_L_law_10 10 rfl) ?_
        refine ol_aload0 (dq_of td_L_law_10 11 rfl) ?_
        refine ok_iload3 (dq_of td_L_law_10 12 rfl) ?_
        refine ok_iconst (v := 1) (dq_of td_L_law_10 13 rfl) (by decide) ?_
        refine ok_iadd (dq_of td_L_law_10 14 rfl) ?_
        refine ol_sld (dq_of td_L_law_10 15 rfl) ?_
        refine ol_aload0 (dq_of td_L_law_10 16 rfl) ?_
        refine ok_iload3 (dq_of td_L_law_10 17 rfl) ?_
        refine ok_iconst (v := 2) (dq_of td_L_law_10 18 rfl) (by decide) ?_
        refine ok_iadd (dq_of td_L_law_10 19 rfl) ?_
        refine ol_sld (dq_of td_L_law_10 20 rfl) ?_
        refine call_X6_beside ml_law_73  ⟨Nat.le_of_ble_eq_true rfl, Nat.le_of_ble_eq_true rfl⟩ ⟨by decide, by decide⟩ (Nat.le_of_ble_eq_true rfl) (dq_of td_L_law_10 21 rfl) (fun r58 σ57 => ?_)
        refine ok_aload2 (dq_of td_L_law_10 22 rfl) ?_
        refine ol_aload0 (dq_of td_L_law_10 23 rfl) ?_
        refine ok_iload3 (dq_of td_L_law_10 24 rfl) ?_
        refine ok_iconst (v := 1) (dq_of td_L_law_10 25 rfl) (by decide) ?_
        refine ok_iadd (dq_of td_L_law_10 26 rfl) ?_
        refine ol_sld (dq_of td_L_law_10 27 rfl) ?_
        refine ol_aload0 (dq_of td_L_law_10 28 rfl) ?_
        refine ok_iload3 (dq_of td_L_law_10 29 rfl) ?_
        refine ok_iconst (v := 2) (dq_of td_L_law_11 0 rfl) (by decide) ?_
        refine ok_iadd (dq_of td_L_law_11 1 rfl) ?_
        refine ol_sld (dq_of td_L_law_11 2 rfl) ?_
        refine call_X7_beside ml_law_76  ⟨Nat.le_of_ble_eq_true rfl, Nat.le_of_ble_eq_true rfl⟩ ⟨by decide, by decide⟩ (Nat.le_of_ble_eq_true rfl) (dq_of td_L_law_11 3 rfl) (fun r60 σ59 => ?_)
        refine ok_ic_eq (tgt := 1118) (dq_of td_L_law_11 4 rfl) (by decide) ?_ ?_
        · refine ok_jinc3 (w := 4) (dq_of td_L_law_25 2 rfl) (by decide) rfl (by decide) ?_
          refine ok_goto (tgt := 18) (dq_of td_L_law_25 3 rfl) (by decide) ?_
          refine ok_wk (wk_s (wk_s (wk_s (wk_s wk_0)))) ?_
          exact hH _ _
        · refine ok_iconst (v := 0) (dq_of td_L_law_11 5 rfl) (by decide) ?_
          exact ol_none
      | 15, _ =>
        refine ⟨_, 589, rfl, by decide, ?_⟩
        refine ok_aload1 (dq_of td_L_law_11 7 rfl) ?_
        refine ol_aload0 (dq_of td_L_law_11 8 rfl) ?_
        refine ok_iload3 (dq_of td_L_law_11 9 rfl) ?_
        refine ok_iconst (v := 1) (dq_of td_L_law_11 10 rfl) (by decide) ?_
        refine ok_iadd (dq_of td_L_law_11 11 rfl) ?_
        refine ol_sld (dq_of td_L_law_11 12 rfl) ?_
        refine ol_aload0 (dq_of td_L_law_11 13 rfl) ?_
        refine ok_iload3 (dq_of td_L_law_11 14 rfl) ?_
        refine ok_iconst (v := 2) (dq_of td_L_law_11 15 rfl) (by decide) ?_
        refine ok_iadd (dq_of td_L_law_11 16 rfl) ?_
        refine ol_sld (dq_of td_L_law_11 17 rfl) ?_
        refine call_X6_head ml_law_77  ⟨Nat.le_of_ble_eq_true rfl, Nat.le_of_ble_eq_true rfl⟩ ⟨by decide, by decide⟩ (Nat.le_of_ble_eq_true rfl) (dq_of td_L_law_11 18 rfl) (fun r62 σ61 => ?_)
        refine ok_aload2 (dq_of td_L_law_11 19 rfl) ?_
        refine ol_aload0 (dq_of td_L_law_11 20 rfl) ?_
        refine ok_iload3 (dq_of td_L_law_11 21 rfl) ?_
        refine ok_iconst (v := 1) (dq_of td_L_law_11 22 rfl) (by decide) ?_
        refine ok_iadd (dq_of td_L_law_11 23 rfl) ?_
        refine ol_sld (dq_of td_L_law_11 24 rfl) ?_
        refine ol_aload0 (dq_of td_L_law_11 25 rfl) ?_
        refine ok_iload3 (dq_of td_L_law_11 26 rfl) ?_
        refine ok_iconst (v := 2) (dq_of td_L_law_11 27 rfl) (by decide) ?_
        refine ok_iadd (dq_of td_L_law_11 28 rfl) ?_
        refine ol_sld (dq_of td_L_law_11 29 rfl) ?_
        refine call_X7_head ml_law_80  ⟨Nat.le_of_ble_eq_true rfl, Nat.le_of_ble_eq_true rfl⟩ ⟨by decide, by decide⟩ (Nat.le_of_ble_eq_true rfl) (dq_of td_L_law_12 0 rfl) (fun r64 σ63 => ?_)
        refine ok_ic_eq (tgt := 1118) (dq_of td_L_law_12 1 rfl) (by decide) ?_ ?_
        · refine ok_jinc3 (w := 4) (dq_of td_L_law_25 2 rfl) (by decide) rfl (by decide) ?_
          refine ok_goto (tgt := 18) (dq_of td_L_law_25 3 rfl) (by decide) ?_
          refine ok_wk (wk_s (wk_s (wk_s (wk_s wk_0)))) ?_
          exact hH _ _
        · refine ok_iconst (v := 0) (dq_of td_L_law_12 2 rfl) (by decide) ?_
          exact ol_none
      | 16, _ =>
        refine ⟨_, 622, rfl, by decide, ?_⟩
        refine ok_aload1 (dq_of td_L_law_12 4 rfl) ?_
        refine ol_aload0 (dq_of td_L_law_12 5 rfl) ?_
        refine ok_iload3 (dq_of td_L_law_12 6 rfl) ?_
        refine ok_iconst (v := 1) (dq_of td_L_law_12 7 rfl) (by decide) ?_
        refine ok_iadd (dq_of td_L_law_12 8 rfl) ?_
        refine ol_sld (dq_of td_L_law_12 9 rfl) ?_
        refine ol_aload0 (dq_of td_L_law_12 10 rfl) ?_
        refine ok_iload3 (dq_of td_L_law_12 11 rfl) ?_
        refine ok_iconst (v := 2) (dq_of td_L_law_12 12 rfl) (by decide) ?_
        refine ok_iadd (dq_of td_L_law_12 13 rfl) ?_
        refine ol_sld (dq_of td_L_law_12 14 rfl) ?_
        refine call_X6_ways ml_law_81  ⟨Nat.le_of_ble_eq_true rfl, Nat.le_of_ble_eq_true rfl⟩ ⟨by decide, by decide⟩ (Nat.le_of_ble_eq_true rfl) (dq_of td_L_law_12 15 rfl) (fun r66 σ65 => ?_)
        refine ok_aload2 (dq_of td_L_law_12 16 rfl) ?_
        refine ol_aload0 (dq_of td_L_law_12 17 rfl) ?_
        refine ok_iload3 (dq_of td_L_law_12 18 rfl) ?_
        refine ok_iconst (v := 1) (dq_of td_L_law_12 19 rfl) (by decide) ?_
        refine ok_iadd (dq_of td_L_law_12 20 rfl) ?_
        refine ol_sld (dq_of td_L_law_12 21 rfl) ?_
        refine ol_aload0 (dq_of td_L_law_12 22 rfl) ?_
        refine ok_iload3 (dq_of td_L_law_12 23 rfl) ?_
        refine ok_iconst (v := 2) (dq_of td_L_law_12 24 rfl) (by decide) ?_
        refine ok_iadd (dq_of td_L_law_12 25 rfl) ?_
        refine ol_sld (dq_of td_L_law_12 26 rfl) ?_
        refine call_X7_ways ml_law_84  ⟨Nat.le_of_ble_eq_true rfl, Nat.le_of_ble_eq_true rfl⟩ ⟨by decide, by decide⟩ (Nat.le_of_ble_eq_true rfl) (dq_of td_L_law_12 27 rfl) (fun r68 σ67 => ?_)
        refine ok_ic_eq (tgt := 1118) (dq_of td_L_law_12 28 rfl) (by decide) ?_ ?_
        · refine ok_jinc3 (w := 4) (dq_of td_L_law_25 2 rfl) (by decide) rfl (by decide) ?_
          refine ok_goto (tgt := 18) (dq_of td_L_law_25 3 rfl) (by decide) ?_
          refine ok_wk (wk_s (wk_s (wk_s (wk_s wk_0)))) ?_
          exact hH _ _
        · refine ok_iconst (v := 0) (dq_of td_L_law_12 29 rfl) (by decide) ?_
          exact ol_none
      | 17, _ =>
        refine ⟨_, 655, rfl, by decide, ?_⟩
        refine ok_aload1 (dq_of td_L_law_13 1 rfl) ?_
        refine call_X6_seatings ml_law_85  ⟨Nat.le_of_ble_eq_true rfl, Nat.le_of_ble_eq_true rfl⟩ ⟨by decide, by decide⟩ (Nat.le_of_ble_eq_true rfl) (dq_of td_L_law_13 2 rfl) (fun r70 σ69 => ?_)
        refine ok_aload2 (dq_of td_L_law_13 3 rfl) ?_
        refine call_X7_seatings ml_law_88  ⟨Nat.le_of_ble_eq_true rfl, Nat.le_of_ble_eq_true rfl⟩ ⟨by decide, by decide⟩ (Nat.le_of_ble_eq_true rfl) (dq_of td_L_law_13 4 rfl) (fun r72 σ71 => ?_)
        refine ok_ic_eq (tgt := 1118) (dq_of td_L_law_13 5 rfl) (by decide) ?_ ?_
        · refine ok_jinc3 (w := 4) (dq_of td_L_law_25 2 rfl) (by decide) rfl (by decide) ?_
          refine ok_goto (tgt := 18) (dq_of td_L_law_25 3 rfl) (by decide) ?_
          refine ok_wk (wk_s (wk_s (wk_s (wk_s wk_0)))) ?_
          exact hH _ _
        · refine ok_iconst (v := 0) (dq_of td_L_law_13 6 rfl) (by decide) ?_
          exact ol_none
      | 18, _ =>
        refine ⟨_, 668, rfl, by decide, ?_⟩
        refine ok_aload1 (dq_of td_L_law_13 8 rfl) ?_
        refine ol_aload0 (dq_of td_L_law_13 9 rfl) ?_
        refine ok_iload3 (dq_of td_L_law_13 10 rfl) ?_
        refine ok_iconst (v := 1) (dq_of td_L_law_13 11 rfl) (by decide) ?_
        refine ok_iadd (dq_of td_L_law_13 12 rfl) ?_
        refine ol_sld (dq_of td_L_law_13 13 rfl) ?_
        refine call_X6_decides ml_law_89  ⟨Nat.le_of_ble_eq_true rfl, Nat.le_of_ble_eq_true rfl⟩ ⟨by decide, by decide⟩ (Nat.le_of_ble_eq_true rfl) (dq_of td_L_law_13 14 rfl) (fun r74 σ73 => ?_)
        refine ok_aload2 (dq_of td_L_law_13 15 rfl) ?_
        refine ol_aload0 (dq_of td_L_law_13 16 rfl) ?_
        refine ok_iload3 (dq_of td_L_law_13 17 rfl) ?_
        refine ok_iconst (v := 1) (dq_of td_L_law_13 18 rfl) (by decide) ?_
        refine ok_iadd (dq_of td_L_law_13 19 rfl) ?_
        refine ol_sld (dq_of td_L_law_13 20 rfl) ?_
        refine call_X7_decides ml_law_92  ⟨Nat.le_of_ble_eq_true rfl, Nat.le_of_ble_eq_true rfl⟩ ⟨by decide, by decide⟩ (Nat.le_of_ble_eq_true rfl) (dq_of td_L_law_13 21 rfl) (fun r76 σ75 => ?_)
        refine ok_ic_eq (tgt := 1118) (dq_of td_L_law_13 22 rfl) (by decide) ?_ ?_
        · refine ok_jinc3 (w := 4) (dq_of td_L_law_25 2 rfl) (by decide) rfl (by decide) ?_
          refine ok_goto (tgt := 18) (dq_of td_L_law_25 3 rfl) (by decide) ?_
          refine ok_wk (wk_s (wk_s (wk_s (wk_s wk_0)))) ?_
          exact hH _ _
        · refine ok_iconst (v := 0) (dq_of td_L_law_13 23 rfl) (by decide) ?_
          exact ol_none
      | 19, _ =>
        refine ⟨_, 691, rfl, by decide, ?_⟩
        refine ok_aload1 (dq_of td_L_law_13 25 rfl) ?_
        refine ol_aload0 (dq_of td_L_law_13 26 rfl) ?_
        refine ok_iload3 (dq_of td_L_law_13 27 rfl) ?_
        refine ok_iconst (v := 1) (dq_of td_L_law_13 28 rfl) (by decide) ?_
        refine ok_iadd (dq_of td_L_law_13 29 rfl) ?_
        refine ol_sld (dq_of td_L_law_14 0 rfl) ?_
        refine ol_aload0 (dq_of td_L_law_14 1 rfl) ?_
        refine ok_iload3 (dq_of td_L_law_14 2 rfl) ?_
        refine ok_iconst (v := 2) (dq_of td_L_law_14 3 rfl) (by decide) ?_
        refine ok_iadd (dq_of td_L_law_14 4 rfl) ?_
        refine ol_sld (dq_of td_L_law_14 5 rfl) ?_
        refine call_X6_sewn ml_law_93  ⟨Nat.le_of_ble_eq_true rfl, Nat.le_of_ble_eq_true rfl⟩ ⟨by decide, by decide⟩ (Nat.le_of_ble_eq_true rfl) (dq_of td_L_law_14 6 rfl) (fun r78 σ77 => ?_)
        refine ok_aload2 (dq_of td_L_law_14 7 rfl) ?_
        refine ol_aload0 (dq_of td_L_law_14 8 rfl) ?_
        refine ok_iload3 (dq_of td_L_law_14 9 rfl) ?_
        refine ok_iconst (v := 1) (dq_of td_L_law_14 10 rfl) (by decide) ?_
        refine ok_iadd (dq_of td_L_law_14 11 rfl) ?_
        refine ol_sld (dq_of td_L_law_14 12 rfl) ?_
        refine ol_aload0 (dq_of td_L_law_14 13 rfl) ?_
        refine ok_iload3 (dq_of td_L_law_14 14 rfl) ?_
        refine ok_iconst (v := 2) (dq_of td_L_law_14 15 rfl) (by decide) ?_
        refine ok_iadd (dq_of td_L_law_14 16 rfl) ?_
        refine ol_sld (dq_of td_L_law_14 17 rfl) ?_
        refine call_X7_sewn ml_law_96  ⟨Nat.le_of_ble_eq_true rfl, Nat.le_of_ble_eq_true rfl⟩ ⟨by decide, by decide⟩ (Nat.le_of_ble_eq_true rfl) (dq_of td_L_law_14 18 rfl) (fun r80 σ79 => ?_)
        refine ok_ic_eq (tgt := 1118) (dq_of td_L_law_14 19 rfl) (by decide) ?_ ?_
        · refine ok_jinc3 (w := 4) (dq_of td_L_law_25 2 rfl) (by decide) rfl (by decide) ?_
          refine ok_goto (tgt := 18) (dq_of td_L_law_25 3 rfl) (by decide) ?_
          refine ok_wk (wk_s (wk_s (wk_s (wk_s wk_0)))) ?_
          exact hH _ _
        · refine ok_iconst (v := 0) (dq_of td_L_law_14 20 rfl) (by decide) ?_
          exact ol_none
      | 20, _ =>
        refine ⟨_, 724, rfl, by decide, ?_⟩
        refine ok_aload1 (dq_of td_L_law_14 22 rfl) ?_
        refine ol_aload0 (dq_of td_L_law_14 23 rfl) ?_
        refine ok_iload3 (dq_of td_L_law_14 24 rfl) ?_
        refine ok_iconst (v := 1) (dq_of td_L_law_14 25 rfl) (by decide) ?_
        refine ok_iadd (dq_of td_L_law_14 26 rfl) ?_
        refine ol_sld (dq_of td_L_law_14 27 rfl) ?_
        refine ol_aload0 (dq_of td_L_law_14 28 rfl) ?_
        refine ok_iload3 (dq_of td_L_law_14 29 rfl) ?_
        refine ok_iconst (v := 2) (dq_of td_L_law_15 0 rfl) (by decide) ?_
        refine ok_iadd (dq_of td_L_law_15 1 rfl) ?_
        refine ol_sld (dq_of td_L_law_15 2 rfl) ?_
        refine ol_aload0 (dq_of td_L_law_15 3 rfl) ?_
        refine ok_iload3 (dq_of td_L_law_15 4 rfl) ?_
        refine ok_iconst (v := 3) (dq_of td_L_law_15 5 rfl) (by decide) ?_
        refine ok_iadd (dq_of td_L_law_15 6 rfl) ?_
        refine ol_sld (dq_of td_L_law_15 7 rfl) ?_
        refine call_X6_hired ml_law_97  ⟨Nat.le_of_ble_eq_true rfl, Nat.le_of_ble_eq_true rfl⟩ ⟨by decide, by decide⟩ (Nat.le_of_ble_eq_true rfl) (dq_of td_L_law_15 8 rfl) (fun r82 σ81 => ?_)
        refine ok_aload2 (dq_of td_L_law_15 9 rfl) ?_
        refine ol_aload0 (dq_of td_L_law_15 10 rfl) ?_
        refine ok_iload3 (dq_of td_L_law_15 11 rfl) ?_
        refine ok_iconst (v := 1) (dq_of td_L_law_15 12 rfl) (by decide) ?_
        refine ok_iadd (dq_of td_L_law_15 13 rfl) ?_
        refine ol_sld (dq_of td_L_law_15 14 rfl) ?_
        refine ol_aload0 (dq_of td_L_law_15 15 rfl) ?_
        refine ok_iload3 (dq_of td_L_law_15 16 rfl) ?_
        refine ok_iconst (v := 2) (dq_of td_L_law_15 17 rfl) (by decide) ?_
        refine ok_iadd (dq_of td_L_law_15 18 rfl) ?_
        refine ol_sld (dq_of td_L_law_15 19 rfl) ?_
        refine ol_aload0 (dq_of td_L_law_15 20 rfl) ?_
        refine ok_iload3 (dq_of td_L_law_15 21 rfl) ?_
        refine ok_iconst (v := 3) (dq_of td_L_law_15 22 rfl) (by decide) ?_
        refine ok_iadd (dq_of td_L_law_15 23 rfl) ?_
        refine ol_sld (dq_of td_L_law_15 24 rfl) ?_
        refine call_X7_hired ml_law_100  ⟨Nat.le_of_ble_eq_true rfl, Nat.le_of_ble_eq_true rfl⟩ ⟨by decide, by decide⟩ (Nat.le_of_ble_eq_true rfl) (dq_of td_L_law_15 25 rfl) (fun r84 σ83 => ?_)
        refine ok_ic_eq (tgt := 1118) (dq_of td_L_law_15 26 rfl) (by decide) ?_ ?_
        · refine ok_jinc3 (w := 4) (dq_of td_L_law_25 2 rfl) (by decide) rfl (by decide) ?_
          refine ok_goto (tgt := 18) (dq_of td_L_law_25 3 rfl) (by decide) ?_
          refine ok_wk (wk_s (wk_s (wk_s (wk_s wk_0)))) ?_
          exact hH _ _
        · refine ok_iconst (v := 0) (dq_of td_L_law_15 27 rfl) (by decide) ?_
          exact ol_none
      | 21, _ =>
        refine ⟨_, 767, rfl, by decide, ?_⟩
        refine ok_aload1 (dq_of td_L_law_15 29 rfl) ?_
        refine ol_aload0 (dq_of td_L_law_16 0 rfl) ?_
        refine ok_iload3 (dq_of td_L_law_16 1 rfl) ?_
        refine ok_iconst (v := 1) (dq_of td_L_law_16 2 rfl) (by decide) ?_
        refine ok_iadd (dq_of td_L_law_16 3 rfl) ?_
        refine ol_sld (dq_of td_L_law_16 4 rfl) ?_
        refine call_X6_rises ml_law_101  ⟨Nat.le_of_ble_eq_true rfl, Nat.le_of_ble_eq_true rfl⟩ ⟨by decide, by decide⟩ (Nat.le_of_ble_eq_true rfl) (dq_of td_L_law_16 5 rfl) (fun r86 σ85 => ?_)
        refine ok_aload2 (dq_of td_L_law_16 6 rfl) ?_
        refine ol_aload0 (dq_of td_L_law_16 7 rfl) ?_
        refine ok_iload3 (dq_of td_L_law_16 8 rfl) ?_
        refine ok_iconst (v := 1) (dq_of td_L_law_16 9 rfl) (by decide) ?_
        refine ok_iadd (dq_of td_L_law_16 10 rfl) ?_
        refine ol_sld (dq_of td_L_law_16 11 rfl) ?_
        refine call_X7_rises ml_law_104  ⟨Nat.le_of_ble_eq_true rfl, Nat.le_of_ble_eq_true rfl⟩ ⟨by decide, by decide⟩ (Nat.le_of_ble_eq_true rfl) (dq_of td_L_law_16 12 rfl) (fun r88 σ87 => ?_)
        refine ok_ic_eq (tgt := 1118) (dq_of td_L_law_16 13 rfl) (by decide) ?_ ?_
        · refine ok_jinc3 (w := 4) (dq_of td_L_law_25 2 rfl) (by decide) rfl (by decide) ?_
          refine ok_goto (tgt := 18) (dq_of td_L_law_25 3 rfl) (by decide) ?_
          refine ok_wk (wk_s (wk_s (wk_s (wk_s wk_0)))) ?_
          exact hH _ _
        · refine ok_iconst (v := 0) (dq_of td_L_law_16 14 rfl) (by decide) ?_
          exact ol_none
      | 22, _ =>
        refine ⟨_, 790, rfl, by decide, ?_⟩
        refine ok_aload1 (dq_of td_L_law_16 16 rfl) ?_
        refine ol_aload0 (dq_of td_L_law_16 17 rfl) ?_
        refine ok_iload3 (dq_of td_L_law_16 18 rfl) ?_
        refine ok_iconst (v := 1) (dq_of td_L_law_16 19 rfl) (by decide) ?_
        refine ok_iadd (dq_of td_L_law_16 20 rfl) ?_
        refine ol_sld (dq_of td_L_law_16 21 rfl) ?_
        refine call_X6_league ml_law_105  ⟨Nat.le_of_ble_eq_true rfl, Nat.le_of_ble_eq_true rfl⟩ ⟨by decide, by decide⟩ (Nat.le_of_ble_eq_true rfl) (dq_of td_L_law_16 22 rfl) (fun r90 σ89 => ?_)
        refine ok_aload2 (dq_of td_L_law_16 23 rfl) ?_
        refine ol_aload0 (dq_of td_L_law_16 24 rfl) ?_
        refine ok_iload3 (dq_of td_L_law_16 25 rfl) ?_
        refine ok_iconst (v := 1) (dq_of td_L_law_16 26 rfl) (by decide) ?_
        refine ok_iadd (dq_of td_L_law_16 27 rfl) ?_
        refine ol_sld (dq_of td_L_law_16 28 rfl) ?_
        refine call_X7_league ml_law_108  ⟨Nat.le_of_ble_eq_true rfl, Nat.le_of_ble_eq_true rfl⟩ ⟨by decide, by decide⟩ (Nat.le_of_ble_eq_true rfl) (dq_of td_L_law_16 29 rfl) (fun r92 σ91 => ?_)
        refine ok_ic_eq (tgt := 1118) (dq_of td_L_law_17 0 rfl) (by decide) ?_ ?_
        · refine ok_jinc3 (w := 4) (dq_of td_L_law_25 2 rfl) (by decide) rfl (by decide) ?_
          refine ok_goto (tgt := 18) (dq_of td_L_law_25 3 rfl) (by decide) ?_
          refine ok_wk (wk_s (wk_s (wk_s (wk_s wk_0)))) ?_
          exact hH _ _
        · refine ok_iconst (v := 0) (dq_of td_L_law_17 1 rfl) (by decide) ?_
          exact ol_none
      | 23, _ =>
        refine ⟨_, 813, rfl, by decide, ?_⟩
        refine ok_aload1 (dq_of td_L_law_17 3 rfl) ?_
        refine ol_aload0 (dq_of td_L_law_17 4 rfl) ?_
        refine ok_iload3 (dq_of td_L_law_17 5 rfl) ?_
        refine ok_iconst (v := 1) (dq_of td_L_law_17 6 rfl) (by decide) ?_
        refine ok_iadd (dq_of td_L_law_17 7 rfl) ?_
        refine ol_sld (dq_of td_L_law_17 8 rfl) ?_
        refine ol_aload0 (dq_of td_L_law_17 9 rfl) ?_
        refine ok_iload3 (dq_of td_L_law_17 10 rfl) ?_
        refine ok_iconst (v := 2) (dq_of td_L_law_17 11 rfl) (by decide) ?_
        refine ok_iadd (dq_of td_L_law_17 12 rfl) ?_
        refine ol_sld (dq_of td_L_law_17 13 rfl) ?_
        refine call_X6_share ml_law_109  ⟨Nat.le_of_ble_eq_true rfl, Nat.le_of_ble_eq_true rfl⟩ ⟨by decide, by decide⟩ (Nat.le_of_ble_eq_true rfl) (dq_of td_L_law_17 14 rfl) (fun r94 σ93 => ?_)
        refine ok_aload2 (dq_of td_L_law_17 15 rfl) ?_
        refine ol_aload0 (dq_of td_L_law_17 16 rfl) ?_
        refine ok_iload3 (dq_of td_L_law_17 17 rfl) ?_
        refine ok_iconst (v := 1) (dq_of td_L_law_17 18 rfl) (by decide) ?_
        refine ok_iadd (dq_of td_L_law_17 19 rfl) ?_
        refine ol_sld (dq_of td_L_law_17 20 rfl) ?_
        refine ol_aload0 (dq_of td_L_law_17 21 rfl) ?_
        refine ok_iload3 (dq_of td_L_law_17 22 rfl) ?_
        refine ok_iconst (v := 2) (dq_of td_L_law_17 23 rfl) (by decide) ?_
        refine ok_iadd (dq_of td_L_law_17 24 rfl) ?_
        refine ol_sld (dq_of td_L_law_17 25 rfl) ?_
        refine call_X7_share ml_law_113  ⟨Nat.le_of_ble_eq_true rfl, Nat.le_of_ble_eq_true rfl⟩ ⟨by decide, by decide⟩ (Nat.le_of_ble_eq_true rfl) (dq_of td_L_law_17 26 rfl) (fun r96 σ95 => ?_)
        refine ok_lcmp (dq_of td_L_law_17 27 rfl) ?_
        refine ok_if_eq (tgt := 1118) (dq_of td_L_law_17 28 rfl) (by decide) ?_ ?_
        · refine ok_jinc3 (w := 4) (dq_of td_L_law_25 2 rfl) (by decide) rfl (by decide) ?_
          refine ok_goto (tgt := 18) (dq_of td_L_law_25 3 rfl) (by decide) ?_
          refine ok_wk (wk_s (wk_s (wk_s (wk_s wk_0)))) ?_
          exact hH _ _
        · refine ok_iconst (v := 0) (dq_of td_L_law_17 29 rfl) (by decide) ?_
          exact ol_none
      | 24, _ =>
        refine ⟨_, 847, rfl, by decide, ?_⟩
        refine ok_aload1 (dq_of td_L_law_18 1 rfl) ?_
        refine ol_aload0 (dq_of td_L_law_18 2 rfl) ?_
        refine ok_iload3 (dq_of td_L_law_18 3 rfl) ?_
        refine ok_iconst (v := 1) (dq_of td_L_law_18 4 rfl) (by decide) ?_
        refine ok_iadd (dq_of td_L_law_18 5 rfl) ?_
        refine ol_sld (dq_of td_L_law_18 6 rfl) ?_
        refine call_X6_leaves ml_law_114  ⟨Nat.le_of_ble_eq_true rfl, Nat.le_of_ble_eq_true rfl⟩ ⟨by decide, by decide⟩ (Nat.le_of_ble_eq_true rfl) (dq_of td_L_law_18 7 rfl) (fun r98 σ97 => ?_)
        refine ok_aload2 (dq_of td_L_law_18 8 rfl) ?_
        refine ol_aload0 (dq_of td_L_law_18 9 rfl) ?_
        refine ok_iload3 (dq_of td_L_law_18 10 rfl) ?_
        refine ok_iconst (v := 1) (dq_of td_L_law_18 11 rfl) (by decide) ?_
        refine ok_iadd (dq_of td_L_law_18 12 rfl) ?_
        refine ol_sld (dq_of td_L_law_18 13 rfl) ?_
        refine call_X7_leaves ml_law_117  ⟨Nat.le_of_ble_eq_true rfl, Nat.le_of_ble_eq_true rfl⟩ ⟨by decide, by decide⟩ (Nat.le_of_ble_eq_true rfl) (dq_of td_L_law_18 14 rfl) (fun r100 σ99 => ?_)
        refine ok_ic_eq (tgt := 1118) (dq_of td_L_law_18 15 rfl) (by decide) ?_ ?_
        · refine ok_jinc3 (w := 4) (dq_of td_L_law_25 2 rfl) (by decide) rfl (by decide) ?_
          refine ok_goto (tgt := 18) (dq_of td_L_law_25 3 rfl) (by decide) ?_
          refine ok_wk (wk_s (wk_s (wk_s (wk_s wk_0)))) ?_
          exact hH _ _
        · refine ok_iconst (v := 0) (dq_of td_L_law_18 16 rfl) (by decide) ?_
          exact ol_none
      | 25, _ =>
        refine ⟨_, 870, rfl, by decide, ?_⟩
        refine ok_aload1 (dq_of td_L_law_18 18 rfl) ?_
        refine ol_aload0 (dq_of td_L_law_18 19 rfl) ?_
        refine ok_iload3 (dq_of td_L_law_18 20 rfl) ?_
        refine ok_iconst (v := 1) (dq_of td_L_law_18 21 rfl) (by decide) ?_
        refine ok_iadd (dq_of td_L_law_18 22 rfl) ?_
        refine ol_sld (dq_of td_L_law_18 23 rfl) ?_
        refine call_X6_elected ml_law_118  ⟨Nat.le_of_ble_eq_true rfl, Nat.le_of_ble_eq_true rfl⟩ ⟨by decide, by decide⟩ (Nat.le_of_ble_eq_true rfl) (dq_of td_L_law_18 24 rfl) (fun r102 σ101 => ?_)
        refine ok_aload2 (dq_of td_L_law_18 25 rfl) ?_
        refine ol_aload0 (dq_of td_L_law_18 26 rfl) ?_
        refine ok_iload3 (dq_of td_L_law_18 27 rfl) ?_
        refine ok_iconst (v := 1) (dq_of td_L_law_18 28 rfl) (by decide) ?_
        refine ok_iadd (dq_of td_L_law_18 29 rfl) ?_
        refine ol_sld (dq_of td_L_law_19 0 rfl) ?_
        refine call_X7_elected ml_law_121  ⟨Nat.le_of_ble_eq_true rfl, Nat.le_of_ble_eq_true rfl⟩ ⟨by decide, by decide⟩ (Nat.le_of_ble_eq_true rfl) (dq_of td_L_law_19 1 rfl) (fun r104 σ103 => ?_)
        refine ok_ic_eq (tgt := 1118) (dq_of td_L_law_19 2 rfl) (by decide) ?_ ?_
        · refine ok_jinc3 (w := 4) (dq_of td_L_law_25 2 rfl) (by decide) rfl (by decide) ?_
          refine ok_goto (tgt := 18) (dq_of td_L_law_25 3 rfl) (by decide) ?_
          refine ok_wk (wk_s (wk_s (wk_s (wk_s wk_0)))) ?_
          exact hH _ _
        · refine ok_iconst (v := 0) (dq_of td_L_law_19 3 rfl) (by decide) ?_
          exact ol_none
      | 26, _ =>
        refine ⟨_, 893, rfl, by decide, ?_⟩
        refine ok_aload1 (dq_of td_L_law_19 5 rfl) ?_
        refine ol_aload0 (dq_of td_L_law_19 6 rfl) ?_
        refine ok_iload3 (dq_of td_L_law_19 7 rfl) ?_
        refine ok_iconst (v := 1) (dq_of td_L_law_19 8 rfl) (by decide) ?_
        refine ok_iadd (dq_of td_L_law_19 9 rfl) ?_
        refine ol_sld (dq_of td_L_law_19 10 rfl) ?_
        refine ol_aload0 (dq_of td_L_law_19 11 rfl) ?_
        refine ok_iload3 (dq_of td_L_law_19 12 rfl) ?_
        refine ok_iconst (v := 2) (dq_of td_L_law_19 13 rfl) (by decide) ?_
        refine ok_iadd (dq_of td_L_law_19 14 rfl) ?_
        refine ol_sld (dq_of td_L_law_19 15 rfl) ?_
        refine ol_aload0 (dq_of td_L_law_19 16 rfl) ?_
        refine ok_iload3 (dq_of td_L_law_19 17 rfl) ?_
        refine ok_iconst (v := 3) (dq_of td_L_law_19 18 rfl) (by decide) ?_
        refine ok_iadd (dq_of td_L_law_19 19 rfl) ?_
        refine ol_sld (dq_of td_L_law_19 20 rfl) ?_
        refine call_X6_moths ml_law_122  ⟨Nat.le_of_ble_eq_true rfl, Nat.le_of_ble_eq_true rfl⟩ ⟨by decide, by decide⟩ (Nat.le_of_ble_eq_true rfl) (dq_of td_L_law_19 21 rfl) (fun r106 σ105 => ?_)
        refine ok_aload2 (dq_of td_L_law_19 22 rfl) ?_
        refine ol_aload0 (dq_of td_L_law_19 23 rfl) ?_
        refine ok_iload3 (dq_of td_L_law_19 24 rfl) ?_
        refine ok_iconst (v := 1) (dq_of td_L_law_19 25 rfl) (by decide) ?_
        refine ok_iadd (dq_of td_L_law_19 26 rfl) ?_
        refine ol_sld (dq_of td_L_law_19 27 rfl) ?_
        refine ol_aload0 (dq_of td_L_law_19 28 rfl) ?_
        refine ok_iload3 (dq_of td_L_law_19 29 rfl) ?_
        refine ok_iconst (v := 2) (dq_of td_L_law_20 0 rfl) (by decide) ?_
        refine ok_iadd (dq_of td_L_law_20 1 rfl) ?_
        refine ol_sld (dq_of td_L_law_20 2 rfl) ?_
        refine ol_aload0 (dq_of td_L_law_20 3 rfl) ?_
        refine ok_iload3 (dq_of td_L_law_20 4 rfl) ?_
        refine ok_iconst (v := 3) (dq_of td_L_law_20 5 rfl) (by decide) ?_
        refine ok_iadd (dq_of td_L_law_20 6 rfl) ?_
        refine ol_sld (dq_of td_L_law_20 7 rfl) ?_
        refine call_X7_moths ml_law_126  ⟨Nat.le_of_ble_eq_true rfl, Nat.le_of_ble_eq_true rfl⟩ ⟨by decide, by decide⟩ (Nat.le_of_ble_eq_true rfl) (dq_of td_L_law_20 8 rfl) (fun r108 σ107 => ?_)
        refine ok_lcmp (dq_of td_L_law_20 9 rfl) ?_
        refine ok_if_eq (tgt := 1118) (dq_of td_L_law_20 10 rfl) (by decide) ?_ ?_
        · refine ok_jinc3 (w := 4) (dq_of td_L_law_25 2 rfl) (by decide) rfl (by decide) ?_
          refine ok_goto (tgt := 18) (dq_of td_L_law_25 3 rfl) (by decide) ?_
          refine ok_wk (wk_s (wk_s (wk_s (wk_s wk_0)))) ?_
          exact hH _ _
        · refine ok_iconst (v := 0) (dq_of td_L_law_20 11 rfl) (by decide) ?_
          exact ol_none
      | 27, _ =>
        refine ⟨_, 937, rfl, by decide, ?_⟩
        refine ok_aload1 (dq_of td_L_law_20 13 rfl) ?_
        refine ol_aload0 (dq_of td_L_law_20 14 rfl) ?_
        refine ok_iload3 (dq_of td_L_law_20 15 rfl) ?_
        refine ok_iconst (v := 1) (dq_of td_L_law_20 16 rfl) (by decide) ?_
        refine ok_iadd (dq_of td_L_law_20 17 rfl) ?_
        refine ol_sld (dq_of td_L_law_20 18 rfl) ?_
        refine ol_aload0 (dq_of td_L_law_20 19 rfl) ?_
        refine ok_iload3 (dq_of td_L_law_20 20 rfl) ?_
        refine ok_iconst (v := 2) (dq_of td_L_law_20 21 rfl) (by decide) ?_
        refine ok_iadd (dq_of td_L_law_20 22 rfl) ?_
        refine ol_sld (dq_of td_L_law_20 23 rfl) ?_
        refine call_X6_seen ml_law_127  ⟨Nat.le_of_ble_eq_true rfl, Nat.le_of_ble_eq_true rfl⟩ ⟨by decide, by decide⟩ (Nat.le_of_ble_eq_true rfl) (dq_of td_L_law_20 24 rfl) (fun r110 σ109 => ?_)
        refine ok_aload2 (dq_of td_L_law_20 25 rfl) ?_
        refine ol_aload0 (dq_of td_L_law_20 26 rfl) ?_
        refine ok_iload3 (dq_of td_L_law_20 27 rfl) ?_
        refine ok_iconst (v := 1) (dq_of td_L_law_20 28 rfl) (by decide) ?_
        refine ok_iadd (dq_of td_L_law_20 29 rfl) ?_
        refine ol_sld (dq_of td_L_law_21 0 rfl) ?_
        refine ol_aload0 (dq_of td_L_law_21 1 rfl) ?_
        refine ok_iload3 (dq_of td_L_law_21 2 rfl) ?_
        refine ok_iconst (v := 2) (dq_of td_L_law_21 3 rfl) (by decide) ?_
        refine ok_iadd (dq_of td_L_law_21 4 rfl) ?_
        refine ol_sld (dq_of td_L_law_21 5 rfl) ?_
        refine call_X7_seen ml_law_130  ⟨Nat.le_of_ble_eq_true rfl, Nat.le_of_ble_eq_true rfl⟩ ⟨by decide, by decide⟩ (Nat.le_of_ble_eq_true rfl) (dq_of td_L_law_21 6 rfl) (fun r112 σ111 => ?_)
        refine ok_ic_eq (tgt := 1118) (dq_of td_L_law_21 7 rfl) (by decide) ?_ ?_
        · refine ok_jinc3 (w := 4) (dq_of td_L_law_25 2 rfl) (by decide) rfl (by decide) ?_
          refine ok_goto (tgt := 18) (dq_of td_L_law_25 3 rfl) (by decide) ?_
          refine ok_wk (wk_s (wk_s (wk_s (wk_s wk_0)))) ?_
          exact hH _ _
        · refine ok_iconst (v := 0) (dq_of td_L_law_21 8 rfl) (by decide) ?_
          exact ol_none
      | 28, _ =>
        refine ⟨_, 970, rfl, by decide, ?_⟩
        refine ok_aload1 (dq_of td_L_law_21 10 rfl) ?_
        refine call_X6_forget ml_law_131  ⟨Nat.le_of_ble_eq_true rfl, Nat.le_of_ble_eq_true rfl⟩ ⟨by decide, by decide⟩ (Nat.le_of_ble_eq_true rfl) (dq_of td_L_law_21 11 rfl) (fun r114 σ113 => ?_)
        refine ok_aload2 (dq_of td_L_law_21 12 rfl) ?_
        refine call_X7_forget ml_law_134  ⟨Nat.le_of_ble_eq_true rfl, Nat.le_of_ble_eq_true rfl⟩ ⟨by decide, by decide⟩ (Nat.le_of_ble_eq_true rfl) (dq_of td_L_law_21 13 rfl) (fun r116 σ115 => ?_)
        refine ok_ic_eq (tgt := 1118) (dq_of td_L_law_21 14 rfl) (by decide) ?_ ?_
        · refine ok_jinc3 (w := 4) (dq_of td_L_law_25 2 rfl) (by decide) rfl (by decide) ?_
          refine ok_goto (tgt := 18) (dq_of td_L_law_25 3 rfl) (by decide) ?_
          refine ok_wk (wk_s (wk_s (wk_s (wk_s wk_0)))) ?_
          exact hH _ _
        · refine ok_iconst (v := 0) (dq_of td_L_law_21 15 rfl) (by decide) ?_
          exact ol_none
      | 29, _ =>
        refine ⟨_, 983, rfl, by decide, ?_⟩
        refine ok_aload1 (dq_of td_L_law_21 17 rfl) ?_
        refine ol_aload0 (dq_of td_L_law_21 18 rfl) ?_
        refine ok_iload3 (dq_of td_L_law_21 19 rfl) ?_
        refine ok_iconst (v := 1) (dq_of td_L_law_21 20 rfl) (by decide) ?_
        refine ok_iadd (dq_of td_L_law_21 21 rfl) ?_
        refine ol_sld (dq_of td_L_law_21 22 rfl) ?_
        refine call_X6_fit ml_law_135  ⟨Nat.le_of_ble_eq_true rfl, Nat.le_of_ble_eq_true rfl⟩ ⟨by decide, by decide⟩ (Nat.le_of_ble_eq_true rfl) (dq_of td_L_law_21 23 rfl) (fun r118 σ117 => ?_)
        refine ok_aload2 (dq_of td_L_law_21 24 rfl) ?_
        refine ol_aload0 (dq_of td_L_law_21 25 rfl) ?_
        refine ok_iload3 (dq_of td_L_law_21 26 rfl) ?_
        refine ok_iconst (v := 1) (dq_of td_L_law_21 27 rfl) (by decide) ?_
        refine ok_iadd (dq_of td_L_law_21 28 rfl) ?_
        refine ol_sld (dq_of td_L_law_21 29 rfl) ?_
        refine call_X7_fit ml_law_138  ⟨Nat.le_of_ble_eq_true rfl, Nat.le_of_ble_eq_true rfl⟩ ⟨by decide, by decide⟩ (Nat.le_of_ble_eq_true rfl) (dq_of td_L_law_22 0 rfl) (fun r120 σ119 => ?_)
        refine ok_ic_eq (tgt := 1118) (dq_of td_L_law_22 1 rfl) (by decide) ?_ ?_
        · refine ok_jinc3 (w := 4) (dq_of td_L_law_25 2 rfl) (by decide) rfl (by decide) ?_
          refine ok_goto (tgt := 18) (dq_of td_L_law_25 3 rfl) (by decide) ?_
          refine ok_wk (wk_s (wk_s (wk_s (wk_s wk_0)))) ?_
          exact hH _ _
        · refine ok_iconst (v := 0) (dq_of td_L_law_22 2 rfl) (by decide) ?_
          exact ol_none
      | 30, _ =>
        refine ⟨_, 1006, rfl, by decide, ?_⟩
        refine ok_aload1 (dq_of td_L_law_22 4 rfl) ?_
        refine ol_aload0 (dq_of td_L_law_22 5 rfl) ?_
        refine ok_iload3 (dq_of td_L_law_22 6 rfl) ?_
        refine ok_iconst (v := 1) (dq_of td_L_law_22 7 rfl) (by decide) ?_
        refine ok_iadd (dq_of td_L_law_22 8 rfl) ?_
        refine ol_sld (dq_of td_L_law_22 9 rfl) ?_
        refine ol_aload0 (dq_of td_L_law_22 10 rfl) ?_
        refine ok_iload3 (dq_of td_L_law_22 11 rfl) ?_
        refine ok_iconst (v := 2) (dq_of td_L_law_22 12 rfl) (by decide) ?_
        refine ok_iadd (dq_of td_L_law_22 13 rfl) ?_
        refine ol_sld (dq_of td_L_law_22 14 rfl) ?_
        refine ol_aload0 (dq_of td_L_law_22 15 rfl) ?_
        refine ok_iload3 (dq_of td_L_law_22 16 rfl) ?_
        refine ok_iconst (v := 3) (dq_of td_L_law_22 17 rfl) (by decide) ?_
        refine ok_iadd (dq_of td_L_law_22 18 rfl) ?_
        refine ol_sld (dq_of td_L_law_22 19 rfl) ?_
        refine call_X6_year ml_law_139  ⟨Nat.le_of_ble_eq_true rfl, Nat.le_of_ble_eq_true rfl⟩ ⟨by decide, by decide⟩ (Nat.le_of_ble_eq_true rfl) (dq_of td_L_law_22 20 rfl) (fun r122 σ121 => ?_)
        refine ok_aload2 (dq_of td_L_law_22 21 rfl) ?_
        refine ol_aload0 (dq_of td_L_law_22 22 rfl) ?_
        refine ok_iload3 (dq_of td_L_law_22 23 rfl) ?_
        refine ok_iconst (v := 1) (dq_of td_L_law_22 24 rfl) (by decide) ?_
        refine ok_iadd (dq_of td_L_law_22 25 rfl) ?_
        refine ol_sld (dq_of td_L_law_22 26 rfl) ?_
        refine ol_aload0 (dq_of td_L_law_22 27 rfl) ?_
        refine ok_iload3 (dq_of td_L_law_22 28 rfl) ?_
        refine ok_iconst (v := 2) (dq_of td_L_law_22 29 rfl) (by decide) ?_
        refine ok_iadd (dq_of td_L_law_23 0 rfl) ?_
        refine ol_sld (dq_of td_L_law_23 1 rfl) ?_
        refine ol_aload0 (dq_of td_L_law_23 2 rfl) ?_
        refine ok_iload3 (dq_of td_L_law_23 3 rfl) ?_
        refine ok_iconst (v := 3) (dq_of td_L_law_23 4 rfl) (by decide) ?_
        refine ok_iadd (dq_of td_L_law_23 5 rfl) ?_
        refine ol_sld (dq_of td_L_law_23 6 rfl) ?_
        refine call_X7_year ml_law_142  ⟨Nat.le_of_ble_eq_true rfl, Nat.le_of_ble_eq_true rfl⟩ ⟨by decide, by decide⟩ (Nat.le_of_ble_eq_true rfl) (dq_of td_L_law_23 7 rfl) (fun r124 σ123 => ?_)
        refine ok_ic_eq (tgt := 1118) (dq_of td_L_law_23 8 rfl) (by decide) ?_ ?_
        · refine ok_jinc3 (w := 4) (dq_of td_L_law_25 2 rfl) (by decide) rfl (by decide) ?_
          refine ok_goto (tgt := 18) (dq_of td_L_law_25 3 rfl) (by decide) ?_
          refine ok_wk (wk_s (wk_s (wk_s (wk_s wk_0)))) ?_
          exact hH _ _
        · refine ok_iconst (v := 0) (dq_of td_L_law_23 9 rfl) (by decide) ?_
          exact ol_none
      | 31, _ =>
        refine ⟨_, 1049, rfl, by decide, ?_⟩
        refine ok_aload1 (dq_of td_L_law_23 11 rfl) ?_
        refine ol_aload0 (dq_of td_L_law_23 12 rfl) ?_
        refine ok_iload3 (dq_of td_L_law_23 13 rfl) ?_
        refine ok_iconst (v := 1) (dq_of td_L_law_23 14 rfl) (by decide) ?_
        refine ok_iadd (dq_of td_L_law_23 15 rfl) ?_
        refine ol_sld (dq_of td_L_law_23 16 rfl) ?_
        refine call_X6_image ml_law_143  ⟨Nat.le_of_ble_eq_true rfl, Nat.le_of_ble_eq_true rfl⟩ ⟨by decide, by decide⟩ (Nat.le_of_ble_eq_true rfl) (dq_of td_L_law_23 17 rfl) (fun r126 σ125 => ?_)
        refine ok_aload2 (dq_of td_L_law_23 18 rfl) ?_
        refine ol_aload0 (dq_of td_L_law_23 19 rfl) ?_
        refine ok_iload3 (dq_of td_L_law_23 20 rfl) ?_
        refine ok_iconst (v := 1) (dq_of td_L_law_23 21 rfl) (by decide) ?_
        refine ok_iadd (dq_of td_L_law_23 22 rfl) ?_
        refine ol_sld (dq_of td_L_law_23 23 rfl) ?_
        refine call_X7_image ml_law_146  ⟨Nat.le_of_ble_eq_true rfl, Nat.le_of_ble_eq_true rfl⟩ ⟨by decide, by decide⟩ (Nat.le_of_ble_eq_true rfl) (dq_of td_L_law_23 24 rfl) (fun r128 σ127 => ?_)
        refine ok_ic_eq (tgt := 1118) (dq_of td_L_law_23 25 rfl) (by decide) ?_ ?_
        · refine ok_jinc3 (w := 4) (dq_of td_L_law_25 2 rfl) (by decide) rfl (by decide) ?_
          refine ok_goto (tgt := 18) (dq_of td_L_law_25 3 rfl) (by decide) ?_
          refine ok_wk (wk_s (wk_s (wk_s (wk_s wk_0)))) ?_
          exact hH _ _
        · refine ok_iconst (v := 0) (dq_of td_L_law_23 26 rfl) (by decide) ?_
          exact ol_none
      | 32, _ =>
        refine ⟨_, 1072, rfl, by decide, ?_⟩
        refine ok_aload1 (dq_of td_L_law_23 28 rfl) ?_
        refine ol_aload0 (dq_of td_L_law_23 29 rfl) ?_
        refine ok_iload3 (dq_of td_L_law_24 0 rfl) ?_
        refine ok_iconst (v := 1) (dq_of td_L_law_24 1 rfl) (by decide) ?_
        refine ok_iadd (dq_of td_L_law_24 2 rfl) ?_
        refine ol_sld (dq_of td_L_law_24 3 rfl) ?_
        refine call_X6_restore ml_law_147  ⟨Nat.le_of_ble_eq_true rfl, Nat.le_of_ble_eq_true rfl⟩ ⟨by decide, by decide⟩ (Nat.le_of_ble_eq_true rfl) (dq_of td_L_law_24 4 rfl) (fun r130 σ129 => ?_)
        refine ok_aload2 (dq_of td_L_law_24 5 rfl) ?_
        refine ol_aload0 (dq_of td_L_law_24 6 rfl) ?_
        refine ok_iload3 (dq_of td_L_law_24 7 rfl) ?_
        refine ok_iconst (v := 1) (dq_of td_L_law_24 8 rfl) (by decide) ?_
        refine ok_iadd (dq_of td_L_law_24 9 rfl) ?_
        refine ol_sld (dq_of td_L_law_24 10 rfl) ?_
        refine call_X7_restore ml_law_150  ⟨Nat.le_of_ble_eq_true rfl, Nat.le_of_ble_eq_true rfl⟩ ⟨by decide, by decide⟩ (Nat.le_of_ble_eq_true rfl) (dq_of td_L_law_24 11 rfl) (fun r132 σ131 => ?_)
        refine ok_ic_eq (tgt := 1118) (dq_of td_L_law_24 12 rfl) (by decide) ?_ ?_
        · refine ok_jinc3 (w := 4) (dq_of td_L_law_25 2 rfl) (by decide) rfl (by decide) ?_
          refine ok_goto (tgt := 18) (dq_of td_L_law_25 3 rfl) (by decide) ?_
          refine ok_wk (wk_s (wk_s (wk_s (wk_s wk_0)))) ?_
          exact hH _ _
        · refine ok_iconst (v := 0) (dq_of td_L_law_24 13 rfl) (by decide) ?_
          exact ol_none
      | 33, _ =>
        refine ⟨_, 1095, rfl, by decide, ?_⟩
        refine ok_aload1 (dq_of td_L_law_24 15 rfl) ?_
        refine ol_aload0 (dq_of td_L_law_24 16 rfl) ?_
        refine ok_iload3 (dq_of td_L_law_24 17 rfl) ?_
        refine ok_iconst (v := 1) (dq_of td_L_law_24 18 rfl) (by decide) ?_
        refine ok_iadd (dq_of td_L_law_24 19 rfl) ?_
        refine ol_sld (dq_of td_L_law_24 20 rfl) ?_
        refine call_X6_told ml_law_151  ⟨Nat.le_of_ble_eq_true rfl, Nat.le_of_ble_eq_true rfl⟩ ⟨by decide, by decide⟩ (Nat.le_of_ble_eq_true rfl) (dq_of td_L_law_24 21 rfl) (fun r134 σ133 => ?_)
        refine ok_aload2 (dq_of td_L_law_24 22 rfl) ?_
        refine ol_aload0 (dq_of td_L_law_24 23 rfl) ?_
        refine ok_iload3 (dq_of td_L_law_24 24 rfl) ?_
        refine ok_iconst (v := 1) (dq_of td_L_law_24 25 rfl) (by decide) ?_
        refine ok_iadd (dq_of td_L_law_24 26 rfl) ?_
        refine ol_sld (dq_of td_L_law_24 27 rfl) ?_
        refine call_X7_told ml_law_154  ⟨Nat.le_of_ble_eq_true rfl, Nat.le_of_ble_eq_true rfl⟩ ⟨by decide, by decide⟩ (Nat.le_of_ble_eq_true rfl) (dq_of td_L_law_24 28 rfl) (fun r136 σ135 => ?_)
        refine ok_ic_eq (tgt := 1118) (dq_of td_L_law_24 29 rfl) (by decide) ?_ ?_
        · refine ok_jinc3 (w := 4) (dq_of td_L_law_25 2 rfl) (by decide) rfl (by decide) ?_
          refine ok_goto (tgt := 18) (dq_of td_L_law_25 3 rfl) (by decide) ?_
          refine ok_wk (wk_s (wk_s (wk_s (wk_s wk_0)))) ?_
          exact hH _ _
        · refine ok_iconst (v := 0) (dq_of td_L_law_25 0 rfl) (by decide) ?_
          exact ol_none
      | j + 34, hj => exact absurd hj (by omega)
theorem ld_L_law_18 {G : KW} {l : Launch} (xs : Nat → Int32) (Ls : Nat) (b : Nat) {K : Sg → Option (Unit)} (hK : ∀  (σ : Sg), Okg G l code 4 R_law ret room_1 (lX G b Ls xs) (lZ b) 123 12726 1124 [none, none, none, none] [] σ (K  σ)) (n : Nat) (x3 : Int32) (σ : Sg) : Okg G l code 4 R_law ret room_1 (lX G b Ls xs) (lZ b) 123 12726 18 [some (.ref b), some (k_rr G 0), some (k_rr G 100), some (.int x3)] [] σ (e_lp1 (d_L_law_18 xs Ls K) n x3 σ) :=
  ok_lp1 (Lf := fun (x3 : Int32) => [some (.ref b), some (k_rr G 0), some (k_rr G 100), some (.int x3)]) (fun _ hH x3 σ => od_L_law_18 _ _ b hK hH x3 σ) n x3 σ
def m_L_law (xs : Nat → Int32) (Ls : Nat) (σ : Sg) : Option Unit := e_lp1 (d_L_law_18 xs Ls (fun σ137 => some ())) e_F 0 σ
theorem om_L_law {G : KW} {l : Launch} (xs : Nat → Int32) (Ls b : Nat) (σ : Sg) : Okg G l code 4 R_law ret room_1 (lX G b Ls xs) (lZ b) 123 12726 18 [some (.ref b), some (k_rr G 0), some (k_rr G 100), some (.int 0)] [] σ (m_L_law xs Ls σ) := by
  unfold m_L_law
  refine ok_wk (wk_s (wk_s (wk_s (wk_s wk_0)))) ?_
  refine ld_L_law_18 _ _ b (fun σ137 => ?_) _ _ _
  refine ok_iconst (v := 1) (dq_of td_L_law_25 4 rfl) (by decide) ?_
  exact ol_ret (dq_of td_L_law_25 5 rfl)
theorem cl_law_7 : Cond.classLink R_law 7 RX6 ∈ k_gw := gw_of 109 (by decide +kernel) rfl
theorem is_6 : Cond.instantiable RX6 10 ∈ k_gw ∧ Cond.initialized RX6 ∈ k_gw := ⟨gw_of 110 (by decide +kernel) rfl, gw_of 99 (by decide +kernel) rfl⟩
theorem df_6 : ∀ j, j < 10 → defaultValue (tyX6 j) = vp_V [.null, .null, .null, .null, .null, .null, .null, .null, .null, .null] j := by decide
theorem cl_law_10 : Cond.classLink R_law 10 RX7 ∈ k_gw := gw_of 842 (by decide +kernel) rfl
theorem is_7 : Cond.instantiable RX7 30 ∈ k_gw ∧ Cond.initialized RX7 ∈ k_gw := ⟨gw_of 843 (by decide +kernel) rfl, gw_of 106 (by decide +kernel) rfl⟩
theorem df_7 : ∀ j, j < 30 → defaultValue (tyX7 j) = vp_V [.int 0, .int 0, .null, .null, .null, .null, .null, .int 0, .null, .null, .null, .null, .null, .null, .int 0, .null, .int 0, .null, .null, .null, .null, .null, .null, .int 0, .int 0, .int 0, .null, .null, .null, .null] j := by decide
def s_0 : Sg := fun k => ([fun _ => 0, upd (fun _ => 0) 2 99, upd (upd (upd (upd (upd (fun _ => 0) 0 (-1)) 1 (-1)) 2 (-1)) 3 (-1)) 4 (-1), fun _ => 0, fun _ => 0, fun _ => 0, fun _ => 0, fun _ => 0, fun _ => 0, fun _ => 0, fun _ => 0, fun _ => 0, fun _ => 0, fun _ => 0, fun _ => 0, upd (fun _ => 0) 2 99, upd (upd (upd (upd (upd (fun _ => 0) 0 (-1)) 1 (-1)) 2 (-1)) 3 (-1)) 4 (-1), fun _ => 0, fun _ => 0, fun _ => 0, fun _ => 0, fun _ => 0, fun _ => 0, fun _ => 0, fun _ => 0, fun _ => 0, fun _ => 0, fun _ => 0, fun _ => 0, upd (fun _ => 0) 2 99, upd (upd (upd (upd (upd (fun _ => 0) 0 (-1)) 1 (-1)) 2 (-1)) 3 (-1)) 4 (-1), fun _ => 0, fun _ => 0, fun _ => 0, fun _ => 0, fun _ => 0, fun _ => 0, fun _ => 0, fun _ => 0, fun _ => 0, fun _ => 0, fun _ => 0, fun _ => 0, upd (fun _ => 0) 2 99, upd (upd (upd (upd (upd (fun _ => 0) 0 (-1)) 1 (-1)) 2 (-1)) 3 (-1)) 4 (-1), fun _ => 0, fun _ => 0, fun _ => 0, fun _ => 0, fun _ => 0, fun _ => 0, fun _ => 0, fun _ => 0, fun _ => 0, fun _ => 0, fun _ => 0, fun _ => 0, fun _ => 0, fun _ => 0, fun _ => 0, fun _ => 0, fun _ => 0, fun _ => 0, upd (upd (upd (upd (upd (fun _ => 0) 0 (-6)) 1 (-6)) 2 (-6)) 3 (-6)) 4 (-6), fun _ => 0, fun _ => 0, upd (fun _ => 0) 2 99, upd (upd (upd (upd (upd (fun _ => 0) 0 (-1)) 1 (-1)) 2 (-1)) 3 (-1)) 4 (-1), fun _ => 0, fun _ => 0, fun _ => 0, fun _ => 0, fun _ => 0, fun _ => 0, fun _ => 0, fun _ => 0, fun _ => 0, fun _ => 0, fun _ => 0, fun _ => 0, fun _ => 0, fun _ => 0, fun _ => 0, upd (fun _ => 0) 2 99, upd (upd (upd (upd (upd (fun _ => 0) 0 (-1)) 1 (-1)) 2 (-1)) 3 (-1)) 4 (-1), fun _ => 0, fun _ => 0, fun _ => 0, fun _ => 0, fun _ => 0, fun _ => 0, fun _ => 0, fun _ => 0, fun _ => 0, fun _ => 0, fun _ => 0, fun _ => 0, fun _ => 0, fun _ => 0, fun _ => 0, upd (fun _ => 0) 7 99, fun _ => 0, fun _ => 0, fun _ => 0, fun _ => 0, fun _ => 0, upd (upd (upd (upd (upd (fun _ => 0) 0 5) 1 5) 2 5) 3 5) 4 5, fun _ => 0, fun _ => 0, fun _ => 0, fun _ => 0, fun _ => 0, fun _ => 0, fun _ => 0, fun _ => 0, fun _ => 0, fun _ => 0, fun _ => 0, fun _ => 0, fun _ => 0, fun _ => 0, fun _ => 0, fun _ => 0] : List (Nat → Int32)).getD k (fun _ => 0)
set_option maxHeartbeats 4000000 in
set_option maxRecDepth 100000 in
theorem law_start {G : KW} {l : Launch} {b Ls : Nat} {xs : Nat → Int32} (hE : m_L_law xs Ls s_0 = some ()) : Gww G l code 4 R_law ret room_1 (lX G b Ls xs) (lZ b ()) (wq G [] []) 0 0 0 [some (.ref b), none, none, none] [] := by
  refine qn_new (fun _ _ _ h => Nat.le_of_eq h.2.2.2) inw_6 tyX6 tyX6_ok cl_law_7 is_6.1 is_6.2 (ci := 6) rfl df_6 (by decide) (by decide) (dq_of td_L_law_0 0 rfl) (fun q0 => ?_)
  show Gww _ _ _ _ _ _ _ _ _ (wq G [] [(q0, .inr (6, [.null, .null, .null, .null, .null, .null, .null, .null, .null, .null]))]) _ _ _ _ _
  refine gw_dup (dq_of td_L_law_0 1 rfl) rfl ?_
  refine qn_init (fun _ _ _ h => Nat.le_of_eq h.2.2.2) (es0 := []) (As := []) (cc_X6_init q0 []) rfl mo_X6_init rfl hi_X6_init ml_law_9 rfl ⟨by decide, by decide⟩ rfl ⟨by decide, by decide⟩ (Nat.le_of_ble_eq_true rfl) (dq_of td_L_law_0 2 rfl) ?_
  rintro w ⟨q1, rfl⟩
  show Gww _ _ _ _ _ _ _ _ _ (wq G [] [(q0, .inr (6, [.ref (q1 0), .ref (q1 14), .ref (q1 28), .ref (q1 42), .ref (q1 56), .ref (q1 57), .ref (q1 59), .ref (q1 63), .ref (q1 64), .ref (q1 81)])), ((q1 0), .inr (4, [.int 0, .int 0, .int 99, .int 0, .ref (q1 1), .ref (q1 2), .ref (q1 3), .ref (q1 4), .ref (q1 5), .ref (q1 6), .ref (q1 7), .ref (q1 8), .ref (q1 9), .ref (q1 10), .ref (q1 11), .ref (q1 12), .ref (q1 13)])), ((q1 1), .inl (G.2.2.1.1, 5, .inl (upd (upd (upd (upd (upd (fun _ => 0) 0 (-1)) 1 (-1)) 2 (-1)) 3 (-1)) 4 (-1)))), ((q1 2), .inl (G.2.2.1.1, 5, .inl (fun _ => 0))), ((q1 3), .inl (G.2.2.1.1, 5, .inl (fun _ => 0))), ((q1 4), .inl (G.2.2.1.1, 5, .inl (fun _ => 0))), ((q1 5), .inl (G.2.2.1.1, 5, .inl (fun _ => 0))), ((q1 6), .inl (G.2.2.1.1, 5, .inl (fun _ => 0))), ((q1 7), .inl (G.2.2.1.1, 5, .inl (fun _ => 0))), ((q1 8), .inl (G.2.2.1.1, 5, .inl (fun _ => 0))), ((q1 9), .inl (G.2.2.1.1, 5, .inl (fun _ => 0))), ((q1 10), .inl (G.2.2.1.1, 5, .inl (fun _ => 0))), ((q1 11), .inl (G.2.2.1.1, 5, .inl (fun _ => 0))), ((q1 12), .inl (G.2.2.1.1, 6, .inl (fun _ => 0))), ((q1 13), .inl (G.2.2.1.1, 6, .inl (fun _ => 0))), ((q1 14), .inr (4, [.int 0, .int 0, .int 99, .int 0, .ref (q1 15), .ref (q1 16), .ref (q1 17), .ref (q1 18), .ref (q1 19), .ref (q1 20), .ref (q1 21), .ref (q1 22), .ref (q1 23), .ref (q1 24), .ref (q1 25), .ref (q1 26), .ref (q1 27)])), ((q1 15), .inl (G.2.2.1.1, 5, .inl (upd (upd (upd (upd (upd (fun _ => 0) 0 (-1)) 1 (-1)) 2 (-1)) 3 (-1)) 4 (-1)))), ((q1 16), .inl (G.2.2.1.1, 5, .inl (fun _ => 0))), ((q1 17), .inl (G.2.2.1.1, 5, .inl (fun _ => 0))), ((q1 18), .inl (G.2.2.1.1, 5, .inl (fun _ => 0))), ((q1 19), .inl (G.2.2.1.1, 5, .inl (fun _ => 0))), ((q1 20), .inl (G.2.2.1.1, 5, .inl (fun _ => 0))), ((q1 21), .inl (G.2.2.1.1, 5, .inl (fun _ => 0))), ((q1 22), .inl (G.2.2.1.1, 5, .inl (fun _ => 0))), ((q1 23), .inl (G.2.2.1.1, 5, .inl (fun _ => 0))), ((q1 24), .inl (G.2.2.1.1, 5, .inl (fun _ => 0))), ((q1 25), .inl (G.2.2.1.1, 5, .inl (fun _ => 0))), ((q1 26), .inl (G.2.2.1.1, 6, .inl (fun _ => 0))), ((q1 27), .inl (G.2.2.1.1, 6, .inl (fun _ => 0))), ((q1 28), .inr (4, [.int 0, .int 0, .int 99, .int 0, .ref (q1 29), .ref (q1 30), .ref (q1 31), .ref (q1 32), .ref (q1 33), .ref (q1 34), .ref (q1 35), .ref (q1 36), .ref (q1 37), .ref (q1 38), .ref (q1 39), .ref (q1 40), .ref (q1 41)])), ((q1 29), .inl (G.2.2.1.1, 5, .inl (upd (upd (upd (upd (upd (fun _ => 0) 0 (-1)) 1 (-1)) 2 (-1)) 3 (-1)) 4 (-1)))), ((q1 30), .inl (G.2.2.1.1, 5, .inl (fun _ => 0))), ((q1 31), .inl (G.2.2.1.1, 5, .inl (fun _ => 0))), ((q1 32), .inl (G.2.2.1.1, 5, .inl (fun _ => 0))), ((q1 33), .inl (G.2.2.1.1, 5, .inl (fun _ => 0))), ((q1 34), .inl (G.2.2.1.1, 5, .inl (fun _ => 0))), ((q1 35), .inl (G.2.2.1.1, 5, .inl (fun _ => 0))), ((q1 36), .inl (G.2.2.1.1, 5, .inl (fun _ => 0))), ((q1 37), .inl (G.2.2.1.1, 5, .inl (fun _ => 0))), ((q1 38), .inl (G.2.2.1.1, 5, .inl (fun _ => 0))), ((q1 39), .inl (G.2.2.1.1, 5, .inl (fun _ => 0))), ((q1 40), .inl (G.2.2.1.1, 6, .inl (fun _ => 0))), ((q1 41), .inl (G.2.2.1.1, 6, .inl (fun _ => 0))), ((q1 42), .inr (4, [.int 0, .int 0, .int 99, .int 0, .ref (q1 43), .ref (q1 44), .ref (q1 45), .ref (q1 46), .ref (q1 47), .ref (q1 48), .ref (q1 49), .ref (q1 50), .ref (q1 51), .ref (q1 52), .ref (q1 53), .ref (q1 54), .ref (q1 55)])), ((q1 43), .inl (G.2.2.1.1, 5, .inl (upd (upd (upd (upd (upd (fun _ => 0) 0 (-1)) 1 (-1)) 2 (-1)) 3 (-1)) 4 (-1)))), ((q1 44), .inl (G.2.2.1.1, 5, .inl (fun _ => 0))), ((q1 45), .inl (G.2.2.1.1, 5, .inl (fun _ => 0))), ((q1 46), .inl (G.2.2.1.1, 5, .inl (fun _ => 0))), ((q1 47), .inl (G.2.2.1.1, 5, .inl (fun _ => 0))), ((q1 48), .inl (G.2.2.1.1, 5, .inl (fun _ => 0))), ((q1 49), .inl (G.2.2.1.1, 5, .inl (fun _ => 0))), ((q1 50), .inl (G.2.2.1.1, 5, .inl (fun _ => 0))), ((q1 51), .inl (G.2.2.1.1, 5, .inl (fun _ => 0))), ((q1 52), .inl (G.2.2.1.1, 5, .inl (fun _ => 0))), ((q1 53), .inl (G.2.2.1.1, 5, .inl (fun _ => 0))), ((q1 54), .inl (G.2.2.1.1, 6, .inl (fun _ => 0))), ((q1 55), .inl (G.2.2.1.1, 6, .inl (fun _ => 0))), ((q1 56), .inl (G.2.2.1.2, 2, .inl (fun _ => 0))), ((q1 57), .inr (1, [.ref (q1 58), .int 0])), ((q1 58), .inl (G.2.2.1.1, 60, .inl (fun _ => 0))), ((q1 59), .inr (3, [.ref (q1 60), .ref (q1 61), .ref (q1 62)])), ((q1 60), .inl (G.2.2.1.1, 5, .inl (fun _ => 0))), ((q1 61), .inl (G.2.2.1.1, 5, .inl (fun _ => 0))), ((q1 62), .inl (G.2.2.1.1, 5, .inl (upd (upd (upd (upd (upd (fun _ => 0) 0 (-6)) 1 (-6)) 2 (-6)) 3 (-6)) 4 (-6)))), ((q1 63), .inr (0, [.ref (q1 59), .int 0, .int 0])), ((q1 64), .inr (5, [.ref (q1 59), .ref (q1 65), .ref (q1 79), .ref (q1 80), .int 0])), ((q1 65), .inr (4, [.int 0, .int 0, .int 99, .int 0, .ref (q1 66), .ref (q1 67), .ref (q1 68), .ref (q1 69), .ref (q1 70), .ref (q1 71), .ref (q1 72), .ref (q1 73), .ref (q1 74), .ref (q1 75), .ref (q1 76), .ref (q1 77), .ref (q1 78)])), ((q1 66), .inl (G.2.2.1.1, 5, .inl (upd (upd (upd (upd (upd (fun _ => 0) 0 (-1)) 1 (-1)) 2 (-1)) 3 (-1)) 4 (-1)))), ((q1 67), .inl (G.2.2.1.1, 5, .inl (fun _ => 0))), ((q1 68), .inl (G.2.2.1.1, 5, .inl (fun _ => 0))), ((q1 69), .inl (G.2.2.1.1, 5, .inl (fun _ => 0))), ((q1 70), .inl (G.2.2.1.1, 5, .inl (fun _ => 0))), ((q1 71), .inl (G.2.2.1.1, 5, .inl (fun _ => 0))), ((q1 72), .inl (G.2.2.1.1, 5, .inl (fun _ => 0))), ((q1 73), .inl (G.2.2.1.1, 5, .inl (fun _ => 0))), ((q1 74), .inl (G.2.2.1.1, 5, .inl (fun _ => 0))), ((q1 75), .inl (G.2.2.1.1, 5, .inl (fun _ => 0))), ((q1 76), .inl (G.2.2.1.1, 5, .inl (fun _ => 0))), ((q1 77), .inl (G.2.2.1.1, 6, .inl (fun _ => 0))), ((q1 78), .inl (G.2.2.1.1, 6, .inl (fun _ => 0))), ((q1 79), .inl (G.2.2.1.1, 5, .inl (fun _ => 0))), ((q1 80), .inl (G.2.2.1.1, 98, .inl (fun _ => 0))), ((q1 81), .inr (2, [.ref (q1 59), .ref (q1 82), .ref (q1 96), .ref (q1 97), .ref (q1 98)])), ((q1 82), .inr (4, [.int 0, .int 0, .int 99, .int 0, .ref (q1 83), .ref (q1 84), .ref (q1 85), .ref (q1 86), .ref (q1 87), .ref (q1 88), .ref (q1 89), .ref (q1 90), .ref (q1 91), .ref (q1 92), .ref (q1 93), .ref (q1 94), .ref (q1 95)])), ((q1 83), .inl (G.2.2.1.1, 5, .inl (upd (upd (upd (upd (upd (fun _ => 0) 0 (-1)) 1 (-1)) 2 (-1)) 3 (-1)) 4 (-1)))), ((q1 84), .inl (G.2.2.1.1, 5, .inl (fun _ => 0))), ((q1 85), .inl (G.2.2.1.1, 5, .inl (fun _ => 0))), ((q1 86), .inl (G.2.2.1.1, 5, .inl (fun _ => 0))), ((q1 87), .inl (G.2.2.1.1, 5, .inl (fun _ => 0))), ((q1 88), .inl (G.2.2.1.1, 5, .inl (fun _ => 0))), ((q1 89), .inl (G.2.2.1.1, 5, .inl (fun _ => 0))), ((q1 90), .inl (G.2.2.1.1, 5, .inl (fun _ => 0))), ((q1 91), .inl (G.2.2.1.1, 5, .inl (fun _ => 0))), ((q1 92), .inl (G.2.2.1.1, 5, .inl (fun _ => 0))), ((q1 93), .inl (G.2.2.1.1, 5, .inl (fun _ => 0))), ((q1 94), .inl (G.2.2.1.1, 6, .inl (fun _ => 0))), ((q1 95), .inl (G.2.2.1.1, 6, .inl (fun _ => 0))), ((q1 96), .inl (G.2.2.1.1, 243, .inl (fun _ => 0))), ((q1 97), .inl (G.2.2.1.1, 243, .inl (fun _ => 0))), ((q1 98), .inl (G.2.2.1.1, 243, .inl (fun _ => 0)))]) _ _ _ _ _
  refine gw_astore_n (npv_s rfl rfl) (by decide) (dq_of td_L_law_0 3 rfl) ?_
  refine qn_new (fun _ _ _ h => Nat.le_of_eq h.2.2.2) inw_7 tyX7 tyX7_ok cl_law_10 is_7.1 is_7.2 (ci := 7) rfl df_7 (by decide) (by decide) (dq_of td_L_law_0 4 rfl) (fun q2 => ?_)
  show Gww _ _ _ _ _ _ _ _ _ (wq G [] [(q0, .inr (6, [.ref (q1 0), .ref (q1 14), .ref (q1 28), .ref (q1 42), .ref (q1 56), .ref (q1 57), .ref (q1 59), .ref (q1 63), .ref (q1 64), .ref (q1 81)])), ((q1 0), .inr (4, [.int 0, .int 0, .int 99, .int 0, .ref (q1 1), .ref (q1 2), .ref (q1 3), .ref (q1 4), .ref (q1 5), .ref (q1 6), .ref (q1 7), .ref (q1 8), .ref (q1 9), .ref (q1 10), .ref (q1 11), .ref (q1 12), .ref (q1 13)])), ((q1 1), .inl (G.2.2.1.1, 5, .inl (upd (upd (upd (upd (upd (fun _ => 0) 0 (-1)) 1 (-1)) 2 (-1)) 3 (-1)) 4 (-1)))), ((q1 2), .inl (G.2.2.1.1, 5, .inl (fun _ => 0))), ((q1 3), .inl (G.2.2.1.1, 5, .inl (fun _ => 0))), ((q1 4), .inl (G.2.2.1.1, 5, .inl (fun _ => 0))), ((q1 5), .inl (G.2.2.1.1, 5, .inl (fun _ => 0))), ((q1 6), .inl (G.2.2.1.1, 5, .inl (fun _ => 0))), ((q1 7), .inl (G.2.2.1.1, 5, .inl (fun _ => 0))), ((q1 8), .inl (G.2.2.1.1, 5, .inl (fun _ => 0))), ((q1 9), .inl (G.2.2.1.1, 5, .inl (fun _ => 0))), ((q1 10), .inl (G.2.2.1.1, 5, .inl (fun _ => 0))), ((q1 11), .inl (G.2.2.1.1, 5, .inl (fun _ => 0))), ((q1 12), .inl (G.2.2.1.1, 6, .inl (fun _ => 0))), ((q1 13), .inl (G.2.2.1.1, 6, .inl (fun _ => 0))), ((q1 14), .inr (4, [.int 0, .int 0, .int 99, .int 0, .ref (q1 15), .ref (q1 16), .ref (q1 17), .ref (q1 18), .ref (q1 19), .ref (q1 20), .ref (q1 21), .ref (q1 22), .ref (q1 23), .ref (q1 24), .ref (q1 25), .ref (q1 26), .ref (q1 27)])), ((q1 15), .inl (G.2.2.1.1, 5, .inl (upd (upd (upd (upd (upd (fun _ => 0) 0 (-1)) 1 (-1)) 2 (-1)) 3 (-1)) 4 (-1)))), ((q1 16), .inl (G.2.2.1.1, 5, .inl (fun _ => 0))), ((q1 17), .inl (G.2.2.1.1, 5, .inl (fun _ => 0))), ((q1 18), .inl (G.2.2.1.1, 5, .inl (fun _ => 0))), ((q1 19), .inl (G.2.2.1.1, 5, .inl (fun _ => 0))), ((q1 20), .inl (G.2.2.1.1, 5, .inl (fun _ => 0))), ((q1 21), .inl (G.2.2.1.1, 5, .inl (fun _ => 0))), ((q1 22), .inl (G.2.2.1.1, 5, .inl (fun _ => 0))), ((q1 23), .inl (G.2.2.1.1, 5, .inl (fun _ => 0))), ((q1 24), .inl (G.2.2.1.1, 5, .inl (fun _ => 0))), ((q1 25), .inl (G.2.2.1.1, 5, .inl (fun _ => 0))), ((q1 26), .inl (G.2.2.1.1, 6, .inl (fun _ => 0))), ((q1 27), .inl (G.2.2.1.1, 6, .inl (fun _ => 0))), ((q1 28), .inr (4, [.int 0, .int 0, .int 99, .int 0, .ref (q1 29), .ref (q1 30), .ref (q1 31), .ref (q1 32), .ref (q1 33), .ref (q1 34), .ref (q1 35), .ref (q1 36), .ref (q1 37), .ref (q1 38), .ref (q1 39), .ref (q1 40), .ref (q1 41)])), ((q1 29), .inl (G.2.2.1.1, 5, .inl (upd (upd (upd (upd (upd (fun _ => 0) 0 (-1)) 1 (-1)) 2 (-1)) 3 (-1)) 4 (-1)))), ((q1 30), .inl (G.2.2.1.1, 5, .inl (fun _ => 0))), ((q1 31), .inl (G.2.2.1.1, 5, .inl (fun _ => 0))), ((q1 32), .inl (G.2.2.1.1, 5, .inl (fun _ => 0))), ((q1 33), .inl (G.2.2.1.1, 5, .inl (fun _ => 0))), ((q1 34), .inl (G.2.2.1.1, 5, .inl (fun _ => 0))), ((q1 35), .inl (G.2.2.1.1, 5, .inl (fun _ => 0))), ((q1 36), .inl (G.2.2.1.1, 5, .inl (fun _ => 0))), ((q1 37), .inl (G.2.2.1.1, 5, .inl (fun _ => 0))), ((q1 38), .inl (G.2.2.1.1, 5, .inl (fun _ => 0))), ((q1 39), .inl (G.2.2.1.1, 5, .inl (fun _ => 0))), ((q1 40), .inl (G.2.2.1.1, 6, .inl (fun _ => 0))), ((q1 41), .inl (G.2.2.1.1, 6, .inl (fun _ => 0))), ((q1 42), .inr (4, [.int 0, .int 0, .int 99, .int 0, .ref (q1 43), .ref (q1 44), .ref (q1 45), .ref (q1 46), .ref (q1 47), .ref (q1 48), .ref (q1 49), .ref (q1 50), .ref (q1 51), .ref (q1 52), .ref (q1 53), .ref (q1 54), .ref (q1 55)])), ((q1 43), .inl (G.2.2.1.1, 5, .inl (upd (upd (upd (upd (upd (fun _ => 0) 0 (-1)) 1 (-1)) 2 (-1)) 3 (-1)) 4 (-1)))), ((q1 44), .inl (G.2.2.1.1, 5, .inl (fun _ => 0))), ((q1 45), .inl (G.2.2.1.1, 5, .inl (fun _ => 0))), ((q1 46), .inl (G.2.2.1.1, 5, .inl (fun _ => 0))), ((q1 47), .inl (G.2.2.1.1, 5, .inl (fun _ => 0))), ((q1 48), .inl (G.2.2.1.1, 5, .inl (fun _ => 0))), ((q1 49), .inl (G.2.2.1.1, 5, .inl (fun _ => 0))), ((q1 50), .inl (G.2.2.1.1, 5, .inl (fun _ => 0))), ((q1 51), .inl (G.2.2.1.1, 5, .inl (fun _ => 0))), ((q1 52), .inl (G.2.2.1.1, 5, .inl (fun _ => 0))), ((q1 53), .inl (G.2.2.1.1, 5, .inl (fun _ => 0))), ((q1 54), .inl (G.2.2.1.1, 6, .inl (fun _ => 0))), ((q1 55), .inl (G.2.2.1.1, 6, .inl (fun _ => 0))), ((q1 56), .inl (G.2.2.1.2, 2, .inl (fun _ => 0))), ((q1 57), .inr (1, [.ref (q1 58), .int 0])), ((q1 58), .inl (G.2.2.1.1, 60, .inl (fun _ => 0))), ((q1 59), .inr (3, [.ref (q1 60), .ref (q1 61), .ref (q1 62)])), ((q1 60), .inl (G.2.2.1.1, 5, .inl (fun _ => 0))), ((q1 61), .inl (G.2.2.1.1, 5, .inl (fun _ => 0))), ((q1 62), .inl (G.2.2.1.1, 5, .inl (upd (upd (upd (upd (upd (fun _ => 0) 0 (-6)) 1 (-6)) 2 (-6)) 3 (-6)) 4 (-6)))), ((q1 63), .inr (0, [.ref (q1 59), .int 0, .int 0])), ((q1 64), .inr (5, [.ref (q1 59), .ref (q1 65), .ref (q1 79), .ref (q1 80), .int 0])), ((q1 65), .inr (4, [.int 0, .int 0, .int 99, .int 0, .ref (q1 66), .ref (q1 67), .ref (q1 68), .ref (q1 69), .ref (q1 70), .ref (q1 71), .ref (q1 72), .ref (q1 73), .ref (q1 74), .ref (q1 75), .ref (q1 76), .ref (q1 77), .ref (q1 78)])), ((q1 66), .inl (G.2.2.1.1, 5, .inl (upd (upd (upd (upd (upd (fun _ => 0) 0 (-1)) 1 (-1)) 2 (-1)) 3 (-1)) 4 (-1)))), ((q1 67), .inl (G.2.2.1.1, 5, .inl (fun _ => 0))), ((q1 68), .inl (G.2.2.1.1, 5, .inl (fun _ => 0))), ((q1 69), .inl (G.2.2.1.1, 5, .inl (fun _ => 0))), ((q1 70), .inl (G.2.2.1.1, 5, .inl (fun _ => 0))), ((q1 71), .inl (G.2.2.1.1, 5, .inl (fun _ => 0))), ((q1 72), .inl (G.2.2.1.1, 5, .inl (fun _ => 0))), ((q1 73), .inl (G.2.2.1.1, 5, .inl (fun _ => 0))), ((q1 74), .inl (G.2.2.1.1, 5, .inl (fun _ => 0))), ((q1 75), .inl (G.2.2.1.1, 5, .inl (fun _ => 0))), ((q1 76), .inl (G.2.2.1.1, 5, .inl (fun _ => 0))), ((q1 77), .inl (G.2.2.1.1, 6, .inl (fun _ => 0))), ((q1 78), .inl (G.2.2.1.1, 6, .inl (fun _ => 0))), ((q1 79), .inl (G.2.2.1.1, 5, .inl (fun _ => 0))), ((q1 80), .inl (G.2.2.1.1, 98, .inl (fun _ => 0))), ((q1 81), .inr (2, [.ref (q1 59), .ref (q1 82), .ref (q1 96), .ref (q1 97), .ref (q1 98)])), ((q1 82), .inr (4, [.int 0, .int 0, .int 99, .int 0, .ref (q1 83), .ref (q1 84), .ref (q1 85), .ref (q1 86), .ref (q1 87), .ref (q1 88), .ref (q1 89), .ref (q1 90), .ref (q1 91), .ref (q1 92), .ref (q1 93), .ref (q1 94), .ref (q1 95)])), ((q1 83), .inl (G.2.2.1.1, 5, .inl (upd (upd (upd (upd (upd (fun _ => 0) 0 (-1)) 1 (-1)) 2 (-1)) 3 (-1)) 4 (-1)))), ((q1 84), .inl (G.2.2.1.1, 5, .inl (fun _ => 0))), ((q1 85), .inl (G.2.2.1.1, 5, .inl (fun _ => 0))), ((q1 86), .inl (G.2.2.1.1, 5, .inl (fun _ => 0))), ((q1 87), .inl (G.2.2.1.1, 5, .inl (fun _ => 0))), ((q1 88), .inl (G.2.2.1.1, 5, .inl (fun _ => 0))), ((q1 89), .inl (G.2.2.1.1, 5, .inl (fun _ => 0))), ((q1 90), .inl (G.2.2.1.1, 5, .inl (fun _ => 0))), ((q1 91), .inl (G.2.2.1.1, 5, .inl (fun _ => 0))), ((q1 92), .inl (G.2.2.1.1, 5, .inl (fun _ => 0))), ((q1 93), .inl (G.2.2.1.1, 5, .inl (fun _ => 0))), ((q1 94), .inl (G.2.2.1.1, 6, .inl (fun _ => 0))), ((q1 95), .inl (G.2.2.1.1, 6, .inl (fun _ => 0))), ((q1 96), .inl (G.2.2.1.1, 243, .inl (fun _ => 0))), ((q1 97), .inl (G.2.2.1.1, 243, .inl (fun _ => 0))), ((q1 98), .inl (G.2.2.1.1, 243, .inl (fun _ => 0))), (q2, .inr (7, [.int 0, .int 0, .null, .null, .null, .null, .null, .int 0, .null, .null, .null, .null, .null, .null, .int 0, .null, .int 0, .null, .null, .null, .null, .null, .null, .int 0, .int 0, .int 0, .null, .null, .null, .null]))]) _ _ _ _ _
  refine gw_dup (dq_of td_L_law_0 5 rfl) rfl ?_
  refine qn_init (fun _ _ _ h => Nat.le_of_eq h.2.2.2) (es0 := [(q0, .inr (6, [.ref (q1 0), .ref (q1 14), .ref (q1 28), .ref (q1 42), .ref (q1 56), .ref (q1 57), .ref (q1 59), .ref (q1 63), .ref (q1 64), .ref (q1 81)])), ((q1 0), .inr (4, [.int 0, .int 0, .int 99, .int 0, .ref (q1 1), .ref (q1 2), .ref (q1 3), .ref (q1 4), .ref (q1 5), .ref (q1 6), .ref (q1 7), .ref (q1 8), .ref (q1 9), .ref (q1 10), .ref (q1 11), .ref (q1 12), .ref (q1 13)])), ((q1 1), .inl (G.2.2.1.1, 5, .inl (upd (upd (upd (upd (upd (fun _ => 0) 0 (-1)) 1 (-1)) 2 (-1)) 3 (-1)) 4 (-1)))), ((q1 2), .inl (G.2.2.1.1, 5, .inl (fun _ => 0))), ((q1 3), .inl (G.2.2.1.1, 5, .inl (fun _ => 0))), ((q1 4), .inl (G.2.2.1.1, 5, .inl (fun _ => 0))), ((q1 5), .inl (G.2.2.1.1, 5, .inl (fun _ => 0))), ((q1 6), .inl (G.2.2.1.1, 5, .inl (fun _ => 0))), ((q1 7), .inl (G.2.2.1.1, 5, .inl (fun _ => 0))), ((q1 8), .inl (G.2.2.1.1, 5, .inl (fun _ => 0))), ((q1 9), .inl (G.2.2.1.1, 5, .inl (fun _ => 0))), ((q1 10), .inl (G.2.2.1.1, 5, .inl (fun _ => 0))), ((q1 11), .inl (G.2.2.1.1, 5, .inl (fun _ => 0))), ((q1 12), .inl (G.2.2.1.1, 6, .inl (fun _ => 0))), ((q1 13), .inl (G.2.2.1.1, 6, .inl (fun _ => 0))), ((q1 14), .inr (4, [.int 0, .int 0, .int 99, .int 0, .ref (q1 15), .ref (q1 16), .ref (q1 17), .ref (q1 18), .ref (q1 19), .ref (q1 20), .ref (q1 21), .ref (q1 22), .ref (q1 23), .ref (q1 24), .ref (q1 25), .ref (q1 26), .ref (q1 27)])), ((q1 15), .inl (G.2.2.1.1, 5, .inl (upd (upd (upd (upd (upd (fun _ => 0) 0 (-1)) 1 (-1)) 2 (-1)) 3 (-1)) 4 (-1)))), ((q1 16), .inl (G.2.2.1.1, 5, .inl (fun _ => 0))), ((q1 17), .inl (G.2.2.1.1, 5, .inl (fun _ => 0))), ((q1 18), .inl (G.2.2.1.1, 5, .inl (fun _ => 0))), ((q1 19), .inl (G.2.2.1.1, 5, .inl (fun _ => 0))), ((q1 20), .inl (G.2.2.1.1, 5, .inl (fun _ => 0))), ((q1 21), .inl (G.2.2.1.1, 5, .inl (fun _ => 0))), ((q1 22), .inl (G.2.2.1.1, 5, .inl (fun _ => 0))), ((q1 23), .inl (G.2.2.1.1, 5, .inl (fun _ => 0))), ((q1 24), .inl (G.2.2.1.1, 5, .inl (fun _ => 0))), ((q1 25), .inl (G.2.2.1.1, 5, .inl (fun _ => 0))), ((q1 26), .inl (G.2.2.1.1, 6, .inl (fun _ => 0))), ((q1 27), .inl (G.2.2.1.1, 6, .inl (fun _ => 0))), ((q1 28), .inr (4, [.int 0, .int 0, .int 99, .int 0, .ref (q1 29), .ref (q1 30), .ref (q1 31), .ref (q1 32), .ref (q1 33), .ref (q1 34), .ref (q1 35), .ref (q1 36), .ref (q1 37), .ref (q1 38), .ref (q1 39), .ref (q1 40), .ref (q1 41)])), ((q1 29), .inl (G.2.2.1.1, 5, .inl (upd (upd (upd (upd (upd (fun _ => 0) 0 (-1)) 1 (-1)) 2 (-1)) 3 (-1)) 4 (-1)))), ((q1 30), .inl (G.2.2.1.1, 5, .inl (fun _ => 0))), ((q1 31), .inl (G.2.2.1.1, 5, .inl (fun _ => 0))), ((q1 32), .inl (G.2.2.1.1, 5, .inl (fun _ => 0))), ((q1 33), .inl (G.2.2.1.1, 5, .inl (fun _ => 0))), ((q1 34), .inl (G.2.2.1.1, 5, .inl (fun _ => 0))), ((q1 35), .inl (G.2.2.1.1, 5, .inl (fun _ => 0))), ((q1 36), .inl (G.2.2.1.1, 5, .inl (fun _ => 0))), ((q1 37), .inl (G.2.2.1.1, 5, .inl (fun _ => 0))), ((q1 38), .inl (G.2.2.1.1, 5, .inl (fun _ => 0))), ((q1 39), .inl (G.2.2.1.1, 5, .inl (fun _ => 0))), ((q1 40), .inl (G.2.2.1.1, 6, .inl (fun _ => 0))), ((q1 41), .inl (G.2.2.1.1, 6, .inl (fun _ => 0))), ((q1 42), .inr (4, [.int 0, .int 0, .int 99, .int 0, .ref (q1 43), .ref (q1 44), .ref (q1 45), .ref (q1 46), .ref (q1 47), .ref (q1 48), .ref (q1 49), .ref (q1 50), .ref (q1 51), .ref (q1 52), .ref (q1 53), .ref (q1 54), .ref (q1 55)])), ((q1 43), .inl (G.2.2.1.1, 5, .inl (upd (upd (upd (upd (upd (fun _ => 0) 0 (-1)) 1 (-1)) 2 (-1)) 3 (-1)) 4 (-1)))), ((q1 44), .inl (G.2.2.1.1, 5, .inl (fun _ => 0))), ((q1 45), .inl (G.2.2.1.1, 5, .inl (fun _ => 0))), ((q1 46), .inl (G.2.2.1.1, 5, .inl (fun _ => 0))), ((q1 47), .inl (G.2.2.1.1, 5, .inl (fun _ => 0))), ((q1 48), .inl (G.2.2.1.1, 5, .inl (fun _ => 0))), ((q1 49), .inl (G.2.2.1.1, 5, .inl (fun _ => 0))), ((q1 50), .inl (G.2.2.1.1, 5, .inl (fun _ => 0))), ((q1 51), .inl (G.2.2.1.1, 5, .inl (fun _ => 0))), ((q1 52), .inl (G.2.2.1.1, 5, .inl (fun _ => 0))), ((q1 53), .inl (G.2.2.1.1, 5, .inl (fun _ => 0))), ((q1 54), .inl (G.2.2.1.1, 6, .inl (fun _ => 0))), ((q1 55), .inl (G.2.2.1.1, 6, .inl (fun _ => 0))), ((q1 56), .inl (G.2.2.1.2, 2, .inl (fun _ => 0))), ((q1 57), .inr (1, [.ref (q1 58), .int 0])), ((q1 58), .inl (G.2.2.1.1, 60, .inl (fun _ => 0))), ((q1 59), .inr (3, [.ref (q1 60), .ref (q1 61), .ref (q1 62)])), ((q1 60), .inl (G.2.2.1.1, 5, .inl (fun _ => 0))), ((q1 61), .inl (G.2.2.1.1, 5, .inl (fun _ => 0))), ((q1 62), .inl (G.2.2.1.1, 5, .inl (upd (upd (upd (upd (upd (fun _ => 0) 0 (-6)) 1 (-6)) 2 (-6)) 3 (-6)) 4 (-6)))), ((q1 63), .inr (0, [.ref (q1 59), .int 0, .int 0])), ((q1 64), .inr (5, [.ref (q1 59), .ref (q1 65), .ref (q1 79), .ref (q1 80), .int 0])), ((q1 65), .inr (4, [.int 0, .int 0, .int 99, .int 0, .ref (q1 66), .ref (q1 67), .ref (q1 68), .ref (q1 69), .ref (q1 70), .ref (q1 71), .ref (q1 72), .ref (q1 73), .ref (q1 74), .ref (q1 75), .ref (q1 76), .ref (q1 77), .ref (q1 78)])), ((q1 66), .inl (G.2.2.1.1, 5, .inl (upd (upd (upd (upd (upd (fun _ => 0) 0 (-1)) 1 (-1)) 2 (-1)) 3 (-1)) 4 (-1)))), ((q1 67), .inl (G.2.2.1.1, 5, .inl (fun _ => 0))), ((q1 68), .inl (G.2.2.1.1, 5, .inl (fun _ => 0))), ((q1 69), .inl (G.2.2.1.1, 5, .inl (fun _ => 0))), ((q1 70), .inl (G.2.2.1.1, 5, .inl (fun _ => 0))), ((q1 71), .inl (G.2.2.1.1, 5, .inl (fun _ => 0))), ((q1 72), .inl (G.2.2.1.1, 5, .inl (fun _ => 0))), ((q1 73), .inl (G.2.2.1.1, 5, .inl (fun _ => 0))), ((q1 74), .inl (G.2.2.1.1, 5, .inl (fun _ => 0))), ((q1 75), .inl (G.2.2.1.1, 5, .inl (fun _ => 0))), ((q1 76), .inl (G.2.2.1.1, 5, .inl (fun _ => 0))), ((q1 77), .inl (G.2.2.1.1, 6, .inl (fun _ => 0))), ((q1 78), .inl (G.2.2.1.1, 6, .inl (fun _ => 0))), ((q1 79), .inl (G.2.2.1.1, 5, .inl (fun _ => 0))), ((q1 80), .inl (G.2.2.1.1, 98, .inl (fun _ => 0))), ((q1 81), .inr (2, [.ref (q1 59), .ref (q1 82), .ref (q1 96), .ref (q1 97), .ref (q1 98)])), ((q1 82), .inr (4, [.int 0, .int 0, .int 99, .int 0, .ref (q1 83), .ref (q1 84), .ref (q1 85), .ref (q1 86), .ref (q1 87), .ref (q1 88), .ref (q1 89), .ref (q1 90), .ref (q1 91), .ref (q1 92), .ref (q1 93), .ref (q1 94), .ref (q1 95)])), ((q1 83), .inl (G.2.2.1.1, 5, .inl (upd (upd (upd (upd (upd (fun _ => 0) 0 (-1)) 1 (-1)) 2 (-1)) 3 (-1)) 4 (-1)))), ((q1 84), .inl (G.2.2.1.1, 5, .inl (fun _ => 0))), ((q1 85), .inl (G.2.2.1.1, 5, .inl (fun _ => 0))), ((q1 86), .inl (G.2.2.1.1, 5, .inl (fun _ => 0))), ((q1 87), .inl (G.2.2.1.1, 5, .inl (fun _ => 0))), ((q1 88), .inl (G.2.2.1.1, 5, .inl (fun _ => 0))), ((q1 89), .inl (G.2.2.1.1, 5, .inl (fun _ => 0))), ((q1 90), .inl (G.2.2.1.1, 5, .inl (fun _ => 0))), ((q1 91), .inl (G.2.2.1.1, 5, .inl (fun _ => 0))), ((q1 92), .inl (G.2.2.1.1, 5, .inl (fun _ => 0))), ((q1 93), .inl (G.2.2.1.1, 5, .inl (fun _ => 0))), ((q1 94), .inl (G.2.2.1.1, 6, .inl (fun _ => 0))), ((q1 95), .inl (G.2.2.1.1, 6, .inl (fun _ => 0))), ((q1 96), .inl (G.2.2.1.1, 243, .inl (fun _ => 0))), ((q1 97), .inl (G.2.2.1.1, 243, .inl (fun _ => 0))), ((q1 98), .inl (G.2.2.1.1, 243, .inl (fun _ => 0)))]) (As := []) (cc_X7_init q2 ([] ++ [(q0, .inr (6, [.ref (q1 0), .ref (q1 14), .ref (q1 28), .ref (q1 42), .ref (q1 56), .ref (q1 57), .ref (q1 59), .ref (q1 63), .ref (q1 64), .ref (q1 81)])), ((q1 0), .inr (4, [.int 0, .int 0, .int 99, .int 0, .ref (q1 1), .ref (q1 2), .ref (q1 3), .ref (q1 4), .ref (q1 5), .ref (q1 6), .ref (q1 7), .ref (q1 8), .ref (q1 9), .ref (q1 10), .ref (q1 11), .ref (q1 12), .ref (q1 13)])), ((q1 1), .inl (G.2.2.1.1, 5, .inl (upd (upd (upd (upd (upd (fun _ => 0) 0 (-1)) 1 (-1)) 2 (-1)) 3 (-1)) 4 (-1)))), ((q1 2), .inl (G.2.2.1.1, 5, .inl (fun _ => 0))), ((q1 3), .inl (G.2.2.1.1, 5, .inl (fun _ => 0))), ((q1 4), .inl (G.2.2.1.1, 5, .inl (fun _ => 0))), ((q1 5), .inl (G.2.2.1.1, 5, .inl (fun _ => 0))), ((q1 6), .inl (G.2.2.1.1, 5, .inl (fun _ => 0))), ((q1 7), .inl (G.2.2.1.1, 5, .inl (fun _ => 0))), ((q1 8), .inl (G.2.2.1.1, 5, .inl (fun _ => 0))), ((q1 9), .inl (G.2.2.1.1, 5, .inl (fun _ => 0))), ((q1 10), .inl (G.2.2.1.1, 5, .inl (fun _ => 0))), ((q1 11), .inl (G.2.2.1.1, 5, .inl (fun _ => 0))), ((q1 12), .inl (G.2.2.1.1, 6, .inl (fun _ => 0))), ((q1 13), .inl (G.2.2.1.1, 6, .inl (fun _ => 0))), ((q1 14), .inr (4, [.int 0, .int 0, .int 99, .int 0, .ref (q1 15), .ref (q1 16), .ref (q1 17), .ref (q1 18), .ref (q1 19), .ref (q1 20), .ref (q1 21), .ref (q1 22), .ref (q1 23), .ref (q1 24), .ref (q1 25), .ref (q1 26), .ref (q1 27)])), ((q1 15), .inl (G.2.2.1.1, 5, .inl (upd (upd (upd (upd (upd (fun _ => 0) 0 (-1)) 1 (-1)) 2 (-1)) 3 (-1)) 4 (-1)))), ((q1 16), .inl (G.2.2.1.1, 5, .inl (fun _ => 0))), ((q1 17), .inl (G.2.2.1.1, 5, .inl (fun _ => 0))), ((q1 18), .inl (G.2.2.1.1, 5, .inl (fun _ => 0))), ((q1 19), .inl (G.2.2.1.1, 5, .inl (fun _ => 0))), ((q1 20), .inl (G.2.2.1.1, 5, .inl (fun _ => 0))), ((q1 21), .inl (G.2.2.1.1, 5, .inl (fun _ => 0))), ((q1 22), .inl (G.2.2.1.1, 5, .inl (fun _ => 0))), ((q1 23), .inl (G.2.2.1.1, 5, .inl (fun _ => 0))), ((q1 24), .inl (G.2.2.1.1, 5, .inl (fun _ => 0))), ((q1 25), .inl (G.2.2.1.1, 5, .inl (fun _ => 0))), ((q1 26), .inl (G.2.2.1.1, 6, .inl (fun _ => 0))), ((q1 27), .inl (G.2.2.1.1, 6, .inl (fun _ => 0))), ((q1 28), .inr (4, [.int 0, .int 0, .int 99, .int 0, .ref (q1 29), .ref (q1 30), .ref (q1 31), .ref (q1 32), .ref (q1 33), .ref (q1 34), .ref (q1 35), .ref (q1 36), .ref (q1 37), .ref (q1 38), .ref (q1 39), .ref (q1 40), .ref (q1 41)])), ((q1 29), .inl (G.2.2.1.1, 5, .inl (upd (upd (upd (upd (upd (fun _ => 0) 0 (-1)) 1 (-1)) 2 (-1)) 3 (-1)) 4 (-1)))), ((q1 30), .inl (G.2.2.1.1, 5, .inl (fun _ => 0))), ((q1 31), .inl (G.2.2.1.1, 5, .inl (fun _ => 0))), ((q1 32), .inl (G.2.2.1.1, 5, .inl (fun _ => 0))), ((q1 33), .inl (G.2.2.1.1, 5, .inl (fun _ => 0))), ((q1 34), .inl (G.2.2.1.1, 5, .inl (fun _ => 0))), ((q1 35), .inl (G.2.2.1.1, 5, .inl (fun _ => 0))), ((q1 36), .inl (G.2.2.1.1, 5, .inl (fun _ => 0))), ((q1 37), .inl (G.2.2.1.1, 5, .inl (fun _ => 0))), ((q1 38), .inl (G.2.2.1.1, 5, .inl (fun _ => 0))), ((q1 39), .inl (G.2.2.1.1, 5, .inl (fun _ => 0))), ((q1 40), .inl (G.2.2.1.1, 6, .inl (fun _ => 0))), ((q1 41), .inl (G.2.2.1.1, 6, .inl (fun _ => 0))), ((q1 42), .inr (4, [.int 0, .int 0, .int 99, .int 0, .ref (q1 43), .ref (q1 44), .ref (q1 45), .ref (q1 46), .ref (q1 47), .ref (q1 48), .ref (q1 49), .ref (q1 50), .ref (q1 51), .ref (q1 52), .ref (q1 53), .ref (q1 54), .ref (q1 55)])), ((q1 43), .inl (G.2.2.1.1, 5, .inl (upd (upd (upd (upd (upd (fun _ => 0) 0 (-1)) 1 (-1)) 2 (-1)) 3 (-1)) 4 (-1)))), ((q1 44), .inl (G.2.2.1.1, 5, .inl (fun _ => 0))), ((q1 45), .inl (G.2.2.1.1, 5, .inl (fun _ => 0))), ((q1 46), .inl (G.2.2.1.1, 5, .inl (fun _ => 0))), ((q1 47), .inl (G.2.2.1.1, 5, .inl (fun _ => 0))), ((q1 48), .inl (G.2.2.1.1, 5, .inl (fun _ => 0))), ((q1 49), .inl (G.2.2.1.1, 5, .inl (fun _ => 0))), ((q1 50), .inl (G.2.2.1.1, 5, .inl (fun _ => 0))), ((q1 51), .inl (G.2.2.1.1, 5, .inl (fun _ => 0))), ((q1 52), .inl (G.2.2.1.1, 5, .inl (fun _ => 0))), ((q1 53), .inl (G.2.2.1.1, 5, .inl (fun _ => 0))), ((q1 54), .inl (G.2.2.1.1, 6, .inl (fun _ => 0))), ((q1 55), .inl (G.2.2.1.1, 6, .inl (fun _ => 0))), ((q1 56), .inl (G.2.2.1.2, 2, .inl (fun _ => 0))), ((q1 57), .inr (1, [.ref (q1 58), .int 0])), ((q1 58), .inl (G.2.2.1.1, 60, .inl (fun _ => 0))), ((q1 59), .inr (3, [.ref (q1 60), .ref (q1 61), .ref (q1 62)])), ((q1 60), .inl (G.2.2.1.1, 5, .inl (fun _ => 0))), ((q1 61), .inl (G.2.2.1.1, 5, .inl (fun _ => 0))), ((q1 62), .inl (G.2.2.1.1, 5, .inl (upd (upd (upd (upd (upd (fun _ => 0) 0 (-6)) 1 (-6)) 2 (-6)) 3 (-6)) 4 (-6)))), ((q1 63), .inr (0, [.ref (q1 59), .int 0, .int 0])), ((q1 64), .inr (5, [.ref (q1 59), .ref (q1 65), .ref (q1 79), .ref (q1 80), .int 0])), ((q1 65), .inr (4, [.int 0, .int 0, .int 99, .int 0, .ref (q1 66), .ref (q1 67), .ref (q1 68), .ref (q1 69), .ref (q1 70), .ref (q1 71), .ref (q1 72), .ref (q1 73), .ref (q1 74), .ref (q1 75), .ref (q1 76), .ref (q1 77), .ref (q1 78)])), ((q1 66), .inl (G.2.2.1.1, 5, .inl (upd (upd (upd (upd (upd (fun _ => 0) 0 (-1)) 1 (-1)) 2 (-1)) 3 (-1)) 4 (-1)))), ((q1 67), .inl (G.2.2.1.1, 5, .inl (fun _ => 0))), ((q1 68), .inl (G.2.2.1.1, 5, .inl (fun _ => 0))), ((q1 69), .inl (G.2.2.1.1, 5, .inl (fun _ => 0))), ((q1 70), .inl (G.2.2.1.1, 5, .inl (fun _ => 0))), ((q1 71), .inl (G.2.2.1.1, 5, .inl (fun _ => 0))), ((q1 72), .inl (G.2.2.1.1, 5, .inl (fun _ => 0))), ((q1 73), .inl (G.2.2.1.1, 5, .inl (fun _ => 0))), ((q1 74), .inl (G.2.2.1.1, 5, .inl (fun _ => 0))), ((q1 75), .inl (G.2.2.1.1, 5, .inl (fun _ => 0))), ((q1 76), .inl (G.2.2.1.1, 5, .inl (fun _ => 0))), ((q1 77), .inl (G.2.2.1.1, 6, .inl (fun _ => 0))), ((q1 78), .inl (G.2.2.1.1, 6, .inl (fun _ => 0))), ((q1 79), .inl (G.2.2.1.1, 5, .inl (fun _ => 0))), ((q1 80), .inl (G.2.2.1.1, 98, .inl (fun _ => 0))), ((q1 81), .inr (2, [.ref (q1 59), .ref (q1 82), .ref (q1 96), .ref (q1 97), .ref (q1 98)])), ((q1 82), .inr (4, [.int 0, .int 0, .int 99, .int 0, .ref (q1 83), .ref (q1 84), .ref (q1 85), .ref (q1 86), .ref (q1 87), .ref (q1 88), .ref (q1 89), .ref (q1 90), .ref (q1 91), .ref (q1 92), .ref (q1 93), .ref (q1 94), .ref (q1 95)])), ((q1 83), .inl (G.2.2.1.1, 5, .inl (upd (upd (upd (upd (upd (fun _ => 0) 0 (-1)) 1 (-1)) 2 (-1)) 3 (-1)) 4 (-1)))), ((q1 84), .inl (G.2.2.1.1, 5, .inl (fun _ => 0))), ((q1 85), .inl (G.2.2.1.1, 5, .inl (fun _ => 0))), ((q1 86), .inl (G.2.2.1.1, 5, .inl (fun _ => 0))), ((q1 87), .inl (G.2.2.1.1, 5, .inl (fun _ => 0))), ((q1 88), .inl (G.2.2.1.1, 5, .inl (fun _ => 0))), ((q1 89), .inl (G.2.2.1.1, 5, .inl (fun _ => 0))), ((q1 90), .inl (G.2.2.1.1, 5, .inl (fun _ => 0))), ((q1 91), .inl (G.2.2.1.1, 5, .inl (fun _ => 0))), ((q1 92), .inl (G.2.2.1.1, 5, .inl (fun _ => 0))), ((q1 93), .inl (G.2.2.1.1, 5, .inl (fun _ => 0))), ((q1 94), .inl (G.2.2.1.1, 6, .inl (fun _ => 0))), ((q1 95), .inl (G.2.2.1.1, 6, .inl (fun _ => 0))), ((q1 96), .inl (G.2.2.1.1, 243, .inl (fun _ => 0))), ((q1 97), .inl (G.2.2.1.1, 243, .inl (fun _ => 0))), ((q1 98), .inl (G.2.2.1.1, 243, .inl (fun _ => 0)))])) rfl mo_X7_init rfl hi_X7_init ml_law_12 rfl ⟨by decide, by decide⟩ rfl ⟨by decide, by decide⟩ (Nat.le_of_ble_eq_true rfl) (dq_of td_L_law_0 6 rfl) ?_
  rintro w ⟨q3, rfl⟩
  show Gww _ _ _ _ _ _ _ _ _ (wq G [] [(q0, .inr (6, [.ref (q1 0), .ref (q1 14), .ref (q1 28), .ref (q1 42), .ref (q1 56), .ref (q1 57), .ref (q1 59), .ref (q1 63), .ref (q1 64), .ref (q1 81)])), ((q1 0), .inr (4, [.int 0, .int 0, .int 99, .int 0, .ref (q1 1), .ref (q1 2), .ref (q1 3), .ref (q1 4), .ref (q1 5), .ref (q1 6), .ref (q1 7), .ref (q1 8), .ref (q1 9), .ref (q1 10), .ref (q1 11), .ref (q1 12), .ref (q1 13)])), ((q1 1), .inl (G.2.2.1.1, 5, .inl (upd (upd (upd (upd (upd (fun _ => 0) 0 (-1)) 1 (-1)) 2 (-1)) 3 (-1)) 4 (-1)))), ((q1 2), .inl (G.2.2.1.1, 5, .inl (fun _ => 0))), ((q1 3), .inl (G.2.2.1.1, 5, .inl (fun _ => 0))), ((q1 4), .inl (G.2.2.1.1, 5, .inl (fun _ => 0))), ((q1 5), .inl (G.2.2.1.1, 5, .inl (fun _ => 0))), ((q1 6), .inl (G.2.2.1.1, 5, .inl (fun _ => 0))), ((q1 7), .inl (G.2.2.1.1, 5, .inl (fun _ => 0))), ((q1 8), .inl (G.2.2.1.1, 5, .inl (fun _ => 0))), ((q1 9), .inl (G.2.2.1.1, 5, .inl (fun _ => 0))), ((q1 10), .inl (G.2.2.1.1, 5, .inl (fun _ => 0))), ((q1 11), .inl (G.2.2.1.1, 5, .inl (fun _ => 0))), ((q1 12), .inl (G.2.2.1.1, 6, .inl (fun _ => 0))), ((q1 13), .inl (G.2.2.1.1, 6, .inl (fun _ => 0))), ((q1 14), .inr (4, [.int 0, .int 0, .int 99, .int 0, .ref (q1 15), .ref (q1 16), .ref (q1 17), .ref (q1 18), .ref (q1 19), .ref (q1 20), .ref (q1 21), .ref (q1 22), .ref (q1 23), .ref (q1 24), .ref (q1 25), .ref (q1 26), .ref (q1 27)])), ((q1 15), .inl (G.2.2.1.1, 5, .inl (upd (upd (upd (upd (upd (fun _ => 0) 0 (-1)) 1 (-1)) 2 (-1)) 3 (-1)) 4 (-1)))), ((q1 16), .inl (G.2.2.1.1, 5, .inl (fun _ => 0))), ((q1 17), .inl (G.2.2.1.1, 5, .inl (fun _ => 0))), ((q1 18), .inl (G.2.2.1.1, 5, .inl (fun _ => 0))), ((q1 19), .inl (G.2.2.1.1, 5, .inl (fun _ => 0))), ((q1 20), .inl (G.2.2.1.1, 5, .inl (fun _ => 0))), ((q1 21), .inl (G.2.2.1.1, 5, .inl (fun _ => 0))), ((q1 22), .inl (G.2.2.1.1, 5, .inl (fun _ => 0))), ((q1 23), .inl (G.2.2.1.1, 5, .inl (fun _ => 0))), ((q1 24), .inl (G.2.2.1.1, 5, .inl (fun _ => 0))), ((q1 25), .inl (G.2.2.1.1, 5, .inl (fun _ => 0))), ((q1 26), .inl (G.2.2.1.1, 6, .inl (fun _ => 0))), ((q1 27), .inl (G.2.2.1.1, 6, .inl (fun _ => 0))), ((q1 28), .inr (4, [.int 0, .int 0, .int 99, .int 0, .ref (q1 29), .ref (q1 30), .ref (q1 31), .ref (q1 32), .ref (q1 33), .ref (q1 34), .ref (q1 35), .ref (q1 36), .ref (q1 37), .ref (q1 38), .ref (q1 39), .ref (q1 40), .ref (q1 41)])), ((q1 29), .inl (G.2.2.1.1, 5, .inl (upd (upd (upd (upd (upd (fun _ => 0) 0 (-1)) 1 (-1)) 2 (-1)) 3 (-1)) 4 (-1)))), ((q1 30), .inl (G.2.2.1.1, 5, .inl (fun _ => 0))), ((q1 31), .inl (G.2.2.1.1, 5, .inl (fun _ => 0))), ((q1 32), .inl (G.2.2.1.1, 5, .inl (fun _ => 0))), ((q1 33), .inl (G.2.2.1.1, 5, .inl (fun _ => 0))), ((q1 34), .inl (G.2.2.1.1, 5, .inl (fun _ => 0))), ((q1 35), .inl (G.2.2.1.1, 5, .inl (fun _ => 0))), ((q1 36), .inl (G.2.2.1.1, 5, .inl (fun _ => 0))), ((q1 37), .inl (G.2.2.1.1, 5, .inl (fun _ => 0))), ((q1 38), .inl (G.2.2.1.1, 5, .inl (fun _ => 0))), ((q1 39), .inl (G.2.2.1.1, 5, .inl (fun _ => 0))), ((q1 40), .inl (G.2.2.1.1, 6, .inl (fun _ => 0))), ((q1 41), .inl (G.2.2.1.1, 6, .inl (fun _ => 0))), ((q1 42), .inr (4, [.int 0, .int 0, .int 99, .int 0, .ref (q1 43), .ref (q1 44), .ref (q1 45), .ref (q1 46), .ref (q1 47), .ref (q1 48), .ref (q1 49), .ref (q1 50), .ref (q1 51), .ref (q1 52), .ref (q1 53), .ref (q1 54), .ref (q1 55)])), ((q1 43), .inl (G.2.2.1.1, 5, .inl (upd (upd (upd (upd (upd (fun _ => 0) 0 (-1)) 1 (-1)) 2 (-1)) 3 (-1)) 4 (-1)))), ((q1 44), .inl (G.2.2.1.1, 5, .inl (fun _ => 0))), ((q1 45), .inl (G.2.2.1.1, 5, .inl (fun _ => 0))), ((q1 46), .inl (G.2.2.1.1, 5, .inl (fun _ => 0))), ((q1 47), .inl (G.2.2.1.1, 5, .inl (fun _ => 0))), ((q1 48), .inl (G.2.2.1.1, 5, .inl (fun _ => 0))), ((q1 49), .inl (G.2.2.1.1, 5, .inl (fun _ => 0))), ((q1 50), .inl (G.2.2.1.1, 5, .inl (fun _ => 0))), ((q1 51), .inl (G.2.2.1.1, 5, .inl (fun _ => 0))), ((q1 52), .inl (G.2.2.1.1, 5, .inl (fun _ => 0))), ((q1 53), .inl (G.2.2.1.1, 5, .inl (fun _ => 0))), ((q1 54), .inl (G.2.2.1.1, 6, .inl (fun _ => 0))), ((q1 55), .inl (G.2.2.1.1, 6, .inl (fun _ => 0))), ((q1 56), .inl (G.2.2.1.2, 2, .inl (fun _ => 0))), ((q1 57), .inr (1, [.ref (q1 58), .int 0])), ((q1 58), .inl (G.2.2.1.1, 60, .inl (fun _ => 0))), ((q1 59), .inr (3, [.ref (q1 60), .ref (q1 61), .ref (q1 62)])), ((q1 60), .inl (G.2.2.1.1, 5, .inl (fun _ => 0))), ((q1 61), .inl (G.2.2.1.1, 5, .inl (fun _ => 0))), ((q1 62), .inl (G.2.2.1.1, 5, .inl (upd (upd (upd (upd (upd (fun _ => 0) 0 (-6)) 1 (-6)) 2 (-6)) 3 (-6)) 4 (-6)))), ((q1 63), .inr (0, [.ref (q1 59), .int 0, .int 0])), ((q1 64), .inr (5, [.ref (q1 59), .ref (q1 65), .ref (q1 79), .ref (q1 80), .int 0])), ((q1 65), .inr (4, [.int 0, .int 0, .int 99, .int 0, .ref (q1 66), .ref (q1 67), .ref (q1 68), .ref (q1 69), .ref (q1 70), .ref (q1 71), .ref (q1 72), .ref (q1 73), .ref (q1 74), .ref (q1 75), .ref (q1 76), .ref (q1 77), .ref (q1 78)])), ((q1 66), .inl (G.2.2.1.1, 5, .inl (upd (upd (upd (upd (upd (fun _ => 0) 0 (-1)) 1 (-1)) 2 (-1)) 3 (-1)) 4 (-1)))), ((q1 67), .inl (G.2.2.1.1, 5, .inl (fun _ => 0))), ((q1 68), .inl (G.2.2.1.1, 5, .inl (fun _ => 0))), ((q1 69), .inl (G.2.2.1.1, 5, .inl (fun _ => 0))), ((q1 70), .inl (G.2.2.1.1, 5, .inl (fun _ => 0))), ((q1 71), .inl (G.2.2.1.1, 5, .inl (fun _ => 0))), ((q1 72), .inl (G.2.2.1.1, 5, .inl (fun _ => 0))), ((q1 73), .inl (G.2.2.1.1, 5, .inl (fun _ => 0))), ((q1 74), .inl (G.2.2.1.1, 5, .inl (fun _ => 0))), ((q1 75), .inl (G.2.2.1.1, 5, .inl (fun _ => 0))), ((q1 76), .inl (G.2.2.1.1, 5, .inl (fun _ => 0))), ((q1 77), .inl (G.2.2.1.1, 6, .inl (fun _ => 0))), ((q1 78), .inl (G.2.2.1.1, 6, .inl (fun _ => 0))), ((q1 79), .inl (G.2.2.1.1, 5, .inl (fun _ => 0))), ((q1 80), .inl (G.2.2.1.1, 98, .inl (fun _ => 0))), ((q1 81), .inr (2, [.ref (q1 59), .ref (q1 82), .ref (q1 96), .ref (q1 97), .ref (q1 98)])), ((q1 82), .inr (4, [.int 0, .int 0, .int 99, .int 0, .ref (q1 83), .ref (q1 84), .ref (q1 85), .ref (q1 86), .ref (q1 87), .ref (q1 88), .ref (q1 89), .ref (q1 90), .ref (q1 91), .ref (q1 92), .ref (q1 93), .ref (q1 94), .ref (q1 95)])), ((q1 83), .inl (G.2.2.1.1, 5, .inl (upd (upd (upd (upd (upd (fun _ => 0) 0 (-1)) 1 (-1)) 2 (-1)) 3 (-1)) 4 (-1)))), ((q1 84), .inl (G.2.2.1.1, 5, .inl (fun _ => 0))), ((q1 85), .inl (G.2.2.1.1, 5, .inl (fun _ => 0))), ((q1 86), .inl (G.2.2.1.1, 5, .inl (fun _ => 0))), ((q1 87), .inl (G.2.2.1.1, 5, .inl (fun _ => 0))), ((q1 88), .inl (G.2.2.1.1, 5, .inl (fun _ => 0))), ((q1 89), .inl (G.2.2.1.1, 5, .inl (fun _ => 0))), ((q1 90), .inl (G.2.2.1.1, 5, .inl (fun _ => 0))), ((q1 91), .inl (G.2.2.1.1, 5, .inl (fun _ => 0))), ((q1 92), .inl (G.2.2.1.1, 5, .inl (fun _ => 0))), ((q1 93), .inl (G.2.2.1.1, 5, .inl (fun _ => 0))), ((q1 94), .inl (G.2.2.1.1, 6, .inl (fun _ => 0))), ((q1 95), .inl (G.2.2.1.1, 6, .inl (fun _ => 0))), ((q1 96), .inl (G.2.2.1.1, 243, .inl (fun _ => 0))), ((q1 97), .inl (G.2.2.1.1, 243, .inl (fun _ => 0))), ((q1 98), .inl (G.2.2.1.1, 243, .inl (fun _ => 0))), (q2, .inr (7, [.int 0, .int 0, .ref (q3 0), .ref (q3 1), .ref (q3 2), .ref (q3 3), .ref (q3 4), .int 99, .ref (q3 5), .ref (q3 6), .ref (q3 7), .ref (q3 8), .ref (q3 9), .ref (q3 10), .int 0, .ref (q3 11), .int 0, .ref (q3 12), .ref (q3 13), .ref (q3 14), .ref (q3 15), .ref (q3 16), .ref (q3 17), .int 0, .int 0, .int 0, .ref (q3 18), .ref (q3 19), .ref (q3 20), .ref (q3 21)])), ((q3 0), .inl (G.2.2.1.1, 5, .inl (fun _ => 0))), ((q3 1), .inl (G.2.2.1.1, 5, .inl (fun _ => 0))), ((q3 2), .inl (G.2.2.1.1, 5, .inl (fun _ => 0))), ((q3 3), .inl (G.2.2.1.1, 5, .inl (fun _ => 0))), ((q3 4), .inl (G.2.2.1.1, 5, .inl (fun _ => 0))), ((q3 5), .inl (G.2.2.1.1, 5, .inl (upd (upd (upd (upd (upd (fun _ => 0) 0 5) 1 5) 2 5) 3 5) 4 5))), ((q3 6), .inl (G.2.2.1.1, 5, .inl (fun _ => 0))), ((q3 7), .inl (G.2.2.1.1, 5, .inl (fun _ => 0))), ((q3 8), .inl (G.2.2.1.1, 5, .inl (fun _ => 0))), ((q3 9), .inl (G.2.2.1.1, 5, .inl (fun _ => 0))), ((q3 10), .inl (G.2.2.1.1, 5, .inl (fun _ => 0))), ((q3 11), .inl (G.2.2.1.1, 12, .inl (fun _ => 0))), ((q3 12), .inl (G.2.2.1.1, 60, .inl (fun _ => 0))), ((q3 13), .inl (G.2.2.1.1, 5, .inl (fun _ => 0))), ((q3 14), .inl (G.2.2.1.1, 5, .inl (fun _ => 0))), ((q3 15), .inl (G.2.2.1.1, 5, .inl (fun _ => 0))), ((q3 16), .inl (G.2.2.1.1, 5, .inl (fun _ => 0))), ((q3 17), .inl (G.2.2.1.1, 5, .inl (fun _ => 0))), ((q3 18), .inl (G.2.2.1.1, 7776, .inl (fun _ => 0))), ((q3 19), .inl (G.2.2.1.2, 3125, .inl (fun _ => 0))), ((q3 20), .inl (G.2.2.1.1, 200, .inl (fun _ => 0))), ((q3 21), .inl (G.2.2.1.2, 2, .inl (fun _ => 0)))]) _ _ _ _ _
  refine gw_astore_n (npv_s rfl rfl) (by decide) (dq_of td_L_law_0 7 rfl) ?_
  refine gw_iconst (v := 0) (dq_of td_L_law_0 8 rfl) (by decide) ?_
  refine gw_istore_n (npv_s rfl rfl) (by decide) (dq_of td_L_law_0 9 rfl) ?_
  intro p e s m args below meth c H locs ls C X0 hW hS hl
  exact om_L_law (G := (G.1, G.2.1, G.2.2.1, G.2.2.2.1, fun k => [q0, (q1 0), (q1 1), (q1 2), (q1 3), (q1 4), (q1 5), (q1 6), (q1 7), (q1 8), (q1 9), (q1 10), (q1 11), (q1 12), (q1 13), (q1 14), (q1 15), (q1 16), (q1 17), (q1 18), (q1 19), (q1 20), (q1 21), (q1 22), (q1 23), (q1 24), (q1 25), (q1 26), (q1 27), (q1 28), (q1 29), (q1 30), (q1 31), (q1 32), (q1 33), (q1 34), (q1 35), (q1 36), (q1 37), (q1 38), (q1 39), (q1 40), (q1 41), (q1 42), (q1 43), (q1 44), (q1 45), (q1 46), (q1 47), (q1 48), (q1 49), (q1 50), (q1 51), (q1 52), (q1 53), (q1 54), (q1 55), (q1 56), (q1 57), (q1 58), (q1 59), (q1 60), (q1 61), (q1 62), (q1 63), (q1 64), (q1 65), (q1 66), (q1 67), (q1 68), (q1 69), (q1 70), (q1 71), (q1 72), (q1 73), (q1 74), (q1 75), (q1 76), (q1 77), (q1 78), (q1 79), (q1 80), (q1 81), (q1 82), (q1 83), (q1 84), (q1 85), (q1 86), (q1 87), (q1 88), (q1 89), (q1 90), (q1 91), (q1 92), (q1 93), (q1 94), (q1 95), (q1 96), (q1 97), (q1 98), q2, (q3 0), (q3 1), (q3 2), (q3 3), (q3 4), (q3 5), (q3 6), (q3 7), (q3 8), (q3 9), (q3 10), (q3 11), (q3 12), (q3 13), (q3 14), (q3 15), (q3 16), (q3 17), (q3 18), (q3 19), (q3 20), (q3 21)].getD k 0)) xs Ls b s_0 () hE p e s m args below meth c H locs ls C X0 hW hS hl
