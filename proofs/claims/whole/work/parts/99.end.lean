theorem ar_known {ty : FieldType} {args : Array Value} {s : State} (h : (Cond.arrayClass ty).before args s = true) (hra : ∀ cA : ClassId, s.vm.findClass ("[" ++ ty.toString) = some cA → va_RA s cA ty) : ∃ cA : ClassId, ArrOfT s cA ty ∧ va_RA s cA ty := by
  obtain ⟨c, k, comp, h1, h2, h3⟩ := Cond.arrayClass_spec h
  exact ⟨c, fun n z => ⟨fun k h => (by cases h), k, h2, comp, h3⟩, hra c h1⟩
theorem gw_sub {w : Cond} (h : w ∈ k_gw) : w ∈ lw_tbl := (List.mem_filter.mp h).1
theorem nw_sub {w : Cond} (h : w ∈ k_nw) : w ∈ lw_tbl := (List.mem_filter.mp h).1
theorem st_known_0 {s : State} {args : Array Value} (hts : ∀ w ∈ lw_tbl, w.before args s = true) (hgv : (Jvm.Cond.and given_1 narrow_1).before args s = true) : ∃ a : Nat, va_Z "CoatDinner" "SIXES" "[I" (.ref a) (fun q => s.heap.size ≤ q) s s.heap ∧ va_T .int a 5 (fun j => .int (stv 0 j)) (fun q => s.heap.size ≤ q) s s.heap := by
  have hs := flat_of_before _ hgv
  have hA : ∀ a : Nat, a < s.heap.size → ¬ (fun q => s.heap.size ≤ q) a := fun a h => Nat.not_le.mpr h
  obtain ⟨a, h1, h2⟩ := va_Tof (tm := .static "CoatDinner" "SIXES" "[I") (ty := .int) (N := 5) (f := fun j => .int (stv 0 j)) (A := fun q => s.heap.size ≤ q) (by decide) (hs _ (by decide +kernel)) (va_eqt (hs (Cond.eq (.length (.static "CoatDinner" "SIXES" "[I")) (.int 5)) (by decide +kernel))) (by
    intro j hj
    match j, hj with
    | 0, _ => exact va_eqt (hs (Cond.eq (.elem (.static "CoatDinner" "SIXES" "[I") (.int 0)) (.int 1)) (by decide +kernel))
    | 1, _ => exact va_eqt (hs (Cond.eq (.elem (.static "CoatDinner" "SIXES" "[I") (.int 1)) (.int 6)) (by decide +kernel))
    | 2, _ => exact va_eqt (hs (Cond.eq (.elem (.static "CoatDinner" "SIXES" "[I") (.int 2)) (.int 36)) (by decide +kernel))
    | 3, _ => exact va_eqt (hs (Cond.eq (.elem (.static "CoatDinner" "SIXES" "[I") (.int 3)) (.int 216)) (by decide +kernel))
    | 4, _ => exact va_eqt (hs (Cond.eq (.elem (.static "CoatDinner" "SIXES" "[I") (.int 4)) (.int 1296)) (by decide +kernel))
    | j + 5, hj => exact absurd hj (by omega)) hA
  exact ⟨a, va_Zof (hts _ (List.mem_of_getElem? (i := 570) (by decide +kernel))) (hts _ (gw_sub is_6.2)) h1 hA, h2⟩
theorem st_known_1 {s : State} {args : Array Value} (hts : ∀ w ∈ lw_tbl, w.before args s = true) (hgv : (Jvm.Cond.and given_1 narrow_1).before args s = true) : ∃ a : Nat, va_Z "CoatDinner" "FIVES" "[I" (.ref a) (fun q => s.heap.size ≤ q) s s.heap ∧ va_T .int a 5 (fun j => .int (stv 1 j)) (fun q => s.heap.size ≤ q) s s.heap := by
  have hs := flat_of_before _ hgv
  have hA : ∀ a : Nat, a < s.heap.size → ¬ (fun q => s.heap.size ≤ q) a := fun a h => Nat.not_le.mpr h
  obtain ⟨a, h1, h2⟩ := va_Tof (tm := .static "CoatDinner" "FIVES" "[I") (ty := .int) (N := 5) (f := fun j => .int (stv 1 j)) (A := fun q => s.heap.size ≤ q) (by decide) (hs _ (by decide +kernel)) (va_eqt (hs (Cond.eq (.length (.static "CoatDinner" "FIVES" "[I")) (.int 5)) (by decide +kernel))) (by
    intro j hj
    match j, hj with
    | 0, _ => exact va_eqt (hs (Cond.eq (.elem (.static "CoatDinner" "FIVES" "[I") (.int 0)) (.int 1)) (by decide +kernel))
    | 1, _ => exact va_eqt (hs (Cond.eq (.elem (.static "CoatDinner" "FIVES" "[I") (.int 1)) (.int 5)) (by decide +kernel))
    | 2, _ => exact va_eqt (hs (Cond.eq (.elem (.static "CoatDinner" "FIVES" "[I") (.int 2)) (.int 25)) (by decide +kernel))
    | 3, _ => exact va_eqt (hs (Cond.eq (.elem (.static "CoatDinner" "FIVES" "[I") (.int 3)) (.int 125)) (by decide +kernel))
    | 4, _ => exact va_eqt (hs (Cond.eq (.elem (.static "CoatDinner" "FIVES" "[I") (.int 4)) (.int 625)) (by decide +kernel))
    | j + 5, hj => exact absurd hj (by omega)) hA
  exact ⟨a, va_Zof (hts _ (List.mem_of_getElem? (i := 661) (by decide +kernel))) (hts _ (gw_sub is_6.2)) h1 hA, h2⟩
theorem st_known_2 {s : State} {args : Array Value} (hts : ∀ w ∈ lw_tbl, w.before args s = true) (hgv : (Jvm.Cond.and given_1 narrow_1).before args s = true) : ∃ a : Nat, va_Z "CoatDinner" "FACTORIALS" "[I" (.ref a) (fun q => s.heap.size ≤ q) s s.heap ∧ va_T .int a 6 (fun j => .int (stv 2 j)) (fun q => s.heap.size ≤ q) s s.heap := by
  have hs := flat_of_before _ hgv
  have hA : ∀ a : Nat, a < s.heap.size → ¬ (fun q => s.heap.size ≤ q) a := fun a h => Nat.not_le.mpr h
  obtain ⟨a, h1, h2⟩ := va_Tof (tm := .static "CoatDinner" "FACTORIALS" "[I") (ty := .int) (N := 6) (f := fun j => .int (stv 2 j)) (A := fun q => s.heap.size ≤ q) (by decide) (hs _ (by decide +kernel)) (va_eqt (hs (Cond.eq (.length (.static "CoatDinner" "FACTORIALS" "[I")) (.int 6)) (by decide +kernel))) (by
    intro j hj
    match j, hj with
    | 0, _ => exact va_eqt (hs (Cond.eq (.elem (.static "CoatDinner" "FACTORIALS" "[I") (.int 0)) (.int 1)) (by decide +kernel))
    | 1, _ => exact va_eqt (hs (Cond.eq (.elem (.static "CoatDinner" "FACTORIALS" "[I") (.int 1)) (.int 1)) (by decide +kernel))
    | 2, _ => exact va_eqt (hs (Cond.eq (.elem (.static "CoatDinner" "FACTORIALS" "[I") (.int 2)) (.int 2)) (by decide +kernel))
    | 3, _ => exact va_eqt (hs (Cond.eq (.elem (.static "CoatDinner" "FACTORIALS" "[I") (.int 3)) (.int 6)) (by decide +kernel))
    | 4, _ => exact va_eqt (hs (Cond.eq (.elem (.static "CoatDinner" "FACTORIALS" "[I") (.int 4)) (.int 24)) (by decide +kernel))
    | 5, _ => exact va_eqt (hs (Cond.eq (.elem (.static "CoatDinner" "FACTORIALS" "[I") (.int 5)) (.int 120)) (by decide +kernel))
    | j + 6, hj => exact absurd hj (by omega)) hA
  exact ⟨a, va_Zof (hts _ (List.mem_of_getElem? (i := 717) (by decide +kernel))) (hts _ (gw_sub is_6.2)) h1 hA, h2⟩
set_option maxHeartbeats 4000000 in
set_option maxRecDepth 100000 in
theorem whole_start {p : Program} {e : Env} {s : State} {m : MethodId} {below : List Frame} {meth : Method} {c : Code} (l : Launch) {b L : Nat} {xs : Nat → Int32} (hL : L ≤ 256) (C0 : lw_At p s m meth c b L xs) : W p l e room_1 s m #[Value.ref b] below meth c s.heap [] 0 0 (lw_Z below #[Value.ref b] s) (entryFrame m ([Value.ref b] : List Value).toArray 4) := by
  obtain ⟨hx, hb, hr, hml, hown, hts, hX, hbl, hlocks, hgv⟩ := id C0
  obtain ⟨c0, iS0, hKn0⟩ := u_known (C := RX0) (T := TX0) (N := 3) (n := 3) hts (fun w h => gw_sub (inw_0 w h)) (hts _ (gw_sub is_0.1))
  obtain ⟨c1, iS1, hKn1⟩ := u_known (C := RX1) (T := TX1) (N := 2) (n := 2) hts (fun w h => gw_sub (inw_1 w h)) (hts _ (gw_sub is_1.1))
  obtain ⟨c2, iS2, hKn2⟩ := u_known (C := RX2) (T := TX2) (N := 5) (n := 5) hts (fun w h => gw_sub (inw_2 w h)) (hts _ (gw_sub is_2.1))
  obtain ⟨c3, iS3, hKn3⟩ := u_known (C := RX3) (T := TX3) (N := 3) (n := 3) hts (fun w h => gw_sub (inw_3 w h)) (hts _ (gw_sub is_3.1))
  obtain ⟨c4, iS4, hKn4⟩ := u_known (C := RX4) (T := TX4) (N := 17) (n := 17) hts (fun w h => gw_sub (inw_4 w h)) (hts _ (gw_sub is_4.1))
  obtain ⟨c5, iS5, hKn5⟩ := u_known (C := RX5) (T := TX5) (N := 5) (n := 5) hts (fun w h => gw_sub (inw_5 w h)) (hts _ (gw_sub is_5.1))
  obtain ⟨c6, iS6, hKn6⟩ := u_known (C := RX6) (T := TX6) (N := 10) (n := 10) hts (fun w h => gw_sub (inw_6 w h)) (hts _ (gw_sub is_6.1))
  obtain ⟨c7, iS7, hKn7⟩ := u_known (C := RX7) (T := TX7) (N := 30) (n := 30) hts (fun w h => gw_sub (inw_7 w h)) (hts _ (gw_sub is_7.1))
  obtain ⟨dC, dI, hKc⟩ : ∃ (dC : Nat → ClassId) (dI : Nat → Nat → Nat), ∀ (k : Nat) (q : vw_C), cls8[k]? = some q → u_Kn s q.1 q.2.1 q.2.2 (dC k) (dI k) := by
    refine ⟨fun k => if k = 0 then c0 else if k = 1 then c1 else if k = 2 then c2 else if k = 3 then c3 else if k = 4 then c4 else if k = 5 then c5 else if k = 6 then c6 else c7, fun k => if k = 0 then iS0 else if k = 1 then iS1 else if k = 2 then iS2 else if k = 3 then iS3 else if k = 4 then iS4 else if k = 5 then iS5 else if k = 6 then iS6 else iS7, ?_⟩
    intro k q hq
    match k, hq with
    | 0, hq => cases hq; exact hKn0
    | 1, hq => cases hq; exact hKn1
    | 2, hq => cases hq; exact hKn2
    | 3, hq => cases hq; exact hKn3
    | 4, hq => cases hq; exact hKn4
    | 5, hq => cases hq; exact hKn5
    | 6, hq => cases hq; exact hKn6
    | 7, hq => cases hq; exact hKn7
    | k + 8, hq => simp [cls8] at hq
  obtain ⟨cI, hI⟩ := ar_known (hts _ (gw_sub w_arI)) (fun cA h => h)
  obtain ⟨cZ', hZ⟩ := ar_known (hts _ (gw_sub w_arZ)) (fun cA h => h)
  obtain ⟨a0, z0, t0⟩ := st_known_0 hts hgv
  obtain ⟨a1, z1, t1⟩ := st_known_1 hts hgv
  obtain ⟨a2, z2, t2⟩ := st_known_2 hts hgv
  have hK : va_K (dC, dI) cls8 [(cI, .int), (cZ', .boolean)] s := ⟨hKc, fun k q hq => by
    match k, hq with
    | 0, hq => cases hq; exact hI
    | 1, hq => cases hq; exact hZ
    | k + 2, hq => simp at hq⟩
  have hSt : k_St ((s.heap.size, (dC, dI), (cI, cZ'), (a0, a1, a2), fun _ => 0) : KW) s := ⟨hK, fun w hw => by
      have h1 := (List.mem_filter.mp hw).2
      have h2 := hts w (nw_sub hw)
      cases w with
      | fieldLinkNest a i b n d host => exact va_Nw.of rfl h2
      | methodLinkNest a i x host => exact va_Nw.of rfl h2
      | _ => simp [isNest] at h1, fun t ht => by
      match t, ht with
      | 0, _ => exact ⟨z0, t0⟩
      | 1, _ => exact ⟨z1, t1⟩
      | 2, _ => exact ⟨z2, t2⟩
      | t + 3, ht => exact absurd ht (by omega)⟩
  have hl := lv_entry ([.ref b]) (n := 4) (Nat.le_of_ble_eq_true rfl)
  rw [lg_entry_eq]
  exact law_start (G := (s.heap.size, (dC, dI), (cI, cZ'), (a0, a1, a2), fun _ => 0)) (law_pure xs hL) p e s m _ below meth c s.heap [] _ ⟨hx, hb, hml, hown, fun w hw => hts w (gw_sub hw), hlocks, hr, hSt⟩ ⟨rfl, hX, hbl, rfl⟩ ⟨fun k q h => by simp at h, fun i j p q h => by simp at h, fun k q h => by simp at h⟩ va_S.rf hl
set_option maxHeartbeats 4000000 in
theorem lw_walk (l : Launch) (b : Addr) (xs : List Int32) : MetFree l x (headSpec (Jvm.Cond.code x code maxLocals ret :: tables_1) room_1) (lw_P b xs) (fun _ _ _ _ _ => True) lw_Q := by
  refine MetFree.of_bodyS (code := code) (maxLocals := maxLocals) (ret := ret) (by decide) ?_ ?_
  · intro args s m h hn
    obtain ⟨meth, c, h1, h2, h3, h4, h5, h6, -, -⟩ := Cond.code_spec hn (atoms_spec (ws := Jvm.Cond.code x code maxLocals ret :: tables_1) h _ List.mem_cons_self)
    exact ⟨meth, c, h1, h2, h3, h4, h5, h6⟩
  · intro p e s m args below meth c s₁ B hml0 hP _
    obtain ⟨rfl, hx, hbd, hgv⟩ := hP
    obtain ⟨scr, harrAt, hlist, hof, hsmall⟩ := hx
    obtain ⟨hcb, hkn, -, -⟩ := State.arrayAt?_spec harrAt
    have hown : s.vm.findClass R_law = some m.cls := findClass_of_methodNamed B.named
    have hts0 : ∀ c ∈ (Jvm.Cond.code x code maxLocals ret :: tables_1), c.before #[Value.ref b] s = true := atoms_spec (ws := Jvm.Cond.code x code maxLocals ret :: tables_1) B.pre
    have hts : ∀ w ∈ lw_tbl, w.before #[Value.ref b] s = true := k2_hts_sels lw_privs (fun w hw => hts0 w (List.mem_cons_of_mem _ hw)) lw_privs_ok
    have hml : c.maxLocals = 4 := B.maxLocals_eq (hts0 _ List.mem_cons_self)
    have X₀ : Stand p l e room_1 s m #[Value.ref b] below meth c s₁ [] 0 0 := Stand.of_body B
    have hh0 : s₁.heap = s.heap := by rw [B.state]; rfl
    have hsz : scr.slots.size = xs.length := by rw [← Array.length_toList, hlist, List.length_map]
    have hval : ∀ j : Nat, j < xs.length → scr.slots[j]? = some (.int (xs.getD j 0)) := fun j hj => by
      rw [← Array.getElem?_toList, hlist]
      simp [hj]
    have hbl : b < s.heap.size := (Array.getElem?_eq_some_iff.mp hcb).1
    have hX : va_X b xs.length (fun j => xs.getD j 0) s s.heap := ⟨scr, hcb, hof, hkn, hsz, hval⟩
    have K : W p l e room_1 s m #[Value.ref b] below meth c s₁.heap [] 0 0 (lw_Z below #[Value.ref b] s) (entryFrame m ([Value.ref b] : List Value).toArray 4) := by
      rw [hh0]
      exact whole_start l hbd ⟨B.exec, B.bytes, B.returns, hml, hown, hts, hX, hbl, B.notSynchronized, hgv⟩
    obtain ⟨t, a1, o, b1, b2, b3⟩ := K s₁ rfl X₀
    exact ⟨t, o, a1, b1, b2, b3⟩
theorem lw_pre_spec {args : Array Value} {s : State} (h : (Jvm.Cond.and given_1 narrow_1).before args s = true) (hr : rest_1_c.before args s = true) : ∃ (b : Addr) (xs : List Int32), lw_P b xs args s := by
  have hs := flat_of_before _ h
  have hq := flat_of_before _ hr
  have hc : (Cond.count 1).before args s = true := hs _ (by decide +kernel)
  have harr : (Cond.arrayOf (.arg 0) .int).before args s = true := hs _ (by decide +kernel)
  have hle : (Cond.le (.length (.arg 0)) (.int 256)).before args s = true := hs _ (by decide +kernel)
  have hlen : (Cond.isInt (.length (.arg 0))).before args s = true := hq _ (by decide +kernel)
  have hall : (Cond.all (.arg 0) (.isInt (.elem (.arg 0) (.index 0)))).before args s = true := hq _ (by decide +kernel)
  obtain ⟨b, xs, hb, hx⟩ := State.ints_of_pre rfl harr hlen hall
  have hsm : xs.length < 2 ^ 31 := hx.choose_spec.2.2.2
  have hev : (Term.length (.arg 0)).eval args s none [] s = some (.int xs.length.toInt32) := hx.length_eval hb
  have hv := Cond.le_ints hev (show (Term.int 256).eval args s none [] s = some (.int 256) from rfl)
  have hd : xs.length.toInt32 ≤ 256 := by
    simpa [Cond.before, Cond.holds, hv] using hle
  have hN : xs.length ≤ 256 := (Int32.ofNat_le_ofNat hsm (by decide)).mp (show Int32.ofNat xs.length ≤ Int32.ofNat 256 from hd)
  exact ⟨b, xs, Cond.one_arg hc (show args[0]? = some (.ref b) from hb), hx, hN, h⟩
theorem lw_comes (l : Launch) : Comes l x (Jvm.Cond.code x code maxLocals ret :: tables_1) room_1 (fun tb e args s => Calls_1 tb e args s ∧ rest_1 tb e args s ∧ Pre_1 tb e args s)
    (fun _ _ args s o t => lw_Q args s o t) := by
  intro p e ha hc hk s m args below hf hfit hheap happ hpre
  obtain ⟨b, xs, hP⟩ := lw_pre_spec hpre.2.2 hpre.2.1
  obtain ⟨k, o, h1, h2, h3, hQ⟩ := lw_walk l b xs p e ha hc hk s m args below hf ((Spec.applies_iff_loose hf).mp happ).1 hP trivial
  exact ⟨k, o, h1, h2, h3, hQ⟩
theorem lw_frame {s t : State} {o : Outcome} {args : Array Value} (h : Framed s o t [] 123 12726) :
    Framed s o t (fieldLocs frame_1_writes args s ++ arrayLocs frame_1_arrays args s ++ staticLocs frame_1_statics s) 123 12726 := h
theorem lw_limb (L : Cond) (hL : ∀ (args : Array Value) (s t : State), L.after args s (.returned (some (.int 1))) t = true) :
    ArmFor flags0 classFile x code maxLocals ret World_1 tables_1 room_1 Calls_1 rest_1 Pre_1
      (fun tb e a s o t => postC L tb e a s o t ∧ Framed s o t (fieldLocs frame_1_writes a s ++ arrayLocs frame_1_arrays a s ++ staticLocs frame_1_statics s) 123 12726) := by
  intro l _ _ _ p e ha hc hk s m args below hf hfit hheap happ hpre
  obtain ⟨k, o, h1, h2, h3, rfl, hF⟩ := lw_comes l p e ha hc hk s m args below hf hfit hheap happ hpre
  exact ⟨k, _, h1, h2, h3, hL args s _, lw_frame hF⟩
theorem i_vc : Claimed_1_1 ∧ Claimed_1_2 := ⟨lw_limb limb_1_1 (fun args s t => by simp [limb_1_1, Cond.after, Cond.holds, Cond.value]), lw_limb limb_1_2 (fun args s t => Cond.after_iff.mpr (by
  first | (rw [show limb_1_2 = Cond.eq .result (.int 1) from rfl, Cond.eq_ints (x := 1) (y := 1) rfl rfl]; simp; done) | (simp [limb_1_2, Cond.value, Term.eval]; done)))⟩

