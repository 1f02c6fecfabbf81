/-! ===== the words that keep, the nest words, the classes ===== -/
def k_gw : List Cond := lw_tbl.filter goodWord
def isNest : Cond → Bool
  | .fieldLinkNest .. => true
  | .methodLinkNest .. => true
  | _ => false
def k_nw : List Cond := lw_tbl.filter isNest
theorem gw_of {w : Cond} (i : Nat) (h : lw_tbl[i]? = some w) (hg : goodWord w = true) : w ∈ k_gw := List.mem_filter.mpr ⟨List.mem_of_getElem? h, hg⟩
theorem nws_of {w : Cond} (i : Nat) (h : lw_tbl[i]? = some w) (hg : isNest w = true) : w ∈ k_nw := List.mem_filter.mpr ⟨List.mem_of_getElem? h, hg⟩
theorem good_gw {y : MethodName} {b : ByteArray} {mL : Nat} {rt : Option FieldType} (h : Cond.code y b mL rt ∈ k_gw) : GoodIn k_gw (.code y b mL rt :: k_gw) := by
  intro w hw
  rcases List.mem_cons.mp hw with rfl | hw
  · exact ⟨h, good_of_word (List.mem_filter.mp h).2⟩
  · exact ⟨hw, good_of_word (List.mem_filter.mp hw).2⟩
/-! ===== the world's fixed numbers: base, class numbers, array classes, static rows ===== -/
abbrev KW : Type := Nat × va_G × (ClassId × ClassId) × (Nat × Nat × Nat) × (Nat → Nat)
abbrev Sg : Type := Nat → Nat → Int32
abbrev gad (G : KW) : Nat → Nat := G.2.2.2.2
abbrev gA (G : KW) : Nat → Prop := fun q => G.1 ≤ q
abbrev gT (G : KW) : List (ClassId × FieldType) := [(G.2.2.1.1, .int), (G.2.2.1.2, .boolean)]
def stv : Nat → Nat → Int32
  | 0, j => [1, 6, 36, 216, 1296].getD j 0
  | 1, j => [1, 5, 25, 125, 625].getD j 0
  | _, j => [1, 1, 2, 6, 24, 120].getD j 0
def sad (G : KW) : Nat → Nat
  | 0 => G.2.2.2.1.1
  | 1 => G.2.2.2.1.2.1
  | _ => G.2.2.2.1.2.2
def sln : Nat → Nat
  | 0 => 5
  | 1 => 5
  | _ => 6
def snm : Nat → String
  | 0 => "SIXES"
  | 1 => "FIVES"
  | _ => "FACTORIALS"
def k_St (G : KW) (U : State) : Prop := va_K G.2.1 cls8 (gT G) U ∧ (∀ w ∈ k_nw, va_Nw w U) ∧ ∀ t, t < 3 → va_Z "CoatDinner" (snm t) "[I" (.ref (sad G t)) (gA G) U U.heap ∧ va_T .int (sad G t) (sln t) (fun j => .int (stv t j)) (gA G) U U.heap
theorem k_St.to {G : KW} {s U : State} (hvm : s.vm.Alike U.vm) (hn : ∀ w ∈ k_nw, va_Nw w U) (hk : ∀ a : Nat, a < s.heap.size → ¬ gA G a → U.heap[a]? = s.heap[a]?) (h : k_St G s) : k_St G U :=
  ⟨va_K.moved hvm h.1, hn, fun t ht => ⟨((h.2.2 t ht).1.moved hvm).kept hk, ((h.2.2 t ht).2.moved hvm).kept hk⟩⟩
theorem nest_warm {w : Cond} {s U : State} (hw : w ∈ k_nw) (hW : s.WarmedH U.vm) (h : va_Nw w s) : va_Nw w U := by
  have h1 := (List.mem_filter.mp hw).2
  cases w with
  | fieldLinkNest a i b n d host => exact va_Nw.warmF hW h
  | methodLinkNest a i x host => exact va_Nw.warmM hW h
  | _ => simp [isNest] at h1
theorem nest_same {w : Cond} {s U : State} (hw : w ∈ k_nw) (e : s.vm = U.vm) (h : va_Nw w s) : va_Nw w U := by
  have h1 := (List.mem_filter.mp hw).2
  cases w with
  | fieldLinkNest a i b n d host => exact va_Nw.same rfl e h
  | methodLinkNest a i x host => exact va_Nw.same rfl e h
  | _ => simp [isNest] at h1
theorem nest_use {w : Cond} {s : State} {args : Array Value} (hw : w ∈ k_nw) (h : va_Nw w s) : w.before args s = true := by
  have h1 := (List.mem_filter.mp hw).2
  cases w with
  | fieldLinkNest a i b n d host => exact va_Nw.use rfl h
  | methodLinkNest a i x host => exact va_Nw.use rfl h
  | _ => simp [isNest] at h1
/-! ===== locals by place ===== -/
def asL : Nat → List (Option Value) → List (Nat × Value)
  | _, [] => []
  | i, none :: r => asL (i + 1) r
  | i, some v :: r => (i, v) :: asL (i + 1) r
theorem asL_mem : ∀ (L : List (Option Value)) (i j : Nat) (v : Value), (j, v) ∈ asL i L ↔ i ≤ j ∧ L[j - i]? = some (some v)
  | [], i, j, v => by simp [asL]
  | none :: r, i, j, v => by
    rw [asL, asL_mem r (i + 1) j v]
    constructor
    · rintro ⟨h1, h2⟩
      refine ⟨by omega, ?_⟩
      rw [show j - i = (j - (i + 1)) + 1 by omega]
      simpa using h2
    · rintro ⟨h1, h2⟩
      by_cases e : j = i
      · subst e; simp at h2
      · refine ⟨by omega, ?_⟩
        rw [show j - i = (j - (i + 1)) + 1 by omega] at h2
        simpa using h2
  | some w :: r, i, j, v => by
    rw [asL, List.mem_cons, asL_mem r (i + 1) j v]
    constructor
    · rintro (h | ⟨h1, h2⟩)
      · cases h; simp
      · refine ⟨by omega, ?_⟩
        rw [show j - i = (j - (i + 1)) + 1 by omega]
        simpa using h2
    · rintro ⟨h1, h2⟩
      by_cases e : j = i
      · subst e; left; simp at h2; rw [h2]
      · right; refine ⟨by omega, ?_⟩
        rw [show j - i = (j - (i + 1)) + 1 by omega] at h2
        simpa using h2
theorem asL_at {ls : Array Slot} {nL : Nat} {L : List (Option Value)} (h : lv_has ls nL (asL 0 L)) {i : Nat} {v : Value} (hk : L[i]? = some (some v)) : ls[i]? = some (.val v) :=
  h.2.2 (i, v) ((asL_mem L 0 i v).mpr ⟨Nat.zero_le _, by simpa using hk⟩)
/-- the place ahead of i holds no long -/
def npv (L : List (Option Value)) (i : Nat) : Prop := ∀ (j : Nat) (v : Value), j + 1 = i → L[j]? = some (some v) → v.category = 1
theorem asL_st1 {ls : Array Slot} {nL : Nat} {L : List (Option Value)} {i : Nat} {v : Value} (hp : npv L i) (h : lv_has ls nL ((i, v) :: (asL 0 L).filter (fun q => !(q.1 == i) && !(q.1 + 1 == i && q.2.category == 2)))) : lv_has ls nL (asL 0 (L.set i (some v))) := by
  refine ⟨h.1, h.2.1, fun q hq => h.2.2 q ?_⟩
  obtain ⟨j, w⟩ := q
  have h1 := ((asL_mem _ 0 j w).mp hq).2
  rw [Nat.sub_zero, List.getElem?_set] at h1
  by_cases e : i = j
  · subst e
    simp only [if_true] at h1
    split at h1
    · cases h1; exact List.mem_cons_self
    · cases h1
  · rw [if_neg e] at h1
    refine List.mem_cons_of_mem _ (List.mem_filter.mpr ⟨(asL_mem L 0 j w).mpr ⟨Nat.zero_le _, by simpa using h1⟩, ?_⟩)
    by_cases e2 : j + 1 = i
    · have := hp j w e2 h1
      simp [this, Ne.symm e]
    · simp [e2, Ne.symm e]
theorem asL_st2 {ls : Array Slot} {nL : Nat} {L : List (Option Value)} {i : Nat} {v : Value} (hp : npv L i) (h : lv_has ls nL ((i, v) :: (asL 0 L).filter (fun q => !(q.1 == i) && (!(q.1 == i + 1) && !(q.1 + 1 == i && q.2.category == 2))))) : lv_has ls nL (asL 0 ((L.set i (some v)).set (i + 1) none)) := by
  refine ⟨h.1, h.2.1, fun q hq => h.2.2 q ?_⟩
  obtain ⟨j, w⟩ := q
  have h1 := ((asL_mem _ 0 j w).mp hq).2
  rw [Nat.sub_zero, List.getElem?_set] at h1
  by_cases e0 : i + 1 = j
  · subst e0
    simp only [if_true] at h1
    split at h1 <;> cases h1
  rw [if_neg e0, List.getElem?_set] at h1
  by_cases e : i = j
  · subst e
    simp only [if_true] at h1
    split at h1
    · cases h1; exact List.mem_cons_self
    · cases h1
  · rw [if_neg e] at h1
    refine List.mem_cons_of_mem _ (List.mem_filter.mpr ⟨(asL_mem L 0 j w).mpr ⟨Nat.zero_le _, by simpa using h1⟩, ?_⟩)
    by_cases e2 : j + 1 = i
    · have := hp j w e2 h1
      simp [this, Ne.symm e, Ne.symm e0]
    · simp [e2, Ne.symm e, Ne.symm e0]
/-- fewer locals known -/
def wkL : List (Option Value) → List (Option Value) → Prop
  | [], _ => True
  | none :: a, _ :: b => wkL a b
  | some v :: a, x :: b => x = some v ∧ wkL a b
  | none :: a, [] => wkL a []
  | some _ :: _, [] => False
theorem wk_0 {b : List (Option Value)} : wkL [] b := by simp [wkL]
theorem wk_n {a b : List (Option Value)} {x : Option Value} (h : wkL a b) : wkL (none :: a) (x :: b) := h
theorem wk_s {a b : List (Option Value)} {v : Value} (h : wkL a b) : wkL (some v :: a) (some v :: b) := ⟨rfl, h⟩
theorem wkL_at : ∀ (a b : List (Option Value)) (i : Nat) (v : Value), wkL a b → a[i]? = some (some v) → b[i]? = some (some v)
  | [], _, i, v, _, h => by simp at h
  | none :: a, _ :: b, i, v, hw, h => by
    cases i with
    | zero => simp at h
    | succ i => simpa using wkL_at a b i v hw (by simpa using h)
  | some w :: a, x :: b, i, v, hw, h => by
    obtain ⟨rfl, hw⟩ := hw
    cases i with
    | zero => simpa using h
    | succ i => simpa using wkL_at a b i v hw (by simpa using h)
  | none :: a, [], i, v, hw, h => by
    cases i with
    | zero => simp at h
    | succ i =>
      have := wkL_at a [] i v hw (by simpa using h)
      simp at this
  | some _ :: _, [], _, _, hw, _ => hw.elim
theorem wkL_has {ls : Array Slot} {nL : Nat} {a b : List (Option Value)} (hw : wkL a b) (h : lv_has ls nL (asL 0 b)) : lv_has ls nL (asL 0 a) := by
  refine ⟨h.1, h.2.1, fun q hq => ?_⟩
  obtain ⟨j, v⟩ := q
  have h1 := ((asL_mem _ 0 j v).mp hq).2
  exact asL_at h (wkL_at a b j v hw (by simpa using h1))
/-! ===== the judgement ===== -/
def Cxx (G : KW) (cc : ByteArray) (nL : Nat) (own : String) (rt : Option FieldType) (p : Program) (s : State) (m : MethodId) (args : Array Value) (meth : Method) (c : Code) : Prop :=
  p.tables.exec = Jvm.exec ∧ c.code = cc ∧ c.maxLocals = nL ∧ s.vm.findClass own = some m.cls ∧ (∀ w ∈ k_gw, w.before args s = true) ∧ meth.locks = false ∧ meth.sig.returnType = rt ∧ k_St G s
def PPp (G : KW) (As : List Value) (ws : va_W) : Array Value → State → Prop := fun v U => v = As.toArray ∧ k_St G U ∧ va_P G.2.1 cls8 ws U.heap ∧ va_D (gA G) ws
def QQq (G : KW) (Q : Option Value → va_W → Prop) : Array Value → State → Outcome → State → Prop := fun _ st oc t => ∃ (v : Option Value) (ws : va_W), oc = .returned v ∧ Q v ws ∧ va_P G.2.1 cls8 ws t.heap ∧ va_D (gA G) ws ∧ va_F (gA G) st t
abbrev rmo (fr lo : Nat) : Room := { frames := fr, cells := 0, slots := 0, locals := lo }
def MetF (G : KW) (l : Launch) (y : MethodName) (cb : ByteArray) (mL : Nat) (rt : Option FieldType) (fr lo : Nat) (As : List Value) (ws : va_W) (v : Option Value) (ws' : va_W) : Prop :=
  Met l y (.code y cb mL rt :: k_gw) (rmo fr lo) (PPp G As ws) (QQq G (fun v' w' => v' = v ∧ w' = ws')) 0 0 (gA G)
theorem PP_blind {G : KW} {As : List Value} {ws : va_W} : FrameBlind (PPp G As ws) := by
  intro a U g mk h
  obtain ⟨h1, h2, h3, h4⟩ := h
  exact ⟨h1, h2.to (Vm.Alike.refl U.vm) (fun w hw => nest_same (s := U) (U := U.calling g mk a) hw rfl (h2.2.1 w hw)) (fun _ _ _ => rfl), h3, h4⟩
section GW
variable {G : KW} {l : Launch} {cc : ByteArray} {nL : Nat} {own : String} {rt : Option FieldType} {R : Room} {X : State → Array Value → Method → Prop} {Z : List Frame → Array Value → State → State → Prop} {Wp : Heap → Prop} {k0 n0 pc : Nat} {L : List (Option Value)} {S : List Value}
def Gww (G : KW) (l : Launch) (cc : ByteArray) (nL : Nat) (own : String) (rt : Option FieldType) (R : Room) (X : State → Array Value → Method → Prop) (Z : List Frame → Array Value → State → State → Prop) (Wp : Heap → Prop) (k0 n0 pc : Nat) (L : List (Option Value)) (S : List Value) : Prop :=
  ∀ (p : Program) (e : Env) (s : State) (m : MethodId) (args : Array Value) (below : List Frame) (meth : Method) (c : Code) (H : Heap) (locs : List Loc) (ls : Array Slot),
    Cxx G cc nL own rt p s m args meth c → X s args meth → Wp H → va_S (gA G) s.heap H locs → lv_has ls nL (asL 0 L) →
    W p l e R s m args below meth c H locs k0 n0 (Z below args s) (F0 m pc ls S)

def jsl (x y : Int32) : Int32 := x <<< (y &&& 31)
def jsr (x y : Int32) : Int32 := x >>> (y &&& 31)
def jus (x y : Int32) : Int32 := (x.toUInt32 >>> (y.toUInt32 &&& Int32.toUInt32 31)).toInt32
def jrm (x y : Int32) : Int32 := x - x / y * y
def jrl (x y : Int64) : Int64 := x - x / y * y
theorem gw_iadd {x y : Int32} (d : decode cc pc = .ok (.iadd, 1)) (k : Gww G l cc nL own rt R X Z Wp k0 n0 (pc + 1) L (.int (x + y) :: S)) : Gww G l cc nL own rt R X Z Wp k0 n0 pc L (.int y :: .int x :: S) := by
  intro p e s m args below meth c H locs ls C X0 hW hS hl
  exact lv_iadd C.1 C.2.1 d (k p e s m args below meth c H locs ls C X0 hW hS hl)
theorem gw_isub {x y : Int32} (d : decode cc pc = .ok (.isub, 1)) (k : Gww G l cc nL own rt R X Z Wp k0 n0 (pc + 1) L (.int (x - y) :: S)) : Gww G l cc nL own rt R X Z Wp k0 n0 pc L (.int y :: .int x :: S) := by
  intro p e s m args below meth c H locs ls C X0 hW hS hl
  exact lv_isub C.1 C.2.1 d (k p e s m args below meth c H locs ls C X0 hW hS hl)
theorem gw_imul {x y : Int32} (d : decode cc pc = .ok (.imul, 1)) (k : Gww G l cc nL own rt R X Z Wp k0 n0 (pc + 1) L (.int (x * y) :: S)) : Gww G l cc nL own rt R X Z Wp k0 n0 pc L (.int y :: .int x :: S) := by
  intro p e s m args below meth c H locs ls C X0 hW hS hl
  exact lv_imul C.1 C.2.1 d (k p e s m args below meth c H locs ls C X0 hW hS hl)
theorem gw_iand {x y : Int32} (d : decode cc pc = .ok (.iand, 1)) (k : Gww G l cc nL own rt R X Z Wp k0 n0 (pc + 1) L (.int (x &&& y) :: S)) : Gww G l cc nL own rt R X Z Wp k0 n0 pc L (.int y :: .int x :: S) := by
  intro p e s m args below meth c H locs ls C X0 hW hS hl
  exact lv_iand C.1 C.2.1 d (k p e s m args below meth c H locs ls C X0 hW hS hl)
theorem gw_ior {x y : Int32} (d : decode cc pc = .ok (.ior, 1)) (k : Gww G l cc nL own rt R X Z Wp k0 n0 (pc + 1) L (.int (x ||| y) :: S)) : Gww G l cc nL own rt R X Z Wp k0 n0 pc L (.int y :: .int x :: S) := by
  intro p e s m args below meth c H locs ls C X0 hW hS hl
  exact lv_ior C.1 C.2.1 d (k p e s m args below meth c H locs ls C X0 hW hS hl)
theorem gw_ixor {x y : Int32} (d : decode cc pc = .ok (.ixor, 1)) (k : Gww G l cc nL own rt R X Z Wp k0 n0 (pc + 1) L (.int (x ^^^ y) :: S)) : Gww G l cc nL own rt R X Z Wp k0 n0 pc L (.int y :: .int x :: S) := by
  intro p e s m args below meth c H locs ls C X0 hW hS hl
  exact lv_ixor C.1 C.2.1 d (k p e s m args below meth c H locs ls C X0 hW hS hl)
theorem gw_ishl {x y : Int32} (d : decode cc pc = .ok (.ishl, 1)) (k : Gww G l cc nL own rt R X Z Wp k0 n0 (pc + 1) L (.int (jsl x y) :: S)) : Gww G l cc nL own rt R X Z Wp k0 n0 pc L (.int y :: .int x :: S) := by
  intro p e s m args below meth c H locs ls C X0 hW hS hl
  exact lv_ishl C.1 C.2.1 d (k p e s m args below meth c H locs ls C X0 hW hS hl)
theorem gw_ishr {x y : Int32} (d : decode cc pc = .ok (.ishr, 1)) (k : Gww G l cc nL own rt R X Z Wp k0 n0 (pc + 1) L (.int (jsr x y) :: S)) : Gww G l cc nL own rt R X Z Wp k0 n0 pc L (.int y :: .int x :: S) := by
  intro p e s m args below meth c H locs ls C X0 hW hS hl
  exact lv_ishr C.1 C.2.1 d (k p e s m args below meth c H locs ls C X0 hW hS hl)
theorem gw_iushr {x y : Int32} (d : decode cc pc = .ok (.iushr, 1)) (k : Gww G l cc nL own rt R X Z Wp k0 n0 (pc + 1) L (.int (jus x y) :: S)) : Gww G l cc nL own rt R X Z Wp k0 n0 pc L (.int y :: .int x :: S) := by
  intro p e s m args below meth c H locs ls C X0 hW hS hl
  exact lv_iushr C.1 C.2.1 d rfl (k p e s m args below meth c H locs ls C X0 hW hS hl)
theorem gw_idiv {x y : Int32} (d : decode cc pc = .ok (.idiv, 1)) (hne : ¬ y = 0) (k : Gww G l cc nL own rt R X Z Wp k0 n0 (pc + 1) L (.int (x / y) :: S)) : Gww G l cc nL own rt R X Z Wp k0 n0 pc L (.int y :: .int x :: S) := by
  intro p e s m args below meth c H locs ls C X0 hW hS hl
  exact lv_idiv C.1 C.2.1 d hne (k p e s m args below meth c H locs ls C X0 hW hS hl)
theorem gw_irem {x y : Int32} (d : decode cc pc = .ok (.irem, 1)) (hne : ¬ y = 0) (k : Gww G l cc nL own rt R X Z Wp k0 n0 (pc + 1) L (.int (jrm x y) :: S)) : Gww G l cc nL own rt R X Z Wp k0 n0 pc L (.int y :: .int x :: S) := by
  intro p e s m args below meth c H locs ls C X0 hW hS hl
  exact lv_irem C.1 C.2.1 d hne (k p e s m args below meth c H locs ls C X0 hW hS hl)
theorem gw_ineg {x : Int32} (d : decode cc pc = .ok (.ineg, 1)) (k : Gww G l cc nL own rt R X Z Wp k0 n0 (pc + 1) L (.int (-x) :: S)) : Gww G l cc nL own rt R X Z Wp k0 n0 pc L (.int x :: S) := by
  intro p e s m args below meth c H locs ls C X0 hW hS hl
  exact lv_ineg C.1 C.2.1 d (k p e s m args below meth c H locs ls C X0 hW hS hl)
theorem gw_ladd {x y : Int64} (d : decode cc pc = .ok (.ladd, 1)) (k : Gww G l cc nL own rt R X Z Wp k0 n0 (pc + 1) L (.long (x + y) :: S)) : Gww G l cc nL own rt R X Z Wp k0 n0 pc L (.long y :: .long x :: S) := by
  intro p e s m args below meth c H locs ls C X0 hW hS hl
  exact lv_ladd C.1 C.2.1 d (k p e s m args below meth c H locs ls C X0 hW hS hl)
theorem gw_lmul {x y : Int64} (d : decode cc pc = .ok (.lmul, 1)) (k : Gww G l cc nL own rt R X Z Wp k0 n0 (pc + 1) L (.long (x * y) :: S)) : Gww G l cc nL own rt R X Z Wp k0 n0 pc L (.long y :: .long x :: S) := by
  intro p e s m args below meth c H locs ls C X0 hW hS hl
  exact lv_lmul C.1 C.2.1 d (k p e s m args below meth c H locs ls C X0 hW hS hl)
theorem gw_ldiv {x y : Int64} (d : decode cc pc = .ok (.ldiv, 1)) (hne : ¬ y = 0) (k : Gww G l cc nL own rt R X Z Wp k0 n0 (pc + 1) L (.long (x / y) :: S)) : Gww G l cc nL own rt R X Z Wp k0 n0 pc L (.long y :: .long x :: S) := by
  intro p e s m args below meth c H locs ls C X0 hW hS hl
  exact lv_ldiv C.1 C.2.1 d hne (k p e s m args below meth c H locs ls C X0 hW hS hl)
theorem gw_lrem {x y : Int64} (d : decode cc pc = .ok (.lrem, 1)) (hne : ¬ y = 0) (k : Gww G l cc nL own rt R X Z Wp k0 n0 (pc + 1) L (.long (jrl x y) :: S)) : Gww G l cc nL own rt R X Z Wp k0 n0 pc L (.long y :: .long x :: S) := by
  intro p e s m args below meth c H locs ls C X0 hW hS hl
  exact lv_lrem C.1 C.2.1 d hne (k p e s m args below meth c H locs ls C X0 hW hS hl)
theorem gw_lcmp {x y : Int64} (d : decode cc pc = .ok (.lcmp, 1)) (k : Gww G l cc nL own rt R X Z Wp k0 n0 (pc + 1) L (.int (lg_cmp x y) :: S)) : Gww G l cc nL own rt R X Z Wp k0 n0 pc L (.long y :: .long x :: S) := by
  intro p e s m args below meth c H locs ls C X0 hW hS hl
  exact W.lcmp C.1 C.2.1 d (k p e s m args below meth c H locs ls C X0 hW hS hl)
theorem gw_i2l {x : Int32} (d : decode cc pc = .ok (.i2l, 1)) (k : Gww G l cc nL own rt R X Z Wp k0 n0 (pc + 1) L (.long x.toInt64 :: S)) : Gww G l cc nL own rt R X Z Wp k0 n0 pc L (.int x :: S) := by
  intro p e s m args below meth c H locs ls C X0 hW hS hl
  exact lv_i2l C.1 C.2.1 d rfl (k p e s m args below meth c H locs ls C X0 hW hS hl)
theorem gw_iconst {n : Int} {v : Int32} (d : decode cc pc = .ok (.iconst n, 1)) (hv : Int32.ofInt n = v) (k : Gww G l cc nL own rt R X Z Wp k0 n0 (pc + 1) L (.int v :: S)) : Gww G l cc nL own rt R X Z Wp k0 n0 pc L (S) := by
  intro p e s m args below meth c H locs ls C X0 hW hS hl
  exact lv_iconst C.1 C.2.1 d hv (k p e s m args below meth c H locs ls C X0 hW hS hl)
theorem gw_bipush {n : Int} {v : Int32} (d : decode cc pc = .ok (.bipush n, 2)) (hv : (Int8.ofInt n).toInt32 = v) (k : Gww G l cc nL own rt R X Z Wp k0 n0 (pc + 2) L (.int v :: S)) : Gww G l cc nL own rt R X Z Wp k0 n0 pc L (S) := by
  intro p e s m args below meth c H locs ls C X0 hW hS hl
  exact lv_bipush C.1 C.2.1 d hv (k p e s m args below meth c H locs ls C X0 hW hS hl)
theorem gw_sipush {n : Int} {v : Int32} (d : decode cc pc = .ok (.sipush n, 3)) (hv : (Int16.ofInt n).toInt32 = v) (k : Gww G l cc nL own rt R X Z Wp k0 n0 (pc + 3) L (.int v :: S)) : Gww G l cc nL own rt R X Z Wp k0 n0 pc L (S) := by
  intro p e s m args below meth c H locs ls C X0 hW hS hl
  exact lv_sipush C.1 C.2.1 d hv (k p e s m args below meth c H locs ls C X0 hW hS hl)
theorem gw_lconst {n : Fin 2} {v : Int64} (d : decode cc pc = .ok (.lconst n, 1)) (hv : Int64.ofNat (n : Nat) = v) (k : Gww G l cc nL own rt R X Z Wp k0 n0 (pc + 1) L (.long v :: S)) : Gww G l cc nL own rt R X Z Wp k0 n0 pc L (S) := by
  intro p e s m args below meth c H locs ls C X0 hW hS hl
  exact lv_lconst C.1 C.2.1 d hv (k p e s m args below meth c H locs ls C X0 hW hS hl)
theorem gw_ldc {i : Nat} {v : Int32} (d : decode cc pc = .ok (.ldc i, 2)) (hw : Cond.constant own i v ∈ k_gw) (k : Gww G l cc nL own rt R X Z Wp k0 n0 (pc + 2) L (.int v :: S)) : Gww G l cc nL own rt R X Z Wp k0 n0 pc L (S) := by
  intro p e s m args below meth c H locs ls C X0 hW hS hl
  exact lv_ldc C.1 C.2.1 C.2.2.2.1 (C.2.2.2.2.1 _ hw) d (k p e s m args below meth c H locs ls C X0 hW hS hl)
theorem gw_ldcw {i : Nat} {v : Int32} (d : decode cc pc = .ok (.ldc_w i, 3)) (hw : Cond.constant own i v ∈ k_gw) (k : Gww G l cc nL own rt R X Z Wp k0 n0 (pc + 3) L (.int v :: S)) : Gww G l cc nL own rt R X Z Wp k0 n0 pc L (S) := by
  intro p e s m args below meth c H locs ls C X0 hW hS hl
  exact lv_ldcw C.1 C.2.1 C.2.2.2.1 (C.2.2.2.2.1 _ hw) d (k p e s m args below meth c H locs ls C X0 hW hS hl)
theorem gw_ldc2 {i : Nat} {v : Int64} (d : decode cc pc = .ok (.ldc2_w i, 3)) (hw : Cond.constantLong own i v ∈ k_gw) (k : Gww G l cc nL own rt R X Z Wp k0 n0 (pc + 3) L (.long v :: S)) : Gww G l cc nL own rt R X Z Wp k0 n0 pc L (S) := by
  intro p e s m args below meth c H locs ls C X0 hW hS hl
  exact lv_ldc2 C.1 C.2.1 C.2.2.2.1 (C.2.2.2.2.1 _ hw) d (k p e s m args below meth c H locs ls C X0 hW hS hl)
theorem gw_dup {v : Value} (d : decode cc pc = .ok (.dup, 1)) (hc : v.category = 1) (k : Gww G l cc nL own rt R X Z Wp k0 n0 (pc + 1) L (v :: v :: S)) : Gww G l cc nL own rt R X Z Wp k0 n0 pc L (v :: S) := by
  intro p e s m args below meth c H locs ls C X0 hW hS hl
  exact lv_dup C.1 C.2.1 d hc (k p e s m args below meth c H locs ls C X0 hW hS hl)
theorem gw_pop {v : Value} (d : decode cc pc = .ok (.pop, 1)) (hc : v.category = 1) (k : Gww G l cc nL own rt R X Z Wp k0 n0 (pc + 1) L (S)) : Gww G l cc nL own rt R X Z Wp k0 n0 pc L (v :: S) := by
  intro p e s m args below meth c H locs ls C X0 hW hS hl
  exact lv_pop C.1 C.2.1 d hc (k p e s m args below meth c H locs ls C X0 hW hS hl)
theorem gw_dup2 {v w : Value} (d : decode cc pc = .ok (.dup2, 1)) (hc : v.category = 1) (hc2 : w.category = 1) (k : Gww G l cc nL own rt R X Z Wp k0 n0 (pc + 1) L (v :: w :: v :: w :: S)) : Gww G l cc nL own rt R X Z Wp k0 n0 pc L (v :: w :: S) := by
  intro p e s m args below meth c H locs ls C X0 hW hS hl
  exact lv_dup2_11 C.1 C.2.1 d hc hc2 (k p e s m args below meth c H locs ls C X0 hW hS hl)
theorem gw_goto {off : Int} {tgt : Nat} (d : decode cc pc = .ok (.goto off, 3)) (ht : (pc : Int) + off = (tgt : Int)) (k : Gww G l cc nL own rt R X Z Wp k0 n0 tgt L S) : Gww G l cc nL own rt R X Z Wp k0 n0 pc L S := by
  intro p e s m args below meth c H locs ls C X0 hW hS hl
  exact lv_goto C.1 C.2.1 d ht (k p e s m args below meth c H locs ls C X0 hW hS hl)
theorem gw_if_eq {x : Int32} {off : Int} {tgt : Nat} (d : decode cc pc = .ok (.ifCond .eq off, 3)) (ht : (pc : Int) + off = (tgt : Int)) (kt : x = 0 → Gww G l cc nL own rt R X Z Wp k0 n0 tgt L S) (kf : ¬ x = 0 → Gww G l cc nL own rt R X Z Wp k0 n0 (pc + 3) L S) : Gww G l cc nL own rt R X Z Wp k0 n0 pc L (.int x :: S) := by
  intro p e s m args below meth c H locs ls C X0 hW hS hl
  exact lv_if_eq C.1 C.2.1 d ht (fun q => kt q p e s m args below meth c H locs ls C X0 hW hS hl) (fun q => kf q p e s m args below meth c H locs ls C X0 hW hS hl)
theorem gw_if_ne {x : Int32} {off : Int} {tgt : Nat} (d : decode cc pc = .ok (.ifCond .ne off, 3)) (ht : (pc : Int) + off = (tgt : Int)) (kt : ¬ x = 0 → Gww G l cc nL own rt R X Z Wp k0 n0 tgt L S) (kf : x = 0 → Gww G l cc nL own rt R X Z Wp k0 n0 (pc + 3) L S) : Gww G l cc nL own rt R X Z Wp k0 n0 pc L (.int x :: S) := by
  intro p e s m args below meth c H locs ls C X0 hW hS hl
  exact lv_if_ne C.1 C.2.1 d ht (fun q => kt q p e s m args below meth c H locs ls C X0 hW hS hl) (fun q => kf q p e s m args below meth c H locs ls C X0 hW hS hl)
theorem gw_if_lt {x : Int32} {off : Int} {tgt : Nat} (d : decode cc pc = .ok (.ifCond .lt off, 3)) (ht : (pc : Int) + off = (tgt : Int)) (kt : x < 0 → Gww G l cc nL own rt R X Z Wp k0 n0 tgt L S) (kf : ¬ x < 0 → Gww G l cc nL own rt R X Z Wp k0 n0 (pc + 3) L S) : Gww G l cc nL own rt R X Z Wp k0 n0 pc L (.int x :: S) := by
  intro p e s m args below meth c H locs ls C X0 hW hS hl
  exact lv_if_lt C.1 C.2.1 d ht (fun q => kt q p e s m args below meth c H locs ls C X0 hW hS hl) (fun q => kf q p e s m args below meth c H locs ls C X0 hW hS hl)
theorem gw_if_ge {x : Int32} {off : Int} {tgt : Nat} (d : decode cc pc = .ok (.ifCond .ge off, 3)) (ht : (pc : Int) + off = (tgt : Int)) (kt : 0 ≤ x → Gww G l cc nL own rt R X Z Wp k0 n0 tgt L S) (kf : ¬ 0 ≤ x → Gww G l cc nL own rt R X Z Wp k0 n0 (pc + 3) L S) : Gww G l cc nL own rt R X Z Wp k0 n0 pc L (.int x :: S) := by
  intro p e s m args below meth c H locs ls C X0 hW hS hl
  exact lv_if_ge C.1 C.2.1 d ht (fun q => kt q p e s m args below meth c H locs ls C X0 hW hS hl) (fun q => kf q p e s m args below meth c H locs ls C X0 hW hS hl)
theorem gw_if_gt {x : Int32} {off : Int} {tgt : Nat} (d : decode cc pc = .ok (.ifCond .gt off, 3)) (ht : (pc : Int) + off = (tgt : Int)) (kt : 0 < x → Gww G l cc nL own rt R X Z Wp k0 n0 tgt L S) (kf : ¬ 0 < x → Gww G l cc nL own rt R X Z Wp k0 n0 (pc + 3) L S) : Gww G l cc nL own rt R X Z Wp k0 n0 pc L (.int x :: S) := by
  intro p e s m args below meth c H locs ls C X0 hW hS hl
  exact lv_if_gt C.1 C.2.1 d ht (fun q => kt q p e s m args below meth c H locs ls C X0 hW hS hl) (fun q => kf q p e s m args below meth c H locs ls C X0 hW hS hl)
theorem gw_if_le {x : Int32} {off : Int} {tgt : Nat} (d : decode cc pc = .ok (.ifCond .le off, 3)) (ht : (pc : Int) + off = (tgt : Int)) (kt : x ≤ 0 → Gww G l cc nL own rt R X Z Wp k0 n0 tgt L S) (kf : ¬ x ≤ 0 → Gww G l cc nL own rt R X Z Wp k0 n0 (pc + 3) L S) : Gww G l cc nL own rt R X Z Wp k0 n0 pc L (.int x :: S) := by
  intro p e s m args below meth c H locs ls C X0 hW hS hl
  exact lv_if_le C.1 C.2.1 d ht (fun q => kt q p e s m args below meth c H locs ls C X0 hW hS hl) (fun q => kf q p e s m args below meth c H locs ls C X0 hW hS hl)
theorem gw_ic_eq {x y : Int32} {off : Int} {tgt : Nat} (d : decode cc pc = .ok (.if_icmp .eq off, 3)) (ht : (pc : Int) + off = (tgt : Int)) (kt : x = y → Gww G l cc nL own rt R X Z Wp k0 n0 tgt L S) (kf : ¬ x = y → Gww G l cc nL own rt R X Z Wp k0 n0 (pc + 3) L S) : Gww G l cc nL own rt R X Z Wp k0 n0 pc L (.int y :: .int x :: S) := by
  intro p e s m args below meth c H locs ls C X0 hW hS hl
  exact lv_icmp_eq C.1 C.2.1 d ht (fun q => kt q p e s m args below meth c H locs ls C X0 hW hS hl) (fun q => kf q p e s m args below meth c H locs ls C X0 hW hS hl)
theorem gw_ic_ne {x y : Int32} {off : Int} {tgt : Nat} (d : decode cc pc = .ok (.if_icmp .ne off, 3)) (ht : (pc : Int) + off = (tgt : Int)) (kt : ¬ x = y → Gww G l cc nL own rt R X Z Wp k0 n0 tgt L S) (kf : x = y → Gww G l cc nL own rt R X Z Wp k0 n0 (pc + 3) L S) : Gww G l cc nL own rt R X Z Wp k0 n0 pc L (.int y :: .int x :: S) := by
  intro p e s m args below meth c H locs ls C X0 hW hS hl
  exact lv_icmp_ne C.1 C.2.1 d ht (fun q => kt q p e s m args below meth c H locs ls C X0 hW hS hl) (fun q => kf q p e s m args below meth c H locs ls C X0 hW hS hl)
theorem gw_ic_lt {x y : Int32} {off : Int} {tgt : Nat} (d : decode cc pc = .ok (.if_icmp .lt off, 3)) (ht : (pc : Int) + off = (tgt : Int)) (kt : x < y → Gww G l cc nL own rt R X Z Wp k0 n0 tgt L S) (kf : ¬ x < y → Gww G l cc nL own rt R X Z Wp k0 n0 (pc + 3) L S) : Gww G l cc nL own rt R X Z Wp k0 n0 pc L (.int y :: .int x :: S) := by
  intro p e s m args below meth c H locs ls C X0 hW hS hl
  exact lv_icmp_lt C.1 C.2.1 d ht (fun q => kt q p e s m args below meth c H locs ls C X0 hW hS hl) (fun q => kf q p e s m args below meth c H locs ls C X0 hW hS hl)
theorem gw_ic_ge {x y : Int32} {off : Int} {tgt : Nat} (d : decode cc pc = .ok (.if_icmp .ge off, 3)) (ht : (pc : Int) + off = (tgt : Int)) (kt : y ≤ x → Gww G l cc nL own rt R X Z Wp k0 n0 tgt L S) (kf : ¬ y ≤ x → Gww G l cc nL own rt R X Z Wp k0 n0 (pc + 3) L S) : Gww G l cc nL own rt R X Z Wp k0 n0 pc L (.int y :: .int x :: S) := by
  intro p e s m args below meth c H locs ls C X0 hW hS hl
  exact lv_icmp_ge C.1 C.2.1 d ht (fun q => kt q p e s m args below meth c H locs ls C X0 hW hS hl) (fun q => kf q p e s m args below meth c H locs ls C X0 hW hS hl)
theorem gw_ic_gt {x y : Int32} {off : Int} {tgt : Nat} (d : decode cc pc = .ok (.if_icmp .gt off, 3)) (ht : (pc : Int) + off = (tgt : Int)) (kt : y < x → Gww G l cc nL own rt R X Z Wp k0 n0 tgt L S) (kf : ¬ y < x → Gww G l cc nL own rt R X Z Wp k0 n0 (pc + 3) L S) : Gww G l cc nL own rt R X Z Wp k0 n0 pc L (.int y :: .int x :: S) := by
  intro p e s m args below meth c H locs ls C X0 hW hS hl
  exact lv_icmp_gt C.1 C.2.1 d ht (fun q => kt q p e s m args below meth c H locs ls C X0 hW hS hl) (fun q => kf q p e s m args below meth c H locs ls C X0 hW hS hl)
theorem gw_ic_le {x y : Int32} {off : Int} {tgt : Nat} (d : decode cc pc = .ok (.if_icmp .le off, 3)) (ht : (pc : Int) + off = (tgt : Int)) (kt : x ≤ y → Gww G l cc nL own rt R X Z Wp k0 n0 tgt L S) (kf : ¬ x ≤ y → Gww G l cc nL own rt R X Z Wp k0 n0 (pc + 3) L S) : Gww G l cc nL own rt R X Z Wp k0 n0 pc L (.int y :: .int x :: S) := by
  intro p e s m args below meth c H locs ls C X0 hW hS hl
  exact lv_icmp_le C.1 C.2.1 d ht (fun q => kt q p e s m args below meth c H locs ls C X0 hW hS hl) (fun q => kf q p e s m args below meth c H locs ls C X0 hW hS hl)
theorem gw_iload {i : Nat} {x : Int32} (hL : L[i]? = some (some (.int x))) (d : decode cc pc = .ok (.iload i, 2)) (k : Gww G l cc nL own rt R X Z Wp k0 n0 (pc + 2) L (.int x :: S)) : Gww G l cc nL own rt R X Z Wp k0 n0 pc L S := by
  intro p e s m args below meth c H locs ls C X0 hW hS hl
  exact lv_iload C.1 C.2.1 d (asL_at hl hL) (k p e s m args below meth c H locs ls C X0 hW hS hl)
theorem gw_iload_n {i : Fin 4} {x : Int32} (hL : L[(i : Nat)]? = some (some (.int x))) (d : decode cc pc = .ok (.iload_n i, 1)) (k : Gww G l cc nL own rt R X Z Wp k0 n0 (pc + 1) L (.int x :: S)) : Gww G l cc nL own rt R X Z Wp k0 n0 pc L S := by
  intro p e s m args below meth c H locs ls C X0 hW hS hl
  exact lv_iload_n C.1 C.2.1 d rfl (asL_at hl hL) (k p e s m args below meth c H locs ls C X0 hW hS hl)
theorem gw_lload {i : Nat} {x : Int64} (hL : L[i]? = some (some (.long x))) (d : decode cc pc = .ok (.lload i, 2)) (k : Gww G l cc nL own rt R X Z Wp k0 n0 (pc + 2) L (.long x :: S)) : Gww G l cc nL own rt R X Z Wp k0 n0 pc L S := by
  intro p e s m args below meth c H locs ls C X0 hW hS hl
  exact lv_lload C.1 C.2.1 d (asL_at hl hL) (k p e s m args below meth c H locs ls C X0 hW hS hl)
theorem gw_lload_n {i : Fin 4} {x : Int64} (hL : L[(i : Nat)]? = some (some (.long x))) (d : decode cc pc = .ok (.lload_n i, 1)) (k : Gww G l cc nL own rt R X Z Wp k0 n0 (pc + 1) L (.long x :: S)) : Gww G l cc nL own rt R X Z Wp k0 n0 pc L S := by
  intro p e s m args below meth c H locs ls C X0 hW hS hl
  exact lv_lload_n C.1 C.2.1 d rfl (asL_at hl hL) (k p e s m args below meth c H locs ls C X0 hW hS hl)
theorem gw_aload {i : Nat} {x : Nat} (hL : L[i]? = some (some (.ref x))) (d : decode cc pc = .ok (.aload i, 2)) (k : Gww G l cc nL own rt R X Z Wp k0 n0 (pc + 2) L (.ref x :: S)) : Gww G l cc nL own rt R X Z Wp k0 n0 pc L S := by
  intro p e s m args below meth c H locs ls C X0 hW hS hl
  exact lv_aload C.1 C.2.1 d (asL_at hl hL) (k p e s m args below meth c H locs ls C X0 hW hS hl)
theorem gw_aload_n {i : Fin 4} {x : Nat} (hL : L[(i : Nat)]? = some (some (.ref x))) (d : decode cc pc = .ok (.aload_n i, 1)) (k : Gww G l cc nL own rt R X Z Wp k0 n0 (pc + 1) L (.ref x :: S)) : Gww G l cc nL own rt R X Z Wp k0 n0 pc L S := by
  intro p e s m args below meth c H locs ls C X0 hW hS hl
  exact lv_aload_n C.1 C.2.1 d rfl (asL_at hl hL) (k p e s m args below meth c H locs ls C X0 hW hS hl)
theorem gw_istore {i : Nat} {x : Int32} (hp : npv L i) (hn : i < nL) (d : decode cc pc = .ok (.istore i, 2)) (k : Gww G l cc nL own rt R X Z Wp k0 n0 (pc + 2) (L.set i (some (.int x))) S) : Gww G l cc nL own rt R X Z Wp k0 n0 pc L (.int x :: S) := by
  intro p e s m args below meth c H locs ls C X0 hW hS hl
  exact lv_istore C.1 C.2.1 d hl hn rfl (fun ls' hl' => k p e s m args below meth c H locs ls' C X0 hW hS (asL_st1 hp hl'))
theorem gw_istore_n {i : Fin 4} {x : Int32} (hp : npv L i) (hn : (i : Nat) < nL) (d : decode cc pc = .ok (.istore_n i, 1)) (k : Gww G l cc nL own rt R X Z Wp k0 n0 (pc + 1) (L.set i (some (.int x))) S) : Gww G l cc nL own rt R X Z Wp k0 n0 pc L (.int x :: S) := by
  intro p e s m args below meth c H locs ls C X0 hW hS hl
  exact lv_istore_n C.1 C.2.1 d rfl hl hn rfl (fun ls' hl' => k p e s m args below meth c H locs ls' C X0 hW hS (asL_st1 hp hl'))
theorem gw_astore {i : Nat} {x : Nat} (hp : npv L i) (hn : i < nL) (d : decode cc pc = .ok (.astore i, 2)) (k : Gww G l cc nL own rt R X Z Wp k0 n0 (pc + 2) (L.set i (some (.ref x))) S) : Gww G l cc nL own rt R X Z Wp k0 n0 pc L (.ref x :: S) := by
  intro p e s m args below meth c H locs ls C X0 hW hS hl
  exact lv_astore C.1 C.2.1 d hl hn rfl (fun ls' hl' => k p e s m args below meth c H locs ls' C X0 hW hS (asL_st1 hp hl'))
theorem gw_astore_n {i : Fin 4} {x : Nat} (hp : npv L i) (hn : (i : Nat) < nL) (d : decode cc pc = .ok (.astore_n i, 1)) (k : Gww G l cc nL own rt R X Z Wp k0 n0 (pc + 1) (L.set i (some (.ref x))) S) : Gww G l cc nL own rt R X Z Wp k0 n0 pc L (.ref x :: S) := by
  intro p e s m args below meth c H locs ls C X0 hW hS hl
  exact lv_astore_n C.1 C.2.1 d rfl hl hn rfl (fun ls' hl' => k p e s m args below meth c H locs ls' C X0 hW hS (asL_st1 hp hl'))
theorem gw_lstore {i : Nat} {x : Int64} (hp : npv L i) (hn : i + 1 < nL) (d : decode cc pc = .ok (.lstore i, 2)) (k : Gww G l cc nL own rt R X Z Wp k0 n0 (pc + 2) ((L.set i (some (.long x))).set (i + 1) none) S) : Gww G l cc nL own rt R X Z Wp k0 n0 pc L (.long x :: S) := by
  intro p e s m args below meth c H locs ls C X0 hW hS hl
  exact lv_lstore C.1 C.2.1 d hl hn rfl (fun ls' hl' => k p e s m args below meth c H locs ls' C X0 hW hS (asL_st2 hp hl'))
theorem gw_lstore_n {i : Fin 4} {x : Int64} (hp : npv L i) (hn : (i : Nat) + 1 < nL) (d : decode cc pc = .ok (.lstore_n i, 1)) (k : Gww G l cc nL own rt R X Z Wp k0 n0 (pc + 1) ((L.set i (some (.long x))).set (i + 1) none) S) : Gww G l cc nL own rt R X Z Wp k0 n0 pc L (.long x :: S) := by
  intro p e s m args below meth c H locs ls C X0 hW hS hl
  exact lv_lstore_n C.1 C.2.1 d rfl hl hn rfl (fun ls' hl' => k p e s m args below meth c H locs ls' C X0 hW hS (asL_st2 hp hl'))
theorem gw_iinc {i : Nat} {n : Int} {x v : Int32} (hL : L[i]? = some (some (.int x))) (hv : x + Int32.ofInt n = v) (hp : npv L i) (hn : i < nL) (d : decode cc pc = .ok (.iinc i n, 3)) (k : Gww G l cc nL own rt R X Z Wp k0 n0 (pc + 3) (L.set i (some (.int v))) S) : Gww G l cc nL own rt R X Z Wp k0 n0 pc L S := by
  intro p e s m args below meth c H locs ls C X0 hW hS hl
  obtain ⟨kk, hkk⟩ := List.getElem?_of_mem ((asL_mem L 0 i (.int x)).mpr ⟨Nat.zero_le _, by simpa using hL⟩)
  exact lv_iinc C.1 C.2.1 d hl hkk hv hn rfl (fun ls' hl' => k p e s m args below meth c H locs ls' C X0 hW hS (asL_st1 hp hl'))
theorem gw_wk {L' : List (Option Value)} (hw : wkL L' L) (k : Gww G l cc nL own rt R X Z Wp k0 n0 pc L' S) : Gww G l cc nL own rt R X Z Wp k0 n0 pc L S := by
  intro p e s m args below meth c H locs ls C X0 hW hS hl
  exact k p e s m args below meth c H locs ls C X0 hW hS (wkL_has hw hl)
end GW
/-! ===== the world: 123 cells, what each is, what each field holds ===== -/
def k_rr (G : KW) (k : Nat) : Value := .ref (gad G k)
def k_sr (G : KW) (t : Nat) : Value := .ref (sad G t)
def k_kd (k : Nat) : Nat := [6, 4, 8, 8, 8, 8, 8, 8, 8, 8, 8, 8, 8, 8, 8, 4, 8, 8, 8, 8, 8, 8, 8, 8, 8, 8, 8, 8, 8, 4, 8, 8, 8, 8, 8, 8, 8, 8, 8, 8, 8, 8, 8, 4, 8, 8, 8, 8, 8, 8, 8, 8, 8, 8, 8, 8, 8, 9, 1, 8, 3, 8, 8, 8, 0, 5, 4, 8, 8, 8, 8, 8, 8, 8, 8, 8, 8, 8, 8, 8, 8, 8, 2, 4, 8, 8, 8, 8, 8, 8, 8, 8, 8, 8, 8, 8, 8, 8, 8, 8, 7, 8, 8, 8, 8, 8, 8, 8, 8, 8, 8, 8, 8, 8, 8, 8, 8, 8, 8, 8, 9, 8, 9].getD k 99
def k_ln (k : Nat) : Nat := [0, 0, 5, 5, 5, 5, 5, 5, 5, 5, 5, 5, 5, 6, 6, 0, 5, 5, 5, 5, 5, 5, 5, 5, 5, 5, 5, 6, 6, 0, 5, 5, 5, 5, 5, 5, 5, 5, 5, 5, 5, 6, 6, 0, 5, 5, 5, 5, 5, 5, 5, 5, 5, 5, 5, 6, 6, 2, 0, 60, 0, 5, 5, 5, 0, 0, 0, 5, 5, 5, 5, 5, 5, 5, 5, 5, 5, 5, 6, 6, 5, 98, 0, 0, 5, 5, 5, 5, 5, 5, 5, 5, 5, 5, 5, 6, 6, 243, 243, 243, 0, 5, 5, 5, 5, 5, 5, 5, 5, 5, 5, 5, 12, 60, 5, 5, 5, 5, 5, 7776, 3125, 200, 2].getD k 0
def k_tw (k : Nat) : Prop := k = 1 ∨ k = 15 ∨ k = 29 ∨ k = 43 ∨ k = 66 ∨ k = 83
def k_fv (G : KW) (ci k : Nat) (f : Nat → Int32) : List Value := match ci with
  | 0 => [k_rr G 60, .int (f 1), .int (f 2)]
  | 1 => [k_rr G 59, .int (f 1)]
  | 2 => [k_rr G 60, k_rr G 83, k_rr G 97, k_rr G 98, k_rr G 99]
  | 3 => [k_rr G 61, k_rr G 62, k_rr G 63]
  | 4 => [.int (f 0), .int (f 1), .int (f 2), .int (f 3), k_rr G (k + 1), k_rr G (k + 2), k_rr G (k + 3), k_rr G (k + 4), k_rr G (k + 5), k_rr G (k + 6), k_rr G (k + 7), k_rr G (k + 8), k_rr G (k + 9), k_rr G (k + 10), k_rr G (k + 11), k_rr G (k + 12), k_rr G (k + 13)]
  | 5 => [k_rr G 60, k_rr G 66, k_rr G 80, k_rr G 81, .int (f 4)]
  | 6 => [k_rr G 1, k_rr G 15, k_rr G 29, k_rr G 43, k_rr G 57, k_rr G 58, k_rr G 60, k_rr G 64, k_rr G 65, k_rr G 82]
  | 7 => [.int (f 0), .int (f 1), k_rr G 101, k_rr G 102, k_rr G 103, k_rr G 104, k_rr G 105, .int (f 7), k_rr G 106, k_rr G 107, k_rr G 108, k_rr G 109, k_rr G 110, k_rr G 111, .int (f 14), k_rr G 112, .int (f 16), k_rr G 113, k_rr G 114, k_rr G 115, k_rr G 116, k_rr G 117, k_rr G 118, .int (f 23), .int (f 24), .int (f 25), k_rr G 119, k_rr G 120, k_rr G 121, k_rr G 122]
  | _ => []
theorem isT_kd {k : Nat} (h : k_tw k) : k < 123 ∧ k_kd k = 4 := by rcases h with rfl | rfl | rfl | rfl | rfl | rfl <;> decide
theorem isT_a1 {k : Nat} (h : k_tw k) : k + 1 < 123 ∧ k_kd (k + 1) = 8 ∧ k_ln (k + 1) = 5 := by rcases h with rfl | rfl | rfl | rfl | rfl | rfl <;> decide
theorem isT_a2 {k : Nat} (h : k_tw k) : k + 2 < 123 ∧ k_kd (k + 2) = 8 ∧ k_ln (k + 2) = 5 := by rcases h with rfl | rfl | rfl | rfl | rfl | rfl <;> decide
theorem isT_a3 {k : Nat} (h : k_tw k) : k + 3 < 123 ∧ k_kd (k + 3) = 8 ∧ k_ln (k + 3) = 5 := by rcases h with rfl | rfl | rfl | rfl | rfl | rfl <;> decide
theorem isT_a4 {k : Nat} (h : k_tw k) : k + 4 < 123 ∧ k_kd (k + 4) = 8 ∧ k_ln (k + 4) = 5 := by rcases h with rfl | rfl | rfl | rfl | rfl | rfl <;> decide
theorem isT_a5 {k : Nat} (h : k_tw k) : k + 5 < 123 ∧ k_kd (k + 5) = 8 ∧ k_ln (k + 5) = 5 := by rcases h with rfl | rfl | rfl | rfl | rfl | rfl <;> decide
theorem isT_a6 {k : Nat} (h : k_tw k) : k + 6 < 123 ∧ k_kd (k + 6) = 8 ∧ k_ln (k + 6) = 5 := by rcases h with rfl | rfl | rfl | rfl | rfl | rfl <;> decide
theorem isT_a7 {k : Nat} (h : k_tw k) : k + 7 < 123 ∧ k_kd (k + 7) = 8 ∧ k_ln (k + 7) = 5 := by rcases h with rfl | rfl | rfl | rfl | rfl | rfl <;> decide
theorem isT_a8 {k : Nat} (h : k_tw k) : k + 8 < 123 ∧ k_kd (k + 8) = 8 ∧ k_ln (k + 8) = 5 := by rcases h with rfl | rfl | rfl | rfl | rfl | rfl <;> decide
theorem isT_a9 {k : Nat} (h : k_tw k) : k + 9 < 123 ∧ k_kd (k + 9) = 8 ∧ k_ln (k + 9) = 5 := by rcases h with rfl | rfl | rfl | rfl | rfl | rfl <;> decide
theorem isT_a10 {k : Nat} (h : k_tw k) : k + 10 < 123 ∧ k_kd (k + 10) = 8 ∧ k_ln (k + 10) = 5 := by rcases h with rfl | rfl | rfl | rfl | rfl | rfl <;> decide
theorem isT_a11 {k : Nat} (h : k_tw k) : k + 11 < 123 ∧ k_kd (k + 11) = 8 ∧ k_ln (k + 11) = 5 := by rcases h with rfl | rfl | rfl | rfl | rfl | rfl <;> decide
theorem isT_a12 {k : Nat} (h : k_tw k) : k + 12 < 123 ∧ k_kd (k + 12) = 8 ∧ k_ln (k + 12) = 6 := by rcases h with rfl | rfl | rfl | rfl | rfl | rfl <;> decide
theorem isT_a13 {k : Nat} (h : k_tw k) : k + 13 < 123 ∧ k_kd (k + 13) = 8 ∧ k_ln (k + 13) = 6 := by rcases h with rfl | rfl | rfl | rfl | rfl | rfl <;> decide
def k_en (G : KW) (k : Nat) (f : Nat → Int32) : va_E := if k_kd k = 8 then .inl (G.2.2.1.1, k_ln k, .inl f) else if k_kd k = 9 then .inl (G.2.2.1.2, k_ln k, .inl f) else .inr (k_kd k, k_fv G (k_kd k) k f)
def k_wl (G : KW) (σ : Sg) : va_W := (List.range 123).map (fun k => (gad G k, k_en G k (σ k)))
def k_up (σ : Sg) (k j : Nat) (x : Int32) : Sg := fun k' => if k' = k then upd (σ k) j x else σ k'
theorem wl_at {G : KW} {σ : Sg} {k : Nat} (hk : k < 123) : (k_wl G σ)[k]? = some (gad G k, k_en G k (σ k)) := by
  simp [k_wl, List.getElem?_map, List.getElem?_range, hk]
theorem wl_ups {G : KW} {σ : Sg} {k j : Nat} {x : Int32} : (k_wl G σ).set k (gad G k, k_en G k (upd (σ k) j x)) = k_wl G (k_up σ k j x) := by
  apply List.ext_getElem?
  intro i
  rw [List.getElem?_set]
  by_cases hi : i < 123
  · rw [wl_at hi, wl_at hi]
    by_cases e : k = i
    · subst e
      simp [k_wl, hi, k_up]
    · rw [if_neg e]
      simp [k_up, Ne.symm e]
  · have h1 : ∀ τ : Sg, (k_wl G τ)[i]? = none := fun τ => by simp [k_wl]; omega
    rw [h1, h1]
    split
    · split
      · rename_i h2; simp [k_wl] at h2; omega
      · rfl
    · rfl
theorem entf_a {G : KW} {k : Nat} {f : Nat → Int32} (h : k_kd k = 8) : k_en G k f = .inl (G.2.2.1.1, k_ln k, .inl f) := by simp [k_en, h]
theorem entf_z {G : KW} {k : Nat} {f : Nat → Int32} (h : k_kd k = 9) : k_en G k f = .inl (G.2.2.1.2, k_ln k, .inl f) := by simp [k_en, h]
theorem entf_o {G : KW} {k ci : Nat} {f : Nat → Int32} (h : k_kd k = ci) (h8 : ci < 8) : k_en G k f = .inr (ci, k_fv G ci k f) := by
  subst h
  simp [k_en, show ¬ k_kd k = 8 by omega, show ¬ k_kd k = 9 by omega]
def k_in (i : Int32) (n : Nat) : Bool := decide (¬ (i < 0 ∨ n ≤ i.toNatClampNeg))
theorem inb_in {i : Int32} {n : Nat} (h : k_in i n = true) : vp_in i n := by
  have h2 : ¬ (i < 0 ∨ n ≤ i.toNatClampNeg) := of_decide_eq_true h
  exact h2
def k_oc : Option Value → Nat
  | none => 1
  | some v => v.category
theorem npv_0 {L : List (Option Value)} : npv L 0 := fun j v h => by omega
theorem npv_s {L : List (Option Value)} {i : Nat} {x : Option Value} (hx : L[i]? = some x) (h : k_oc x = 1) : npv L (i + 1) := by
  intro j v e hj
  have : j = i := by omega
  subst this
  rw [hx] at hj
  cases hj
  exact h
/-! ===== the judgement with an answer ===== -/
def wd (G : KW) (σ : Sg) : Heap → Prop := fun H => va_P G.2.1 cls8 (k_wl G σ) H ∧ va_D (gA G) (k_wl G σ)
def Okg {α : Type} (G : KW) (l : Launch) (cc : ByteArray) (nL : Nat) (own : String) (rt : Option FieldType) (R : Room) (X : State → Array Value → Method → Prop) (Z : α → List Frame → Array Value → State → State → Prop) (k0 n0 pc : Nat) (L : List (Option Value)) (S : List Value) (σ : Sg) (E : Option α) : Prop :=
  ∀ a, E = some a → Gww G l cc nL own rt R X (Z a) (wd G σ) k0 n0 pc L S
def mX : State → Array Value → Method → Prop := fun _ _ _ => True
def mZ {α : Type} (G : KW) (cv : α → Option Value × Sg) (a : α) (below : List Frame) (args : Array Value) (s : State) : State → Prop := MQ below (QQq G (fun v w => v = (cv a).1 ∧ w = k_wl G (cv a).2)) args s 0 0 (gA G)
abbrev Okk {α : Type} (G : KW) (l : Launch) (cc : ByteArray) (nL : Nat) (own : String) (rt : Option FieldType) (R : Room) (cv : α → Option Value × Sg) (pc : Nat) (L : List (Option Value)) (S : List Value) (σ : Sg) (E : Option α) : Prop :=
  Okg G l cc nL own rt R mX (mZ G cv) 0 0 pc L S σ E
def ccI : Int32 × Sg → Option Value × Sg := fun r => (some (.int r.1), r.2)
def ccJ : Int64 × Sg → Option Value × Sg := fun r => (some (.long r.1), r.2)
def ccV : Sg → Option Value × Sg := fun s => (none, s)
def ccR (G : KW) : Nat × Sg → Option Value × Sg := fun r => (some (k_rr G r.1), r.2)
def e_gd {α : Type} (b : Bool) (E : Option α) : Option α := if b then E else none
def e_lt {α β : Type} (x : β) (F : β → Option α) : Option α := F x
def e_wr {α : Type} (σ : Sg) (k : Nat) (i : Int32) (n : Nat) (x : Int32) (F : Sg → Option α) : Option α := if k_in i n then F (k_up σ k i.toNatClampNeg x) else none
def e_rz (x : Int32) (σ : Sg) : Option (Int32 × Sg) := if x = 0 ∨ x = 1 then some (x, σ) else none
def e_sw {α : Type} (x : Int32) (n : Nat) (f : Nat → Option α) (d : Option α) : Option α := if k_in x n then f x.toNatClampNeg else d
def FLk (own : String) (index ci j : Nat) (C : String) (T : u_T) (N : Nat) : Prop := cls8[ci]? = some (C, T, N) ∧ (∀ w ∈ u_ws C T N, w ∈ k_gw) ∧ j < N ∧ ((Cond.fieldLink own index (T j).1 (T j).2.1 (T j).2.2.1 ∈ k_gw) ∨ ∃ host, Cond.fieldLinkNest own index (T j).1 (T j).2.1 (T j).2.2.1 host ∈ k_nw)
section OK
variable {G : KW} {l : Launch} {cc : ByteArray} {nL : Nat} {own : String} {rt : Option FieldType} {R : Room} {α : Type} {X : State → Array Value → Method → Prop} {Z : α → List Frame → Array Value → State → State → Prop} {k0 n0 pc : Nat} {L : List (Option Value)} {S : List Value} {σ : Sg} {E : Option α}
theorem ok_wk {L' : List (Option Value)} (hw : wkL L' L) (k : Okg G l cc nL own rt R X Z k0 n0 pc L' S σ E) : Okg G l cc nL own rt R X Z k0 n0 pc L S σ E := fun a ha => gw_wk hw (k a ha)
theorem ok_lt {β : Type} {x : β} {F : β → Option α} (k : Okg G l cc nL own rt R X Z k0 n0 pc L S σ (F x)) : Okg G l cc nL own rt R X Z k0 n0 pc L S σ (e_lt x F) := k
theorem ok_gd {b : Bool} (k : b = true → Okg G l cc nL own rt R X Z k0 n0 pc L S σ E) : Okg G l cc nL own rt R X Z k0 n0 pc L S σ (e_gd b E) := by
  intro a ha
  cases b with
  | false => simp [e_gd] at ha
  | true => exact k rfl a ha

theorem ok_iadd {x y : Int32} (d : decode cc pc = .ok (.iadd, 1)) (k : Okg G l cc nL own rt R X Z k0 n0 (pc + 1) L (.int (x + y) :: S) σ E) : Okg G l cc nL own rt R X Z k0 n0 pc L (.int y :: .int x :: S) σ E := fun a ha => gw_iadd d  (k a ha)
theorem ok_isub {x y : Int32} (d : decode cc pc = .ok (.isub, 1)) (k : Okg G l cc nL own rt R X Z k0 n0 (pc + 1) L (.int (x - y) :: S) σ E) : Okg G l cc nL own rt R X Z k0 n0 pc L (.int y :: .int x :: S) σ E := fun a ha => gw_isub d  (k a ha)
theorem ok_imul {x y : Int32} (d : decode cc pc = .ok (.imul, 1)) (k : Okg G l cc nL own rt R X Z k0 n0 (pc + 1) L (.int (x * y) :: S) σ E) : Okg G l cc nL own rt R X Z k0 n0 pc L (.int y :: .int x :: S) σ E := fun a ha => gw_imul d  (k a ha)
theorem ok_iand {x y : Int32} (d : decode cc pc = .ok (.iand, 1)) (k : Okg G l cc nL own rt R X Z k0 n0 (pc + 1) L (.int (x &&& y) :: S) σ E) : Okg G l cc nL own rt R X Z k0 n0 pc L (.int y :: .int x :: S) σ E := fun a ha => gw_iand d  (k a ha)
theorem ok_ior {x y : Int32} (d : decode cc pc = .ok (.ior, 1)) (k : Okg G l cc nL own rt R X Z k0 n0 (pc + 1) L (.int (x ||| y) :: S) σ E) : Okg G l cc nL own rt R X Z k0 n0 pc L (.int y :: .int x :: S) σ E := fun a ha => gw_ior d  (k a ha)
theorem ok_ixor {x y : Int32} (d : decode cc pc = .ok (.ixor, 1)) (k : Okg G l cc nL own rt R X Z k0 n0 (pc + 1) L (.int (x ^^^ y) :: S) σ E) : Okg G l cc nL own rt R X Z k0 n0 pc L (.int y :: .int x :: S) σ E := fun a ha => gw_ixor d  (k a ha)
theorem ok_ishl {x y : Int32} (d : decode cc pc = .ok (.ishl, 1)) (k : Okg G l cc nL own rt R X Z k0 n0 (pc + 1) L (.int (jsl x y) :: S) σ E) : Okg G l cc nL own rt R X Z k0 n0 pc L (.int y :: .int x :: S) σ E := fun a ha => gw_ishl d  (k a ha)
theorem ok_ishr {x y : Int32} (d : decode cc pc = .ok (.ishr, 1)) (k : Okg G l cc nL own rt R X Z k0 n0 (pc + 1) L (.int (jsr x y) :: S) σ E) : Okg G l cc nL own rt R X Z k0 n0 pc L (.int y :: .int x :: S) σ E := fun a ha => gw_ishr d  (k a ha)
theorem ok_iushr {x y : Int32} (d : decode cc pc = .ok (.iushr, 1)) (k : Okg G l cc nL own rt R X Z k0 n0 (pc + 1) L (.int (jus x y) :: S) σ E) : Okg G l cc nL own rt R X Z k0 n0 pc L (.int y :: .int x :: S) σ E := fun a ha => gw_iushr d  (k a ha)
theorem ok_idiv {x y : Int32} (d : decode cc pc = .ok (.idiv, 1)) (hne : ¬ y = 0) (k : Okg G l cc nL own rt R X Z k0 n0 (pc + 1) L (.int (x / y) :: S) σ E) : Okg G l cc nL own rt R X Z k0 n0 pc L (.int y :: .int x :: S) σ E := fun a ha => gw_idiv d hne (k a ha)
theorem ok_irem {x y : Int32} (d : decode cc pc = .ok (.irem, 1)) (hne : ¬ y = 0) (k : Okg G l cc nL own rt R X Z k0 n0 (pc + 1) L (.int (jrm x y) :: S) σ E) : Okg G l cc nL own rt R X Z k0 n0 pc L (.int y :: .int x :: S) σ E := fun a ha => gw_irem d hne (k a ha)
theorem ok_ineg {x : Int32} (d : decode cc pc = .ok (.ineg, 1)) (k : Okg G l cc nL own rt R X Z k0 n0 (pc + 1) L (.int (-x) :: S) σ E) : Okg G l cc nL own rt R X Z k0 n0 pc L (.int x :: S) σ E := fun a ha => gw_ineg d  (k a ha)
theorem ok_ladd {x y : Int64} (d : decode cc pc = .ok (.ladd, 1)) (k : Okg G l cc nL own rt R X Z k0 n0 (pc + 1) L (.long (x + y) :: S) σ E) : Okg G l cc nL own rt R X Z k0 n0 pc L (.long y :: .long x :: S) σ E := fun a ha => gw_ladd d  (k a ha)
theorem ok_lmul {x y : Int64} (d : decode cc pc = .ok (.lmul, 1)) (k : Okg G l cc nL own rt R X Z k0 n0 (pc + 1) L (.long (x * y) :: S) σ E) : Okg G l cc nL own rt R X Z k0 n0 pc L (.long y :: .long x :: S) σ E := fun a ha => gw_lmul d  (k a ha)
theorem ok_ldiv {x y : Int64} (d : decode cc pc = .ok (.ldiv, 1)) (hne : ¬ y = 0) (k : Okg G l cc nL own rt R X Z k0 n0 (pc + 1) L (.long (x / y) :: S) σ E) : Okg G l cc nL own rt R X Z k0 n0 pc L (.long y :: .long x :: S) σ E := fun a ha => gw_ldiv d hne (k a ha)
theorem ok_lrem {x y : Int64} (d : decode cc pc = .ok (.lrem, 1)) (hne : ¬ y = 0) (k : Okg G l cc nL own rt R X Z k0 n0 (pc + 1) L (.long (jrl x y) :: S) σ E) : Okg G l cc nL own rt R X Z k0 n0 pc L (.long y :: .long x :: S) σ E := fun a ha => gw_lrem d hne (k a ha)
theorem ok_lcmp {x y : Int64} (d : decode cc pc = .ok (.lcmp, 1)) (k : Okg G l cc nL own rt R X Z k0 n0 (pc + 1) L (.int (lg_cmp x y) :: S) σ E) : Okg G l cc nL own rt R X Z k0 n0 pc L (.long y :: .long x :: S) σ E := fun a ha => gw_lcmp d  (k a ha)
theorem ok_i2l {x : Int32} (d : decode cc pc = .ok (.i2l, 1)) (k : Okg G l cc nL own rt R X Z k0 n0 (pc + 1) L (.long x.toInt64 :: S) σ E) : Okg G l cc nL own rt R X Z k0 n0 pc L (.int x :: S) σ E := fun a ha => gw_i2l d  (k a ha)
theorem ok_iconst {n : Int} {v : Int32} (d : decode cc pc = .ok (.iconst n, 1)) (hv : Int32.ofInt n = v) (k : Okg G l cc nL own rt R X Z k0 n0 (pc + 1) L (.int v :: S) σ E) : Okg G l cc nL own rt R X Z k0 n0 pc L (S) σ E := fun a ha => gw_iconst d hv (k a ha)
theorem ok_bipush {n : Int} {v : Int32} (d : decode cc pc = .ok (.bipush n, 2)) (hv : (Int8.ofInt n).toInt32 = v) (k : Okg G l cc nL own rt R X Z k0 n0 (pc + 2) L (.int v :: S) σ E) : Okg G l cc nL own rt R X Z k0 n0 pc L (S) σ E := fun a ha => gw_bipush d hv (k a ha)
theorem ok_sipush {n : Int} {v : Int32} (d : decode cc pc = .ok (.sipush n, 3)) (hv : (Int16.ofInt n).toInt32 = v) (k : Okg G l cc nL own rt R X Z k0 n0 (pc + 3) L (.int v :: S) σ E) : Okg G l cc nL own rt R X Z k0 n0 pc L (S) σ E := fun a ha => gw_sipush d hv (k a ha)
theorem ok_lconst {n : Fin 2} {v : Int64} (d : decode cc pc = .ok (.lconst n, 1)) (hv : Int64.ofNat (n : Nat) = v) (k : Okg G l cc nL own rt R X Z k0 n0 (pc + 1) L (.long v :: S) σ E) : Okg G l cc nL own rt R X Z k0 n0 pc L (S) σ E := fun a ha => gw_lconst d hv (k a ha)
theorem ok_ldc {i : Nat} {v : Int32} (d : decode cc pc = .ok (.ldc i, 2)) (hw : Cond.constant own i v ∈ k_gw) (k : Okg G l cc nL own rt R X Z k0 n0 (pc + 2) L (.int v :: S) σ E) : Okg G l cc nL own rt R X Z k0 n0 pc L (S) σ E := fun a ha => gw_ldc d hw (k a ha)
theorem ok_ldcw {i : Nat} {v : Int32} (d : decode cc pc = .ok (.ldc_w i, 3)) (hw : Cond.constant own i v ∈ k_gw) (k : Okg G l cc nL own rt R X Z k0 n0 (pc + 3) L (.int v :: S) σ E) : Okg G l cc nL own rt R X Z k0 n0 pc L (S) σ E := fun a ha => gw_ldcw d hw (k a ha)
theorem ok_ldc2 {i : Nat} {v : Int64} (d : decode cc pc = .ok (.ldc2_w i, 3)) (hw : Cond.constantLong own i v ∈ k_gw) (k : Okg G l cc nL own rt R X Z k0 n0 (pc + 3) L (.long v :: S) σ E) : Okg G l cc nL own rt R X Z k0 n0 pc L (S) σ E := fun a ha => gw_ldc2 d hw (k a ha)
theorem ok_dup {v : Value} (d : decode cc pc = .ok (.dup, 1)) (hc : v.category = 1) (k : Okg G l cc nL own rt R X Z k0 n0 (pc + 1) L (v :: v :: S) σ E) : Okg G l cc nL own rt R X Z k0 n0 pc L (v :: S) σ E := fun a ha => gw_dup d hc (k a ha)
theorem ok_pop {v : Value} (d : decode cc pc = .ok (.pop, 1)) (hc : v.category = 1) (k : Okg G l cc nL own rt R X Z k0 n0 (pc + 1) L (S) σ E) : Okg G l cc nL own rt R X Z k0 n0 pc L (v :: S) σ E := fun a ha => gw_pop d hc (k a ha)
theorem ok_dup2 {v w : Value} (d : decode cc pc = .ok (.dup2, 1)) (hc : v.category = 1) (hc2 : w.category = 1) (k : Okg G l cc nL own rt R X Z k0 n0 (pc + 1) L (v :: w :: v :: w :: S) σ E) : Okg G l cc nL own rt R X Z k0 n0 pc L (v :: w :: S) σ E := fun a ha => gw_dup2 d hc hc2 (k a ha)
theorem ok_goto {off : Int} {tgt : Nat} (d : decode cc pc = .ok (.goto off, 3)) (ht : (pc : Int) + off = (tgt : Int)) (k : Okg G l cc nL own rt R X Z k0 n0 tgt L S σ E) : Okg G l cc nL own rt R X Z k0 n0 pc L S σ E := fun a ha => gw_goto d ht (k a ha)
theorem ok_if_eq {x : Int32} {off : Int} {tgt : Nat} {E1 E2 : Option α} (d : decode cc pc = .ok (.ifCond .eq off, 3)) (ht : (pc : Int) + off = (tgt : Int)) (kt : Okg G l cc nL own rt R X Z k0 n0 tgt L S σ E1) (kf : Okg G l cc nL own rt R X Z k0 n0 (pc + 3) L S σ E2) : Okg G l cc nL own rt R X Z k0 n0 pc L (.int x :: S) σ (if x = 0 then E1 else E2) := fun a ha => gw_if_eq d ht (fun q => kt a ((if_pos q).symm.trans ha)) (fun q => kf a ((if_neg q).symm.trans ha))
theorem ok_if_ne {x : Int32} {off : Int} {tgt : Nat} {E1 E2 : Option α} (d : decode cc pc = .ok (.ifCond .ne off, 3)) (ht : (pc : Int) + off = (tgt : Int)) (kt : Okg G l cc nL own rt R X Z k0 n0 tgt L S σ E2) (kf : Okg G l cc nL own rt R X Z k0 n0 (pc + 3) L S σ E1) : Okg G l cc nL own rt R X Z k0 n0 pc L (.int x :: S) σ (if x = 0 then E1 else E2) := fun a ha => gw_if_ne d ht (fun q => kt a ((if_neg q).symm.trans ha)) (fun q => kf a ((if_pos q).symm.trans ha))
theorem ok_if_lt {x : Int32} {off : Int} {tgt : Nat} {E1 E2 : Option α} (d : decode cc pc = .ok (.ifCond .lt off, 3)) (ht : (pc : Int) + off = (tgt : Int)) (kt : Okg G l cc nL own rt R X Z k0 n0 tgt L S σ E1) (kf : Okg G l cc nL own rt R X Z k0 n0 (pc + 3) L S σ E2) : Okg G l cc nL own rt R X Z k0 n0 pc L (.int x :: S) σ (if x < 0 then E1 else E2) := fun a ha => gw_if_lt d ht (fun q => kt a ((if_pos q).symm.trans ha)) (fun q => kf a ((if_neg q).symm.trans ha))
theorem ok_if_ge {x : Int32} {off : Int} {tgt : Nat} {E1 E2 : Option α} (d : decode cc pc = .ok (.ifCond .ge off, 3)) (ht : (pc : Int) + off = (tgt : Int)) (kt : Okg G l cc nL own rt R X Z k0 n0 tgt L S σ E1) (kf : Okg G l cc nL own rt R X Z k0 n0 (pc + 3) L S σ E2) : Okg G l cc nL own rt R X Z k0 n0 pc L (.int x :: S) σ (if 0 ≤ x then E1 else E2) := fun a ha => gw_if_ge d ht (fun q => kt a ((if_pos q).symm.trans ha)) (fun q => kf a ((if_neg q).symm.trans ha))
theorem ok_if_gt {x : Int32} {off : Int} {tgt : Nat} {E1 E2 : Option α} (d : decode cc pc = .ok (.ifCond .gt off, 3)) (ht : (pc : Int) + off = (tgt : Int)) (kt : Okg G l cc nL own rt R X Z k0 n0 tgt L S σ E1) (kf : Okg G l cc nL own rt R X Z k0 n0 (pc + 3) L S σ E2) : Okg G l cc nL own rt R X Z k0 n0 pc L (.int x :: S) σ (if 0 < x then E1 else E2) := fun a ha => gw_if_gt d ht (fun q => kt a ((if_pos q).symm.trans ha)) (fun q => kf a ((if_neg q).symm.trans ha))
theorem ok_if_le {x : Int32} {off : Int} {tgt : Nat} {E1 E2 : Option α} (d : decode cc pc = .ok (.ifCond .le off, 3)) (ht : (pc : Int) + off = (tgt : Int)) (kt : Okg G l cc nL own rt R X Z k0 n0 tgt L S σ E1) (kf : Okg G l cc nL own rt R X Z k0 n0 (pc + 3) L S σ E2) : Okg G l cc nL own rt R X Z k0 n0 pc L (.int x :: S) σ (if x ≤ 0 then E1 else E2) := fun a ha => gw_if_le d ht (fun q => kt a ((if_pos q).symm.trans ha)) (fun q => kf a ((if_neg q).symm.trans ha))
theorem ok_ic_eq {x y : Int32} {off : Int} {tgt : Nat} {E1 E2 : Option α} (d : decode cc pc = .ok (.if_icmp .eq off, 3)) (ht : (pc : Int) + off = (tgt : Int)) (kt : Okg G l cc nL own rt R X Z k0 n0 tgt L S σ E1) (kf : Okg G l cc nL own rt R X Z k0 n0 (pc + 3) L S σ E2) : Okg G l cc nL own rt R X Z k0 n0 pc L (.int y :: .int x :: S) σ (if x = y then E1 else E2) := fun a ha => gw_ic_eq d ht (fun q => kt a ((if_pos q).symm.trans ha)) (fun q => kf a ((if_neg q).symm.trans ha))
theorem ok_ic_ne {x y : Int32} {off : Int} {tgt : Nat} {E1 E2 : Option α} (d : decode cc pc = .ok (.if_icmp .ne off, 3)) (ht : (pc : Int) + off = (tgt : Int)) (kt : Okg G l cc nL own rt R X Z k0 n0 tgt L S σ E2) (kf : Okg G l cc nL own rt R X Z k0 n0 (pc + 3) L S σ E1) : Okg G l cc nL own rt R X Z k0 n0 pc L (.int y :: .int x :: S) σ (if x = y then E1 else E2) := fun a ha => gw_ic_ne d ht (fun q => kt a ((if_neg q).symm.trans ha)) (fun q => kf a ((if_pos q).symm.trans ha))
theorem ok_ic_lt {x y : Int32} {off : Int} {tgt : Nat} {E1 E2 : Option α} (d : decode cc pc = .ok (.if_icmp .lt off, 3)) (ht : (pc : Int) + off = (tgt : Int)) (kt : Okg G l cc nL own rt R X Z k0 n0 tgt L S σ E1) (kf : Okg G l cc nL own rt R X Z k0 n0 (pc + 3) L S σ E2) : Okg G l cc nL own rt R X Z k0 n0 pc L (.int y :: .int x :: S) σ (if x < y then E1 else E2) := fun a ha => gw_ic_lt d ht (fun q => kt a ((if_pos q).symm.trans ha)) (fun q => kf a ((if_neg q).symm.trans ha))
theorem ok_ic_ge {x y : Int32} {off : Int} {tgt : Nat} {E1 E2 : Option α} (d : decode cc pc = .ok (.if_icmp .ge off, 3)) (ht : (pc : Int) + off = (tgt : Int)) (kt : Okg G l cc nL own rt R X Z k0 n0 tgt L S σ E1) (kf : Okg G l cc nL own rt R X Z k0 n0 (pc + 3) L S σ E2) : Okg G l cc nL own rt R X Z k0 n0 pc L (.int y :: .int x :: S) σ (if y ≤ x then E1 else E2) := fun a ha => gw_ic_ge d ht (fun q => kt a ((if_pos q).symm.trans ha)) (fun q => kf a ((if_neg q).symm.trans ha))
theorem ok_ic_gt {x y : Int32} {off : Int} {tgt : Nat} {E1 E2 : Option α} (d : decode cc pc = .ok (.if_icmp .gt off, 3)) (ht : (pc : Int) + off = (tgt : Int)) (kt : Okg G l cc nL own rt R X Z k0 n0 tgt L S σ E1) (kf : Okg G l cc nL own rt R X Z k0 n0 (pc + 3) L S σ E2) : Okg G l cc nL own rt R X Z k0 n0 pc L (.int y :: .int x :: S) σ (if y < x then E1 else E2) := fun a ha => gw_ic_gt d ht (fun q => kt a ((if_pos q).symm.trans ha)) (fun q => kf a ((if_neg q).symm.trans ha))
theorem ok_ic_le {x y : Int32} {off : Int} {tgt : Nat} {E1 E2 : Option α} (d : decode cc pc = .ok (.if_icmp .le off, 3)) (ht : (pc : Int) + off = (tgt : Int)) (kt : Okg G l cc nL own rt R X Z k0 n0 tgt L S σ E1) (kf : Okg G l cc nL own rt R X Z k0 n0 (pc + 3) L S σ E2) : Okg G l cc nL own rt R X Z k0 n0 pc L (.int y :: .int x :: S) σ (if x ≤ y then E1 else E2) := fun a ha => gw_ic_le d ht (fun q => kt a ((if_pos q).symm.trans ha)) (fun q => kf a ((if_neg q).symm.trans ha))
theorem ok_iload0 {r : List (Option Value)} {x : Int32} (d : decode cc pc = .ok (.iload_n 0, 1)) (k : Okg G l cc nL own rt R X Z k0 n0 (pc + 1) (some (.int x) :: r) (.int x :: S) σ E) : Okg G l cc nL own rt R X Z k0 n0 pc (some (.int x) :: r) S σ E := fun a ha => gw_iload_n rfl d (k a ha)
theorem ok_lload0 {r : List (Option Value)} {x : Int64} (d : decode cc pc = .ok (.lload_n 0, 1)) (k : Okg G l cc nL own rt R X Z k0 n0 (pc + 1) (some (.long x) :: r) (.long x :: S) σ E) : Okg G l cc nL own rt R X Z k0 n0 pc (some (.long x) :: r) S σ E := fun a ha => gw_lload_n rfl d (k a ha)
theorem ok_aload0 {r : List (Option Value)} {x : Nat} (d : decode cc pc = .ok (.aload_n 0, 1)) (k : Okg G l cc nL own rt R X Z k0 n0 (pc + 1) (some (k_rr G x) :: r) (k_rr G x :: S) σ E) : Okg G l cc nL own rt R X Z k0 n0 pc (some (k_rr G x) :: r) S σ E := fun a ha => gw_aload_n rfl d (k a ha)
theorem ok_istore0 {b : Option Value} {r : List (Option Value)} {x : Int32} (d : decode cc pc = .ok (.istore_n 0, 1)) (hn : 0 < nL) (k : Okg G l cc nL own rt R X Z k0 n0 (pc + 1) (some (.int x) :: r) S σ E) : Okg G l cc nL own rt R X Z k0 n0 pc (b :: r) (.int x :: S) σ E := fun a ha => gw_istore_n npv_0 hn d (k a ha)
theorem ok_astore0 {b : Option Value} {r : List (Option Value)} {x : Nat} (d : decode cc pc = .ok (.astore_n 0, 1)) (hn : 0 < nL) (k : Okg G l cc nL own rt R X Z k0 n0 (pc + 1) (some (k_rr G x) :: r) S σ E) : Okg G l cc nL own rt R X Z k0 n0 pc (b :: r) (k_rr G x :: S) σ E := fun a ha => gw_astore_n npv_0 hn d (k a ha)
theorem ok_lstore0 {b b2 : Option Value} {r : List (Option Value)} {x : Int64} (d : decode cc pc = .ok (.lstore_n 0, 1)) (hn : 0 + 1 < nL) (k : Okg G l cc nL own rt R X Z k0 n0 (pc + 1) (some (.long x) :: none :: r) S σ E) : Okg G l cc nL own rt R X Z k0 n0 pc (b :: b2 :: r) (.long x :: S) σ E := fun a ha => gw_lstore_n npv_0 hn d (k a ha)
theorem ok_iinc0 {r : List (Option Value)} {x v : Int32} {n : Int} (d : decode cc pc = .ok (.iinc 0 n, 3)) (hv : x + Int32.ofInt n = v) (hn : 0 < nL) (k : Okg G l cc nL own rt R X Z k0 n0 (pc + 3) (some (.int v) :: r) S σ E) : Okg G l cc nL own rt R X Z k0 n0 pc (some (.int x) :: r) S σ E := fun a ha => gw_iinc rfl hv npv_0 hn d (k a ha)
theorem ok_iload1 {a0 : Option Value} {r : List (Option Value)} {x : Int32} (d : decode cc pc = .ok (.iload_n 1, 1)) (k : Okg G l cc nL own rt R X Z k0 n0 (pc + 1) (a0 :: some (.int x) :: r) (.int x :: S) σ E) : Okg G l cc nL own rt R X Z k0 n0 pc (a0 :: some (.int x) :: r) S σ E := fun a ha => gw_iload_n rfl d (k a ha)
theorem ok_lload1 {a0 : Option Value} {r : List (Option Value)} {x : Int64} (d : decode cc pc = .ok (.lload_n 1, 1)) (k : Okg G l cc nL own rt R X Z k0 n0 (pc + 1) (a0 :: some (.long x) :: r) (.long x :: S) σ E) : Okg G l cc nL own rt R X Z k0 n0 pc (a0 :: some (.long x) :: r) S σ E := fun a ha => gw_lload_n rfl d (k a ha)
theorem ok_aload1 {a0 : Option Value} {r : List (Option Value)} {x : Nat} (d : decode cc pc = .ok (.aload_n 1, 1)) (k : Okg G l cc nL own rt R X Z k0 n0 (pc + 1) (a0 :: some (k_rr G x) :: r) (k_rr G x :: S) σ E) : Okg G l cc nL own rt R X Z k0 n0 pc (a0 :: some (k_rr G x) :: r) S σ E := fun a ha => gw_aload_n rfl d (k a ha)
theorem ok_istore1 {a0 : Option Value} {b : Option Value} {r : List (Option Value)} {x : Int32} (d : decode cc pc = .ok (.istore_n 1, 1)) (ho : k_oc a0 = 1) (hn : 1 < nL) (k : Okg G l cc nL own rt R X Z k0 n0 (pc + 1) (a0 :: some (.int x) :: r) S σ E) : Okg G l cc nL own rt R X Z k0 n0 pc (a0 :: b :: r) (.int x :: S) σ E := fun a ha => gw_istore_n (npv_s rfl ho) hn d (k a ha)
theorem ok_astore1 {a0 : Option Value} {b : Option Value} {r : List (Option Value)} {x : Nat} (d : decode cc pc = .ok (.astore_n 1, 1)) (ho : k_oc a0 = 1) (hn : 1 < nL) (k : Okg G l cc nL own rt R X Z k0 n0 (pc + 1) (a0 :: some (k_rr G x) :: r) S σ E) : Okg G l cc nL own rt R X Z k0 n0 pc (a0 :: b :: r) (k_rr G x :: S) σ E := fun a ha => gw_astore_n (npv_s rfl ho) hn d (k a ha)
theorem ok_lstore1 {a0 : Option Value} {b b2 : Option Value} {r : List (Option Value)} {x : Int64} (d : decode cc pc = .ok (.lstore_n 1, 1)) (ho : k_oc a0 = 1) (hn : 1 + 1 < nL) (k : Okg G l cc nL own rt R X Z k0 n0 (pc + 1) (a0 :: some (.long x) :: none :: r) S σ E) : Okg G l cc nL own rt R X Z k0 n0 pc (a0 :: b :: b2 :: r) (.long x :: S) σ E := fun a ha => gw_lstore_n (npv_s rfl ho) hn d (k a ha)
theorem ok_iinc1 {a0 : Option Value} {r : List (Option Value)} {x v : Int32} {n : Int} (d : decode cc pc = .ok (.iinc 1 n, 3)) (hv : x + Int32.ofInt n = v) (ho : k_oc a0 = 1) (hn : 1 < nL) (k : Okg G l cc nL own rt R X Z k0 n0 (pc + 3) (a0 :: some (.int v) :: r) S σ E) : Okg G l cc nL own rt R X Z k0 n0 pc (a0 :: some (.int x) :: r) S σ E := fun a ha => gw_iinc rfl hv (npv_s rfl ho) hn d (k a ha)
theorem ok_iload2 {a0 a1 : Option Value} {r : List (Option Value)} {x : Int32} (d : decode cc pc = .ok (.iload_n 2, 1)) (k : Okg G l cc nL own rt R X Z k0 n0 (pc + 1) (a0 :: a1 :: some (.int x) :: r) (.int x :: S) σ E) : Okg G l cc nL own rt R X Z k0 n0 pc (a0 :: a1 :: some (.int x) :: r) S σ E := fun a ha => gw_iload_n rfl d (k a ha)
theorem ok_lload2 {a0 a1 : Option Value} {r : List (Option Value)} {x : Int64} (d : decode cc pc = .ok (.lload_n 2, 1)) (k : Okg G l cc nL own rt R X Z k0 n0 (pc + 1) (a0 :: a1 :: some (.long x) :: r) (.long x :: S) σ E) : Okg G l cc nL own rt R X Z k0 n0 pc (a0 :: a1 :: some (.long x) :: r) S σ E := fun a ha => gw_lload_n rfl d (k a ha)
theorem ok_aload2 {a0 a1 : Option Value} {r : List (Option Value)} {x : Nat} (d : decode cc pc = .ok (.aload_n 2, 1)) (k : Okg G l cc nL own rt R X Z k0 n0 (pc + 1) (a0 :: a1 :: some (k_rr G x) :: r) (k_rr G x :: S) σ E) : Okg G l cc nL own rt R X Z k0 n0 pc (a0 :: a1 :: some (k_rr G x) :: r) S σ E := fun a ha => gw_aload_n rfl d (k a ha)
theorem ok_istore2 {a0 a1 : Option Value} {b : Option Value} {r : List (Option Value)} {x : Int32} (d : decode cc pc = .ok (.istore_n 2, 1)) (ho : k_oc a1 = 1) (hn : 2 < nL) (k : Okg G l cc nL own rt R X Z k0 n0 (pc + 1) (a0 :: a1 :: some (.int x) :: r) S σ E) : Okg G l cc nL own rt R X Z k0 n0 pc (a0 :: a1 :: b :: r) (.int x :: S) σ E := fun a ha => gw_istore_n (npv_s rfl ho) hn d (k a ha)
theorem ok_astore2 {a0 a1 : Option Value} {b : Option Value} {r : List (Option Value)} {x : Nat} (d : decode cc pc = .ok (.astore_n 2, 1)) (ho : k_oc a1 = 1) (hn : 2 < nL) (k : Okg G l cc nL own rt R X Z k0 n0 (pc + 1) (a0 :: a1 :: some (k_rr G x) :: r) S σ E) : Okg G l cc nL own rt R X Z k0 n0 pc (a0 :: a1 :: b :: r) (k_rr G x :: S) σ E := fun a ha => gw_astore_n (npv_s rfl ho) hn d (k a ha)
theorem ok_lstore2 {a0 a1 : Option Value} {b b2 : Option Value} {r : List (Option Value)} {x : Int64} (d : decode cc pc = .ok (.lstore_n 2, 1)) (ho : k_oc a1 = 1) (hn : 2 + 1 < nL) (k : Okg G l cc nL own rt R X Z k0 n0 (pc + 1) (a0 :: a1 :: some (.long x) :: none :: r) S σ E) : Okg G l cc nL own rt R X Z k0 n0 pc (a0 :: a1 :: b :: b2 :: r) (.long x :: S) σ E := fun a ha => gw_lstore_n (npv_s rfl ho) hn d (k a ha)
theorem ok_iinc2 {a0 a1 : Option Value} {r : List (Option Value)} {x v : Int32} {n : Int} (d : decode cc pc = .ok (.iinc 2 n, 3)) (hv : x + Int32.ofInt n = v) (ho : k_oc a1 = 1) (hn : 2 < nL) (k : Okg G l cc nL own rt R X Z k0 n0 (pc + 3) (a0 :: a1 :: some (.int v) :: r) S σ E) : Okg G l cc nL own rt R X Z k0 n0 pc (a0 :: a1 :: some (.int x) :: r) S σ E := fun a ha => gw_iinc rfl hv (npv_s rfl ho) hn d (k a ha)
theorem ok_iload3 {a0 a1 a2 : Option Value} {r : List (Option Value)} {x : Int32} (d : decode cc pc = .ok (.iload_n 3, 1)) (k : Okg G l cc nL own rt R X Z k0 n0 (pc + 1) (a0 :: a1 :: a2 :: some (.int x) :: r) (.int x :: S) σ E) : Okg G l cc nL own rt R X Z k0 n0 pc (a0 :: a1 :: a2 :: some (.int x) :: r) S σ E := fun a ha => gw_iload_n rfl d (k a ha)
theorem ok_lload3 {a0 a1 a2 : Option Value} {r : List (Option Value)} {x : Int64} (d : decode cc pc = .ok (.lload_n 3, 1)) (k : Okg G l cc nL own rt R X Z k0 n0 (pc + 1) (a0 :: a1 :: a2 :: some (.long x) :: r) (.long x :: S) σ E) : Okg G l cc nL own rt R X Z k0 n0 pc (a0 :: a1 :: a2 :: some (.long x) :: r) S σ E := fun a ha => gw_lload_n rfl d (k a ha)
theorem ok_aload3 {a0 a1 a2 : Option Value} {r : List (Option Value)} {x : Nat} (d : decode cc pc = .ok (.aload_n 3, 1)) (k : Okg G l cc nL own rt R X Z k0 n0 (pc + 1) (a0 :: a1 :: a2 :: some (k_rr G x) :: r) (k_rr G x :: S) σ E) : Okg G l cc nL own rt R X Z k0 n0 pc (a0 :: a1 :: a2 :: some (k_rr G x) :: r) S σ E := fun a ha => gw_aload_n rfl d (k a ha)
theorem ok_istore3 {a0 a1 a2 : Option Value} {b : Option Value} {r : List (Option Value)} {x : Int32} (d : decode cc pc = .ok (.istore_n 3, 1)) (ho : k_oc a2 = 1) (hn : 3 < nL) (k : Okg G l cc nL own rt R X Z k0 n0 (pc + 1) (a0 :: a1 :: a2 :: some (.int x) :: r) S σ E) : Okg G l cc nL own rt R X Z k0 n0 pc (a0 :: a1 :: a2 :: b :: r) (.int x :: S) σ E := fun a ha => gw_istore_n (npv_s rfl ho) hn d (k a ha)
theorem ok_astore3 {a0 a1 a2 : Option Value} {b : Option Value} {r : List (Option Value)} {x : Nat} (d : decode cc pc = .ok (.astore_n 3, 1)) (ho : k_oc a2 = 1) (hn : 3 < nL) (k : Okg G l cc nL own rt R X Z k0 n0 (pc + 1) (a0 :: a1 :: a2 :: some (k_rr G x) :: r) S σ E) : Okg G l cc nL own rt R X Z k0 n0 pc (a0 :: a1 :: a2 :: b :: r) (k_rr G x :: S) σ E := fun a ha => gw_astore_n (npv_s rfl ho) hn d (k a ha)
theorem ok_lstore3 {a0 a1 a2 : Option Value} {b b2 : Option Value} {r : List (Option Value)} {x : Int64} (d : decode cc pc = .ok (.lstore_n 3, 1)) (ho : k_oc a2 = 1) (hn : 3 + 1 < nL) (k : Okg G l cc nL own rt R X Z k0 n0 (pc + 1) (a0 :: a1 :: a2 :: some (.long x) :: none :: r) S σ E) : Okg G l cc nL own rt R X Z k0 n0 pc (a0 :: a1 :: a2 :: b :: b2 :: r) (.long x :: S) σ E := fun a ha => gw_lstore_n (npv_s rfl ho) hn d (k a ha)
theorem ok_iinc3 {a0 a1 a2 : Option Value} {r : List (Option Value)} {x v : Int32} {n : Int} (d : decode cc pc = .ok (.iinc 3 n, 3)) (hv : x + Int32.ofInt n = v) (ho : k_oc a2 = 1) (hn : 3 < nL) (k : Okg G l cc nL own rt R X Z k0 n0 (pc + 3) (a0 :: a1 :: a2 :: some (.int v) :: r) S σ E) : Okg G l cc nL own rt R X Z k0 n0 pc (a0 :: a1 :: a2 :: some (.int x) :: r) S σ E := fun a ha => gw_iinc rfl hv (npv_s rfl ho) hn d (k a ha)
theorem ok_iload4 {a0 a1 a2 a3 : Option Value} {r : List (Option Value)} {x : Int32} (d : decode cc pc = .ok (.iload 4, 2)) (k : Okg G l cc nL own rt R X Z k0 n0 (pc + 2) (a0 :: a1 :: a2 :: a3 :: some (.int x) :: r) (.int x :: S) σ E) : Okg G l cc nL own rt R X Z k0 n0 pc (a0 :: a1 :: a2 :: a3 :: some (.int x) :: r) S σ E := fun a ha => gw_iload rfl d (k a ha)
theorem ok_lload4 {a0 a1 a2 a3 : Option Value} {r : List (Option Value)} {x : Int64} (d : decode cc pc = .ok (.lload 4, 2)) (k : Okg G l cc nL own rt R X Z k0 n0 (pc + 2) (a0 :: a1 :: a2 :: a3 :: some (.long x) :: r) (.long x :: S) σ E) : Okg G l cc nL own rt R X Z k0 n0 pc (a0 :: a1 :: a2 :: a3 :: some (.long x) :: r) S σ E := fun a ha => gw_lload rfl d (k a ha)
theorem ok_aload4 {a0 a1 a2 a3 : Option Value} {r : List (Option Value)} {x : Nat} (d : decode cc pc = .ok (.aload 4, 2)) (k : Okg G l cc nL own rt R X Z k0 n0 (pc + 2) (a0 :: a1 :: a2 :: a3 :: some (k_rr G x) :: r) (k_rr G x :: S) σ E) : Okg G l cc nL own rt R X Z k0 n0 pc (a0 :: a1 :: a2 :: a3 :: some (k_rr G x) :: r) S σ E := fun a ha => gw_aload rfl d (k a ha)
theorem ok_istore4 {a0 a1 a2 a3 : Option Value} {b : Option Value} {r : List (Option Value)} {x : Int32} (d : decode cc pc = .ok (.istore 4, 2)) (ho : k_oc a3 = 1) (hn : 4 < nL) (k : Okg G l cc nL own rt R X Z k0 n0 (pc + 2) (a0 :: a1 :: a2 :: a3 :: some (.int x) :: r) S σ E) : Okg G l cc nL own rt R X Z k0 n0 pc (a0 :: a1 :: a2 :: a3 :: b :: r) (.int x :: S) σ E := fun a ha => gw_istore (npv_s rfl ho) hn d (k a ha)
theorem ok_astore4 {a0 a1 a2 a3 : Option Value} {b : Option Value} {r : List (Option Value)} {x : Nat} (d : decode cc pc = .ok (.astore 4, 2)) (ho : k_oc a3 = 1) (hn : 4 < nL) (k : Okg G l cc nL own rt R X Z k0 n0 (pc + 2) (a0 :: a1 :: a2 :: a3 :: some (k_rr G x) :: r) S σ E) : Okg G l cc nL own rt R X Z k0 n0 pc (a0 :: a1 :: a2 :: a3 :: b :: r) (k_rr G x :: S) σ E := fun a ha => gw_astore (npv_s rfl ho) hn d (k a ha)
theorem ok_lstore4 {a0 a1 a2 a3 : Option Value} {b b2 : Option Value} {r : List (Option Value)} {x : Int64} (d : decode cc pc = .ok (.lstore 4, 2)) (ho : k_oc a3 = 1) (hn : 4 + 1 < nL) (k : Okg G l cc nL own rt R X Z k0 n0 (pc + 2) (a0 :: a1 :: a2 :: a3 :: some (.long x) :: none :: r) S σ E) : Okg G l cc nL own rt R X Z k0 n0 pc (a0 :: a1 :: a2 :: a3 :: b :: b2 :: r) (.long x :: S) σ E := fun a ha => gw_lstore (npv_s rfl ho) hn d (k a ha)
theorem ok_iinc4 {a0 a1 a2 a3 : Option Value} {r : List (Option Value)} {x v : Int32} {n : Int} (d : decode cc pc = .ok (.iinc 4 n, 3)) (hv : x + Int32.ofInt n = v) (ho : k_oc a3 = 1) (hn : 4 < nL) (k : Okg G l cc nL own rt R X Z k0 n0 (pc + 3) (a0 :: a1 :: a2 :: a3 :: some (.int v) :: r) S σ E) : Okg G l cc nL own rt R X Z k0 n0 pc (a0 :: a1 :: a2 :: a3 :: some (.int x) :: r) S σ E := fun a ha => gw_iinc rfl hv (npv_s rfl ho) hn d (k a ha)
theorem ok_iload5 {a0 a1 a2 a3 a4 : Option Value} {r : List (Option Value)} {x : Int32} (d : decode cc pc = .ok (.iload 5, 2)) (k : Okg G l cc nL own rt R X Z k0 n0 (pc + 2) (a0 :: a1 :: a2 :: a3 :: a4 :: some (.int x) :: r) (.int x :: S) σ E) : Okg G l cc nL own rt R X Z k0 n0 pc (a0 :: a1 :: a2 :: a3 :: a4 :: some (.int x) :: r) S σ E := fun a ha => gw_iload rfl d (k a ha)
theorem ok_lload5 {a0 a1 a2 a3 a4 : Option Value} {r : List (Option Value)} {x : Int64} (d : decode cc pc = .ok (.lload 5, 2)) (k : Okg G l cc nL own rt R X Z k0 n0 (pc + 2) (a0 :: a1 :: a2 :: a3 :: a4 :: some (.long x) :: r) (.long x :: S) σ E) : Okg G l cc nL own rt R X Z k0 n0 pc (a0 :: a1 :: a2 :: a3 :: a4 :: some (.long x) :: r) S σ E := fun a ha => gw_lload rfl d (k a ha)
theorem ok_aload5 {a0 a1 a2 a3 a4 : Option Value} {r : List (Option Value)} {x : Nat} (d : decode cc pc = .ok (.aload 5, 2)) (k : Okg G l cc nL own rt R X Z k0 n0 (pc + 2) (a0 :: a1 :: a2 :: a3 :: a4 :: some (k_rr G x) :: r) (k_rr G x :: S) σ E) : Okg G l cc nL own rt R X Z k0 n0 pc (a0 :: a1 :: a2 :: a3 :: a4 :: some (k_rr G x) :: r) S σ E := fun a ha => gw_aload rfl d (k a ha)
theorem ok_istore5 {a0 a1 a2 a3 a4 : Option Value} {b : Option Value} {r : List (Option Value)} {x : Int32} (d : decode cc pc = .ok (.istore 5, 2)) (ho : k_oc a4 = 1) (hn : 5 < nL) (k : Okg G l cc nL own rt R X Z k0 n0 (pc + 2) (a0 :: a1 :: a2 :: a3 :: a4 :: some (.int x) :: r) S σ E) : Okg G l cc nL own rt R X Z k0 n0 pc (a0 :: a1 :: a2 :: a3 :: a4 :: b :: r) (.int x :: S) σ E := fun a ha => gw_istore (npv_s rfl ho) hn d (k a ha)
theorem ok_astore5 {a0 a1 a2 a3 a4 : Option Value} {b : Option Value} {r : List (Option Value)} {x : Nat} (d : decode cc pc = .ok (.astore 5, 2)) (ho : k_oc a4 = 1) (hn : 5 < nL) (k : Okg G l cc nL own rt R X Z k0 n0 (pc + 2) (a0 :: a1 :: a2 :: a3 :: a4 :: some (k_rr G x) :: r) S σ E) : Okg G l cc nL own rt R X Z k0 n0 pc (a0 :: a1 :: a2 :: a3 :: a4 :: b :: r) (k_rr G x :: S) σ E := fun a ha => gw_astore (npv_s rfl ho) hn d (k a ha)
theorem ok_lstore5 {a0 a1 a2 a3 a4 : Option Value} {b b2 : Option Value} {r : List (Option Value)} {x : Int64} (d : decode cc pc = .ok (.lstore 5, 2)) (ho : k_oc a4 = 1) (hn : 5 + 1 < nL) (k : Okg G l cc nL own rt R X Z k0 n0 (pc + 2) (a0 :: a1 :: a2 :: a3 :: a4 :: some (.long x) :: none :: r) S σ E) : Okg G l cc nL own rt R X Z k0 n0 pc (a0 :: a1 :: a2 :: a3 :: a4 :: b :: b2 :: r) (.long x :: S) σ E := fun a ha => gw_lstore (npv_s rfl ho) hn d (k a ha)
theorem ok_iinc5 {a0 a1 a2 a3 a4 : Option Value} {r : List (Option Value)} {x v : Int32} {n : Int} (d : decode cc pc = .ok (.iinc 5 n, 3)) (hv : x + Int32.ofInt n = v) (ho : k_oc a4 = 1) (hn : 5 < nL) (k : Okg G l cc nL own rt R X Z k0 n0 (pc + 3) (a0 :: a1 :: a2 :: a3 :: a4 :: some (.int v) :: r) S σ E) : Okg G l cc nL own rt R X Z k0 n0 pc (a0 :: a1 :: a2 :: a3 :: a4 :: some (.int x) :: r) S σ E := fun a ha => gw_iinc rfl hv (npv_s rfl ho) hn d (k a ha)
theorem ok_iload6 {a0 a1 a2 a3 a4 a5 : Option Value} {r : List (Option Value)} {x : Int32} (d : decode cc pc = .ok (.iload 6, 2)) (k : Okg G l cc nL own rt R X Z k0 n0 (pc + 2) (a0 :: a1 :: a2 :: a3 :: a4 :: a5 :: some (.int x) :: r) (.int x :: S) σ E) : Okg G l cc nL own rt R X Z k0 n0 pc (a0 :: a1 :: a2 :: a3 :: a4 :: a5 :: some (.int x) :: r) S σ E := fun a ha => gw_iload rfl d (k a ha)
theorem ok_lload6 {a0 a1 a2 a3 a4 a5 : Option Value} {r : List (Option Value)} {x : Int64} (d : decode cc pc = .ok (.lload 6, 2)) (k : Okg G l cc nL own rt R X Z k0 n0 (pc + 2) (a0 :: a1 :: a2 :: a3 :: a4 :: a5 :: some (.long x) :: r) (.long x :: S) σ E) : Okg G l cc nL own rt R X Z k0 n0 pc (a0 :: a1 :: a2 :: a3 :: a4 :: a5 :: some (.long x) :: r) S σ E := fun a ha => gw_lload rfl d (k a ha)
theorem ok_aload6 {a0 a1 a2 a3 a4 a5 : Option Value} {r : List (Option Value)} {x : Nat} (d : decode cc pc = .ok (.aload 6, 2)) (k : Okg G l cc nL own rt R X Z k0 n0 (pc + 2) (a0 :: a1 :: a2 :: a3 :: a4 :: a5 :: some (k_rr G x) :: r) (k_rr G x :: S) σ E) : Okg G l cc nL own rt R X Z k0 n0 pc (a0 :: a1 :: a2 :: a3 :: a4 :: a5 :: some (k_rr G x) :: r) S σ E := fun a ha => gw_aload rfl d (k a ha)
theorem ok_istore6 {a0 a1 a2 a3 a4 a5 : Option Value} {b : Option Value} {r : List (Option Value)} {x : Int32} (d : decode cc pc = .ok (.istore 6, 2)) (ho : k_oc a5 = 1) (hn : 6 < nL) (k : Okg G l cc nL own rt R X Z k0 n0 (pc + 2) (a0 :: a1 :: a2 :: a3 :: a4 :: a5 :: some (.int x) :: r) S σ E) : Okg G l cc nL own rt R X Z k0 n0 pc (a0 :: a1 :: a2 :: a3 :: a4 :: a5 :: b :: r) (.int x :: S) σ E := fun a ha => gw_istore (npv_s rfl ho) hn d (k a ha)
theorem ok_astore6 {a0 a1 a2 a3 a4 a5 : Option Value} {b : Option Value} {r : List (Option Value)} {x : Nat} (d : decode cc pc = .ok (.astore 6, 2)) (ho : k_oc a5 = 1) (hn : 6 < nL) (k : Okg G l cc nL own rt R X Z k0 n0 (pc + 2) (a0 :: a1 :: a2 :: a3 :: a4 :: a5 :: some (k_rr G x) :: r) S σ E) : Okg G l cc nL own rt R X Z k0 n0 pc (a0 :: a1 :: a2 :: a3 :: a4 :: a5 :: b :: r) (k_rr G x :: S) σ E := fun a ha => gw_astore (npv_s rfl ho) hn d (k a ha)
theorem ok_lstore6 {a0 a1 a2 a3 a4 a5 : Option Value} {b b2 : Option Value} {r : List (Option Value)} {x : Int64} (d : decode cc pc = .ok (.lstore 6, 2)) (ho : k_oc a5 = 1) (hn : 6 + 1 < nL) (k : Okg G l cc nL own rt R X Z k0 n0 (pc + 2) (a0 :: a1 :: a2 :: a3 :: a4 :: a5 :: some (.long x) :: none :: r) S σ E) : Okg G l cc nL own rt R X Z k0 n0 pc (a0 :: a1 :: a2 :: a3 :: a4 :: a5 :: b :: b2 :: r) (.long x :: S) σ E := fun a ha => gw_lstore (npv_s rfl ho) hn d (k a ha)
theorem ok_iinc6 {a0 a1 a2 a3 a4 a5 : Option Value} {r : List (Option Value)} {x v : Int32} {n : Int} (d : decode cc pc = .ok (.iinc 6 n, 3)) (hv : x + Int32.ofInt n = v) (ho : k_oc a5 = 1) (hn : 6 < nL) (k : Okg G l cc nL own rt R X Z k0 n0 (pc + 3) (a0 :: a1 :: a2 :: a3 :: a4 :: a5 :: some (.int v) :: r) S σ E) : Okg G l cc nL own rt R X Z k0 n0 pc (a0 :: a1 :: a2 :: a3 :: a4 :: a5 :: some (.int x) :: r) S σ E := fun a ha => gw_iinc rfl hv (npv_s rfl ho) hn d (k a ha)
theorem ok_iload7 {a0 a1 a2 a3 a4 a5 a6 : Option Value} {r : List (Option Value)} {x : Int32} (d : decode cc pc = .ok (.iload 7, 2)) (k : Okg G l cc nL own rt R X Z k0 n0 (pc + 2) (a0 :: a1 :: a2 :: a3 :: a4 :: a5 :: a6 :: some (.int x) :: r) (.int x :: S) σ E) : Okg G l cc nL own rt R X Z k0 n0 pc (a0 :: a1 :: a2 :: a3 :: a4 :: a5 :: a6 :: some (.int x) :: r) S σ E := fun a ha => gw_iload rfl d (k a ha)
theorem ok_lload7 {a0 a1 a2 a3 a4 a5 a6 : Option Value} {r : List (Option Value)} {x : Int64} (d : decode cc pc = .ok (.lload 7, 2)) (k : Okg G l cc nL own rt R X Z k0 n0 (pc + 2) (a0 :: a1 :: a2 :: a3 :: a4 :: a5 :: a6 :: some (.long x) :: r) (.long x :: S) σ E) : Okg G l cc nL own rt R X Z k0 n0 pc (a0 :: a1 :: a2 :: a3 :: a4 :: a5 :: a6 :: some (.long x) :: r) S σ E := fun a ha => gw_lload rfl d (k a ha)
theorem ok_aload7 {a0 a1 a2 a3 a4 a5 a6 : Option Value} {r : List (Option Value)} {x : Nat} (d : decode cc pc = .ok (.aload 7, 2)) (k : Okg G l cc nL own rt R X Z k0 n0 (pc + 2) (a0 :: a1 :: a2 :: a3 :: a4 :: a5 :: a6 :: some (k_rr G x) :: r) (k_rr G x :: S) σ E) : Okg G l cc nL own rt R X Z k0 n0 pc (a0 :: a1 :: a2 :: a3 :: a4 :: a5 :: a6 :: some (k_rr G x) :: r) S σ E := fun a ha => gw_aload rfl d (k a ha)
theorem ok_istore7 {a0 a1 a2 a3 a4 a5 a6 : Option Value} {b : Option Value} {r : List (Option Value)} {x : Int32} (d : decode cc pc = .ok (.istore 7, 2)) (ho : k_oc a6 = 1) (hn : 7 < nL) (k : Okg G l cc nL own rt R X Z k0 n0 (pc + 2) (a0 :: a1 :: a2 :: a3 :: a4 :: a5 :: a6 :: some (.int x) :: r) S σ E) : Okg G l cc nL own rt R X Z k0 n0 pc (a0 :: a1 :: a2 :: a3 :: a4 :: a5 :: a6 :: b :: r) (.int x :: S) σ E := fun a ha => gw_istore (npv_s rfl ho) hn d (k a ha)
theorem ok_astore7 {a0 a1 a2 a3 a4 a5 a6 : Option Value} {b : Option Value} {r : List (Option Value)} {x : Nat} (d : decode cc pc = .ok (.astore 7, 2)) (ho : k_oc a6 = 1) (hn : 7 < nL) (k : Okg G l cc nL own rt R X Z k0 n0 (pc + 2) (a0 :: a1 :: a2 :: a3 :: a4 :: a5 :: a6 :: some (k_rr G x) :: r) S σ E) : Okg G l cc nL own rt R X Z k0 n0 pc (a0 :: a1 :: a2 :: a3 :: a4 :: a5 :: a6 :: b :: r) (k_rr G x :: S) σ E := fun a ha => gw_astore (npv_s rfl ho) hn d (k a ha)
theorem ok_lstore7 {a0 a1 a2 a3 a4 a5 a6 : Option Value} {b b2 : Option Value} {r : List (Option Value)} {x : Int64} (d : decode cc pc = .ok (.lstore 7, 2)) (ho : k_oc a6 = 1) (hn : 7 + 1 < nL) (k : Okg G l cc nL own rt R X Z k0 n0 (pc + 2) (a0 :: a1 :: a2 :: a3 :: a4 :: a5 :: a6 :: some (.long x) :: none :: r) S σ E) : Okg G l cc nL own rt R X Z k0 n0 pc (a0 :: a1 :: a2 :: a3 :: a4 :: a5 :: a6 :: b :: b2 :: r) (.long x :: S) σ E := fun a ha => gw_lstore (npv_s rfl ho) hn d (k a ha)
theorem ok_iinc7 {a0 a1 a2 a3 a4 a5 a6 : Option Value} {r : List (Option Value)} {x v : Int32} {n : Int} (d : decode cc pc = .ok (.iinc 7 n, 3)) (hv : x + Int32.ofInt n = v) (ho : k_oc a6 = 1) (hn : 7 < nL) (k : Okg G l cc nL own rt R X Z k0 n0 (pc + 3) (a0 :: a1 :: a2 :: a3 :: a4 :: a5 :: a6 :: some (.int v) :: r) S σ E) : Okg G l cc nL own rt R X Z k0 n0 pc (a0 :: a1 :: a2 :: a3 :: a4 :: a5 :: a6 :: some (.int x) :: r) S σ E := fun a ha => gw_iinc rfl hv (npv_s rfl ho) hn d (k a ha)
theorem ok_iload8 {a0 a1 a2 a3 a4 a5 a6 a7 : Option Value} {r : List (Option Value)} {x : Int32} (d : decode cc pc = .ok (.iload 8, 2)) (k : Okg G l cc nL own rt R X Z k0 n0 (pc + 2) (a0 :: a1 :: a2 :: a3 :: a4 :: a5 :: a6 :: a7 :: some (.int x) :: r) (.int x :: S) σ E) : Okg G l cc nL own rt R X Z k0 n0 pc (a0 :: a1 :: a2 :: a3 :: a4 :: a5 :: a6 :: a7 :: some (.int x) :: r) S σ E := fun a ha => gw_iload rfl d (k a ha)
theorem ok_lload8 {a0 a1 a2 a3 a4 a5 a6 a7 : Option Value} {r : List (Option Value)} {x : Int64} (d : decode cc pc = .ok (.lload 8, 2)) (k : Okg G l cc nL own rt R X Z k0 n0 (pc + 2) (a0 :: a1 :: a2 :: a3 :: a4 :: a5 :: a6 :: a7 :: some (.long x) :: r) (.long x :: S) σ E) : Okg G l cc nL own rt R X Z k0 n0 pc (a0 :: a1 :: a2 :: a3 :: a4 :: a5 :: a6 :: a7 :: some (.long x) :: r) S σ E := fun a ha => gw_lload rfl d (k a ha)
theorem ok_aload8 {a0 a1 a2 a3 a4 a5 a6 a7 : Option Value} {r : List (Option Value)} {x : Nat} (d : decode cc pc = .ok (.aload 8, 2)) (k : Okg G l cc nL own rt R X Z k0 n0 (pc + 2) (a0 :: a1 :: a2 :: a3 :: a4 :: a5 :: a6 :: a7 :: some (k_rr G x) :: r) (k_rr G x :: S) σ E) : Okg G l cc nL own rt R X Z k0 n0 pc (a0 :: a1 :: a2 :: a3 :: a4 :: a5 :: a6 :: a7 :: some (k_rr G x) :: r) S σ E := fun a ha => gw_aload rfl d (k a ha)
theorem ok_istore8 {a0 a1 a2 a3 a4 a5 a6 a7 : Option Value} {b : Option Value} {r : List (Option Value)} {x : Int32} (d : decode cc pc = .ok (.istore 8, 2)) (ho : k_oc a7 = 1) (hn : 8 < nL) (k : Okg G l cc nL own rt R X Z k0 n0 (pc + 2) (a0 :: a1 :: a2 :: a3 :: a4 :: a5 :: a6 :: a7 :: some (.int x) :: r) S σ E) : Okg G l cc nL own rt R X Z k0 n0 pc (a0 :: a1 :: a2 :: a3 :: a4 :: a5 :: a6 :: a7 :: b :: r) (.int x :: S) σ E := fun a ha => gw_istore (npv_s rfl ho) hn d (k a ha)
theorem ok_astore8 {a0 a1 a2 a3 a4 a5 a6 a7 : Option Value} {b : Option Value} {r : List (Option Value)} {x : Nat} (d : decode cc pc = .ok (.astore 8, 2)) (ho : k_oc a7 = 1) (hn : 8 < nL) (k : Okg G l cc nL own rt R X Z k0 n0 (pc + 2) (a0 :: a1 :: a2 :: a3 :: a4 :: a5 :: a6 :: a7 :: some (k_rr G x) :: r) S σ E) : Okg G l cc nL own rt R X Z k0 n0 pc (a0 :: a1 :: a2 :: a3 :: a4 :: a5 :: a6 :: a7 :: b :: r) (k_rr G x :: S) σ E := fun a ha => gw_astore (npv_s rfl ho) hn d (k a ha)
theorem ok_lstore8 {a0 a1 a2 a3 a4 a5 a6 a7 : Option Value} {b b2 : Option Value} {r : List (Option Value)} {x : Int64} (d : decode cc pc = .ok (.lstore 8, 2)) (ho : k_oc a7 = 1) (hn : 8 + 1 < nL) (k : Okg G l cc nL own rt R X Z k0 n0 (pc + 2) (a0 :: a1 :: a2 :: a3 :: a4 :: a5 :: a6 :: a7 :: some (.long x) :: none :: r) S σ E) : Okg G l cc nL own rt R X Z k0 n0 pc (a0 :: a1 :: a2 :: a3 :: a4 :: a5 :: a6 :: a7 :: b :: b2 :: r) (.long x :: S) σ E := fun a ha => gw_lstore (npv_s rfl ho) hn d (k a ha)
theorem ok_iinc8 {a0 a1 a2 a3 a4 a5 a6 a7 : Option Value} {r : List (Option Value)} {x v : Int32} {n : Int} (d : decode cc pc = .ok (.iinc 8 n, 3)) (hv : x + Int32.ofInt n = v) (ho : k_oc a7 = 1) (hn : 8 < nL) (k : Okg G l cc nL own rt R X Z k0 n0 (pc + 3) (a0 :: a1 :: a2 :: a3 :: a4 :: a5 :: a6 :: a7 :: some (.int v) :: r) S σ E) : Okg G l cc nL own rt R X Z k0 n0 pc (a0 :: a1 :: a2 :: a3 :: a4 :: a5 :: a6 :: a7 :: some (.int x) :: r) S σ E := fun a ha => gw_iinc rfl hv (npv_s rfl ho) hn d (k a ha)
theorem ok_iload9 {a0 a1 a2 a3 a4 a5 a6 a7 a8 : Option Value} {r : List (Option Value)} {x : Int32} (d : decode cc pc = .ok (.iload 9, 2)) (k : Okg G l cc nL own rt R X Z k0 n0 (pc + 2) (a0 :: a1 :: a2 :: a3 :: a4 :: a5 :: a6 :: a7 :: a8 :: some (.int x) :: r) (.int x :: S) σ E) : Okg G l cc nL own rt R X Z k0 n0 pc (a0 :: a1 :: a2 :: a3 :: a4 :: a5 :: a6 :: a7 :: a8 :: some (.int x) :: r) S σ E := fun a ha => gw_iload rfl d (k a ha)
theorem ok_lload9 {a0 a1 a2 a3 a4 a5 a6 a7 a8 : Option Value} {r : List (Option Value)} {x : Int64} (d : decode cc pc = .ok (.lload 9, 2)) (k : Okg G l cc nL own rt R X Z k0 n0 (pc + 2) (a0 :: a1 :: a2 :: a3 :: a4 :: a5 :: a6 :: a7 :: a8 :: some (.long x) :: r) (.long x :: S) σ E) : Okg G l cc nL own rt R X Z k0 n0 pc (a0 :: a1 :: a2 :: a3 :: a4 :: a5 :: a6 :: a7 :: a8 :: some (.long x) :: r) S σ E := fun a ha => gw_lload rfl d (k a ha)
theorem ok_aload9 {a0 a1 a2 a3 a4 a5 a6 a7 a8 : Option Value} {r : List (Option Value)} {x : Nat} (d : decode cc pc = .ok (.aload 9, 2)) (k : Okg G l cc nL own rt R X Z k0 n0 (pc + 2) (a0 :: a1 :: a2 :: a3 :: a4 :: a5 :: a6 :: a7 :: a8 :: some (k_rr G x) :: r) (k_rr G x :: S) σ E) : Okg G l cc nL own rt R X Z k0 n0 pc (a0 :: a1 :: a2 :: a3 :: a4 :: a5 :: a6 :: a7 :: a8 :: some (k_rr G x) :: r) S σ E := fun a ha => gw_aload rfl d (k a ha)
theorem ok_istore9 {a0 a1 a2 a3 a4 a5 a6 a7 a8 : Option Value} {b : Option Value} {r : List (Option Value)} {x : Int32} (d : decode cc pc = .ok (.istore 9, 2)) (ho : k_oc a8 = 1) (hn : 9 < nL) (k : Okg G l cc nL own rt R X Z k0 n0 (pc + 2) (a0 :: a1 :: a2 :: a3 :: a4 :: a5 :: a6 :: a7 :: a8 :: some (.int x) :: r) S σ E) : Okg G l cc nL own rt R X Z k0 n0 pc (a0 :: a1 :: a2 :: a3 :: a4 :: a5 :: a6 :: a7 :: a8 :: b :: r) (.int x :: S) σ E := fun a ha => gw_istore (npv_s rfl ho) hn d (k a ha)
theorem ok_astore9 {a0 a1 a2 a3 a4 a5 a6 a7 a8 : Option Value} {b : Option Value} {r : List (Option Value)} {x : Nat} (d : decode cc pc = .ok (.astore 9, 2)) (ho : k_oc a8 = 1) (hn : 9 < nL) (k : Okg G l cc nL own rt R X Z k0 n0 (pc + 2) (a0 :: a1 :: a2 :: a3 :: a4 :: a5 :: a6 :: a7 :: a8 :: some (k_rr G x) :: r) S σ E) : Okg G l cc nL own rt R X Z k0 n0 pc (a0 :: a1 :: a2 :: a3 :: a4 :: a5 :: a6 :: a7 :: a8 :: b :: r) (k_rr G x :: S) σ E := fun a ha => gw_astore (npv_s rfl ho) hn d (k a ha)
theorem ok_lstore9 {a0 a1 a2 a3 a4 a5 a6 a7 a8 : Option Value} {b b2 : Option Value} {r : List (Option Value)} {x : Int64} (d : decode cc pc = .ok (.lstore 9, 2)) (ho : k_oc a8 = 1) (hn : 9 + 1 < nL) (k : Okg G l cc nL own rt R X Z k0 n0 (pc + 2) (a0 :: a1 :: a2 :: a3 :: a4 :: a5 :: a6 :: a7 :: a8 :: some (.long x) :: none :: r) S σ E) : Okg G l cc nL own rt R X Z k0 n0 pc (a0 :: a1 :: a2 :: a3 :: a4 :: a5 :: a6 :: a7 :: a8 :: b :: b2 :: r) (.long x :: S) σ E := fun a ha => gw_lstore (npv_s rfl ho) hn d (k a ha)
theorem ok_iinc9 {a0 a1 a2 a3 a4 a5 a6 a7 a8 : Option Value} {r : List (Option Value)} {x v : Int32} {n : Int} (d : decode cc pc = .ok (.iinc 9 n, 3)) (hv : x + Int32.ofInt n = v) (ho : k_oc a8 = 1) (hn : 9 < nL) (k : Okg G l cc nL own rt R X Z k0 n0 (pc + 3) (a0 :: a1 :: a2 :: a3 :: a4 :: a5 :: a6 :: a7 :: a8 :: some (.int v) :: r) S σ E) : Okg G l cc nL own rt R X Z k0 n0 pc (a0 :: a1 :: a2 :: a3 :: a4 :: a5 :: a6 :: a7 :: a8 :: some (.int x) :: r) S σ E := fun a ha => gw_iinc rfl hv (npv_s rfl ho) hn d (k a ha)
theorem ok_iload10 {a0 a1 a2 a3 a4 a5 a6 a7 a8 a9 : Option Value} {r : List (Option Value)} {x : Int32} (d : decode cc pc = .ok (.iload 10, 2)) (k : Okg G l cc nL own rt R X Z k0 n0 (pc + 2) (a0 :: a1 :: a2 :: a3 :: a4 :: a5 :: a6 :: a7 :: a8 :: a9 :: some (.int x) :: r) (.int x :: S) σ E) : Okg G l cc nL own rt R X Z k0 n0 pc (a0 :: a1 :: a2 :: a3 :: a4 :: a5 :: a6 :: a7 :: a8 :: a9 :: some (.int x) :: r) S σ E := fun a ha => gw_iload rfl d (k a ha)
theorem ok_lload10 {a0 a1 a2 a3 a4 a5 a6 a7 a8 a9 : Option Value} {r : List (Option Value)} {x : Int64} (d : decode cc pc = .ok (.lload 10, 2)) (k : Okg G l cc nL own rt R X Z k0 n0 (pc + 2) (a0 :: a1 :: a2 :: a3 :: a4 :: a5 :: a6 :: a7 :: a8 :: a9 :: some (.long x) :: r) (.long x :: S) σ E) : Okg G l cc nL own rt R X Z k0 n0 pc (a0 :: a1 :: a2 :: a3 :: a4 :: a5 :: a6 :: a7 :: a8 :: a9 :: some (.long x) :: r) S σ E := fun a ha => gw_lload rfl d (k a ha)
theorem ok_aload10 {a0 a1 a2 a3 a4 a5 a6 a7 a8 a9 : Option Value} {r : List (Option Value)} {x : Nat} (d : decode cc pc = .ok (.aload 10, 2)) (k : Okg G l cc nL own rt R X Z k0 n0 (pc + 2) (a0 :: a1 :: a2 :: a3 :: a4 :: a5 :: a6 :: a7 :: a8 :: a9 :: some (k_rr G x) :: r) (k_rr G x :: S) σ E) : Okg G l cc nL own rt R X Z k0 n0 pc (a0 :: a1 :: a2 :: a3 :: a4 :: a5 :: a6 :: a7 :: a8 :: a9 :: some (k_rr G x) :: r) S σ E := fun a ha => gw_aload rfl d (k a ha)
theorem ok_istore10 {a0 a1 a2 a3 a4 a5 a6 a7 a8 a9 : Option Value} {b : Option Value} {r : List (Option Value)} {x : Int32} (d : decode cc pc = .ok (.istore 10, 2)) (ho : k_oc a9 = 1) (hn : 10 < nL) (k : Okg G l cc nL own rt R X Z k0 n0 (pc + 2) (a0 :: a1 :: a2 :: a3 :: a4 :: a5 :: a6 :: a7 :: a8 :: a9 :: some (.int x) :: r) S σ E) : Okg G l cc nL own rt R X Z k0 n0 pc (a0 :: a1 :: a2 :: a3 :: a4 :: a5 :: a6 :: a7 :: a8 :: a9 :: b :: r) (.int x :: S) σ E := fun a ha => gw_istore (npv_s rfl ho) hn d (k a ha)
theorem ok_astore10 {a0 a1 a2 a3 a4 a5 a6 a7 a8 a9 : Option Value} {b : Option Value} {r : List (Option Value)} {x : Nat} (d : decode cc pc = .ok (.astore 10, 2)) (ho : k_oc a9 = 1) (hn : 10 < nL) (k : Okg G l cc nL own rt R X Z k0 n0 (pc + 2) (a0 :: a1 :: a2 :: a3 :: a4 :: a5 :: a6 :: a7 :: a8 :: a9 :: some (k_rr G x) :: r) S σ E) : Okg G l cc nL own rt R X Z k0 n0 pc (a0 :: a1 :: a2 :: a3 :: a4 :: a5 :: a6 :: a7 :: a8 :: a9 :: b :: r) (k_rr G x :: S) σ E := fun a ha => gw_astore (npv_s rfl ho) hn d (k a ha)
theorem ok_lstore10 {a0 a1 a2 a3 a4 a5 a6 a7 a8 a9 : Option Value} {b b2 : Option Value} {r : List (Option Value)} {x : Int64} (d : decode cc pc = .ok (.lstore 10, 2)) (ho : k_oc a9 = 1) (hn : 10 + 1 < nL) (k : Okg G l cc nL own rt R X Z k0 n0 (pc + 2) (a0 :: a1 :: a2 :: a3 :: a4 :: a5 :: a6 :: a7 :: a8 :: a9 :: some (.long x) :: none :: r) S σ E) : Okg G l cc nL own rt R X Z k0 n0 pc (a0 :: a1 :: a2 :: a3 :: a4 :: a5 :: a6 :: a7 :: a8 :: a9 :: b :: b2 :: r) (.long x :: S) σ E := fun a ha => gw_lstore (npv_s rfl ho) hn d (k a ha)
theorem ok_iinc10 {a0 a1 a2 a3 a4 a5 a6 a7 a8 a9 : Option Value} {r : List (Option Value)} {x v : Int32} {n : Int} (d : decode cc pc = .ok (.iinc 10 n, 3)) (hv : x + Int32.ofInt n = v) (ho : k_oc a9 = 1) (hn : 10 < nL) (k : Okg G l cc nL own rt R X Z k0 n0 (pc + 3) (a0 :: a1 :: a2 :: a3 :: a4 :: a5 :: a6 :: a7 :: a8 :: a9 :: some (.int v) :: r) S σ E) : Okg G l cc nL own rt R X Z k0 n0 pc (a0 :: a1 :: a2 :: a3 :: a4 :: a5 :: a6 :: a7 :: a8 :: a9 :: some (.int x) :: r) S σ E := fun a ha => gw_iinc rfl hv (npv_s rfl ho) hn d (k a ha)
theorem ok_iload11 {a0 a1 a2 a3 a4 a5 a6 a7 a8 a9 a10 : Option Value} {r : List (Option Value)} {x : Int32} (d : decode cc pc = .ok (.iload 11, 2)) (k : Okg G l cc nL own rt R X Z k0 n0 (pc + 2) (a0 :: a1 :: a2 :: a3 :: a4 :: a5 :: a6 :: a7 :: a8 :: a9 :: a10 :: some (.int x) :: r) (.int x :: S) σ E) : Okg G l cc nL own rt R X Z k0 n0 pc (a0 :: a1 :: a2 :: a3 :: a4 :: a5 :: a6 :: a7 :: a8 :: a9 :: a10 :: some (.int x) :: r) S σ E := fun a ha => gw_iload rfl d (k a ha)
theorem ok_lload11 {a0 a1 a2 a3 a4 a5 a6 a7 a8 a9 a10 : Option Value} {r : List (Option Value)} {x : Int64} (d : decode cc pc = .ok (.lload 11, 2)) (k : Okg G l cc nL own rt R X Z k0 n0 (pc + 2) (a0 :: a1 :: a2 :: a3 :: a4 :: a5 :: a6 :: a7 :: a8 :: a9 :: a10 :: some (.long x) :: r) (.long x :: S) σ E) : Okg G l cc nL own rt R X Z k0 n0 pc (a0 :: a1 :: a2 :: a3 :: a4 :: a5 :: a6 :: a7 :: a8 :: a9 :: a10 :: some (.long x) :: r) S σ E := fun a ha => gw_lload rfl d (k a ha)
theorem ok_aload11 {a0 a1 a2 a3 a4 a5 a6 a7 a8 a9 a10 : Option Value} {r : List (Option Value)} {x : Nat} (d : decode cc pc = .ok (.aload 11, 2)) (k : Okg G l cc nL own rt R X Z k0 n0 (pc + 2) (a0 :: a1 :: a2 :: a3 :: a4 :: a5 :: a6 :: a7 :: a8 :: a9 :: a10 :: some (k_rr G x) :: r) (k_rr G x :: S) σ E) : Okg G l cc nL own rt R X Z k0 n0 pc (a0 :: a1 :: a2 :: a3 :: a4 :: a5 :: a6 :: a7 :: a8 :: a9 :: a10 :: some (k_rr G x) :: r) S σ E := fun a ha => gw_aload rfl d (k a ha)
theorem ok_istore11 {a0 a1 a2 a3 a4 a5 a6 a7 a8 a9 a10 : Option Value} {b : Option Value} {r : List (Option Value)} {x : Int32} (d : decode cc pc = .ok (.istore 11, 2)) (ho : k_oc a10 = 1) (hn : 11 < nL) (k : Okg G l cc nL own rt R X Z k0 n0 (pc + 2) (a0 :: a1 :: a2 :: a3 :: a4 :: a5 :: a6 :: a7 :: a8 :: a9 :: a10 :: some (.int x) :: r) S σ E) : Okg G l cc nL own rt R X Z k0 n0 pc (a0 :: a1 :: a2 :: a3 :: a4 :: a5 :: a6 :: a7 :: a8 :: a9 :: a10 :: b :: r) (.int x :: S) σ E := fun a ha => gw_istore (npv_s rfl ho) hn d (k a ha)
theorem ok_astore11 {a0 a1 a2 a3 a4 a5 a6 a7 a8 a9 a10 : Option Value} {b : Option Value} {r : List (Option Value)} {x : Nat} (d : decode cc pc = .ok (.astore 11, 2)) (ho : k_oc a10 = 1) (hn : 11 < nL) (k : Okg G l cc nL own rt R X Z k0 n0 (pc + 2) (a0 :: a1 :: a2 :: a3 :: a4 :: a5 :: a6 :: a7 :: a8 :: a9 :: a10 :: some (k_rr G x) :: r) S σ E) : Okg G l cc nL own rt R X Z k0 n0 pc (a0 :: a1 :: a2 :: a3 :: a4 :: a5 :: a6 :: a7 :: a8 :: a9 :: a10 :: b :: r) (k_rr G x :: S) σ E := fun a ha => gw_astore (npv_s rfl ho) hn d (k a ha)
theorem ok_lstore11 {a0 a1 a2 a3 a4 a5 a6 a7 a8 a9 a10 : Option Value} {b b2 : Option Value} {r : List (Option Value)} {x : Int64} (d : decode cc pc = .ok (.lstore 11, 2)) (ho : k_oc a10 = 1) (hn : 11 + 1 < nL) (k : Okg G l cc nL own rt R X Z k0 n0 (pc + 2) (a0 :: a1 :: a2 :: a3 :: a4 :: a5 :: a6 :: a7 :: a8 :: a9 :: a10 :: some (.long x) :: none :: r) S σ E) : Okg G l cc nL own rt R X Z k0 n0 pc (a0 :: a1 :: a2 :: a3 :: a4 :: a5 :: a6 :: a7 :: a8 :: a9 :: a10 :: b :: b2 :: r) (.long x :: S) σ E := fun a ha => gw_lstore (npv_s rfl ho) hn d (k a ha)
theorem ok_iinc11 {a0 a1 a2 a3 a4 a5 a6 a7 a8 a9 a10 : Option Value} {r : List (Option Value)} {x v : Int32} {n : Int} (d : decode cc pc = .ok (.iinc 11 n, 3)) (hv : x + Int32.ofInt n = v) (ho : k_oc a10 = 1) (hn : 11 < nL) (k : Okg G l cc nL own rt R X Z k0 n0 (pc + 3) (a0 :: a1 :: a2 :: a3 :: a4 :: a5 :: a6 :: a7 :: a8 :: a9 :: a10 :: some (.int v) :: r) S σ E) : Okg G l cc nL own rt R X Z k0 n0 pc (a0 :: a1 :: a2 :: a3 :: a4 :: a5 :: a6 :: a7 :: a8 :: a9 :: a10 :: some (.int x) :: r) S σ E := fun a ha => gw_iinc rfl hv (npv_s rfl ho) hn d (k a ha)
theorem ok_ldivG {x y : Int64} (d : decode cc pc = .ok (.ldiv, 1)) (k : Okg G l cc nL own rt R X Z k0 n0 (pc + 1) L (.long (x / y) :: S) σ E) : Okg G l cc nL own rt R X Z k0 n0 pc L (.long y :: .long x :: S) σ (if y = 0 then none else E) := by
  intro a ha
  by_cases h : y = 0
  · rw [if_pos h] at ha; cases ha
  · rw [if_neg h] at ha; exact gw_ldiv d h (k a ha)
theorem ok_lremG {x y : Int64} (d : decode cc pc = .ok (.lrem, 1)) (k : Okg G l cc nL own rt R X Z k0 n0 (pc + 1) L (.long (jrl x y) :: S) σ E) : Okg G l cc nL own rt R X Z k0 n0 pc L (.long y :: .long x :: S) σ (if y = 0 then none else E) := by
  intro a ha
  by_cases h : y = 0
  · rw [if_pos h] at ha; cases ha
  · rw [if_neg h] at ha; exact gw_lrem d h (k a ha)
theorem ok_tsw {x : Int32} {df hi : Int} {offs : Array Int} {len n tgt : Nat} {f : Nat → Option α} (d : decode cc pc = .ok (.tableswitch df 0 hi offs, len)) (hn : hi + 1 = n) (ht : (pc : Int) + df = (tgt : Int))
    (kdf : Okg G l cc nL own rt R X Z k0 n0 tgt L S σ E) (kj : ∀ j, j < n → ∃ (off : Int) (tg : Nat), offs[j]? = some off ∧ (pc : Int) + off = (tg : Int) ∧ Okg G l cc nL own rt R X Z k0 n0 tg L S σ (f j)) : Okg G l cc nL own rt R X Z k0 n0 pc L (.int x :: S) σ (e_sw x n f E) := by
  intro a ha p e s m args below meth c H locs ls C X0 ⟨hP, hD⟩ hS hl
  by_cases h : k_in x n = true
  · simp only [e_sw, h, if_true] at ha
    have hin := vp_in_iff.mp (inb_in h)
    obtain ⟨off, tg, h1, h2, h3⟩ := kj x.toNatClampNeg (by unfold Int32.toNatClampNeg; omega)
    refine lv_tableIn C.1 C.2.1 d (by omega) (by omega) (off := off) ?_ h2 (h3 a ha p e s m args below meth c H locs ls C X0 ⟨hP, hD⟩ hS hl)
    rw [Int.sub_zero]
    exact h1
  · simp only [e_sw, h] at ha
    have hin : ¬ vp_in x n := fun q => h (decide_eq_true q)
    rw [vp_in_iff] at hin
    refine lv_tableOut C.1 C.2.1 d (by omega) ht (kdf a ha p e s m args below meth c H locs ls C X0 ⟨hP, hD⟩ hS hl)
theorem ok_get {index ci j k N : Nat} {C : String} {T : u_T} {v : Value} (lk : FLk own index ci j C T N) (h8 : ci < 8) (hk : k < 123 ∧ k_kd k = ci) (hv : (k_fv G ci k (σ k))[j]? = some v) (d : decode cc pc = .ok (.getfield index, 3))
    (kk : Okg G l cc nL own rt R X Z k0 n0 (pc + 3) L (v :: S) σ E) : Okg G l cc nL own rt R X Z k0 n0 pc L (k_rr G k :: S) σ E := by
  intro a ha p e s m args below meth c H locs ls C X0 ⟨hP, hD⟩ hS hl
  obtain ⟨h1, h2, h3, h4⟩ := lk
  have he : (k_wl G σ)[k]? = some (gad G k, .inr (ci, k_fv G ci k (σ k))) := by rw [wl_at hk.1, entf_o hk.2 h8]
  have kk' := kk a ha p e s m args below meth c H locs ls C X0 ⟨hP, hD⟩ hS hl
  rcases h4 with h4 | ⟨host, h4⟩
  · exact va_get C.1 C.2.1 C.2.2.2.2.1 h2 C.2.2.2.1 C.2.2.2.2.2.2.2.1 hP k he h1 j h3 (C.2.2.2.2.1 _ h4) (fun _ q => q) hv d kk'
  · exact va_getN C.1 C.2.1 C.2.2.2.2.1 h2 C.2.2.2.1 C.2.2.2.2.2.2.2.1 hP k he h1 j h3 (nest_use h4 (C.2.2.2.2.2.2.2.2.1 _ h4)) (fun _ q => q) hv d kk'
theorem ok_put {index ci j k N : Nat} {C : String} {T : u_T} {x : Int32} {ty : FieldType} {F : Sg → Option α} (lk : FLk own index ci j C T N) (h8 : ci < 8) (hk : k < 123 ∧ k_kd k = ci) (ty0 : Nat → FieldType) (hty : ∀ k, k < N → parseFieldDescriptor (T k).2.2.1 = some (ty0 k)) (hnm : ∀ a, a < N → ∀ b, b < N → a ≠ b → (T a).2.1 ≠ (T b).2.1) (hfin : (T j).2.2.2 = false)
    (hd : parseFieldDescriptor (T j).2.2.1 = some ty) (hn : narrow ty (.int x) = .int x) (hfit : fits ty (.int x) = true) (hlen : j < (k_fv G ci k (σ k)).length) (hset : (k_fv G ci k (σ k)).set j (.int x) = k_fv G ci k (upd (σ k) j x)) (d : decode cc pc = .ok (.putfield index, 3))
    (kk : ∀ σ' : Sg, Okg G l cc nL own rt R X Z k0 n0 (pc + 3) L S σ' (F σ')) : Okg G l cc nL own rt R X Z k0 n0 pc L (.int x :: k_rr G k :: S) σ (e_lt (k_up σ k j x) F) := by
  intro a ha p e s m args below meth c H locs ls C X0 ⟨hP, hD⟩ hS hl
  obtain ⟨h1, h2, h3, h4⟩ := lk
  have he : (k_wl G σ)[k]? = some (gad G k, .inr (ci, k_fv G ci k (σ k))) := by rw [wl_at hk.1, entf_o hk.2 h8]
  have e2 : (k_wl G σ).set k (gad G k, .inr (ci, (k_fv G ci k (σ k)).set j (.int x))) = k_wl G (k_up σ k j x) := by
    rw [← wl_ups, entf_o hk.2 h8, hset]
  have kk' := fun (H1 : Heap) (locs1 : List Loc) (hP1 : va_P G.2.1 cls8 ((k_wl G σ).set k (gad G k, .inr (ci, (k_fv G ci k (σ k)).set j (.int x)))) H1) (hD1 : va_D (gA G) ((k_wl G σ).set k (gad G k, .inr (ci, (k_fv G ci k (σ k)).set j (.int x))))) (hS1 : va_S (gA G) s.heap H1 locs1) =>
    kk (k_up σ k j x) a ha p e s m args below meth c H1 locs1 ls C X0 ⟨e2 ▸ hP1, e2 ▸ hD1⟩ hS1 hl
  rcases h4 with h4 | ⟨host, h4⟩
  · exact va_put C.1 C.2.1 C.2.2.2.2.1 h2 ty0 hty hnm C.2.2.2.1 C.2.2.2.2.2.2.2.1 hP hD hS k he h1 j h3 (C.2.2.2.2.1 _ h4) (fun _ q => q) hfin hd hn hfit hlen d kk'
  · exact va_putN C.1 C.2.1 C.2.2.2.2.1 h2 ty0 hty hnm C.2.2.2.1 C.2.2.2.2.2.2.2.1 hP hD hS k he h1 j h3 (nest_use h4 (C.2.2.2.2.2.2.2.2.1 _ h4)) (fun _ q => q) hfin hd hn hfit hlen d kk'
theorem ok_iald {k n : Nat} {i : Int32} (hk : k < 123 ∧ k_kd k = 8 ∧ k_ln k = n) (d : decode cc pc = .ok (.iaload, 1)) (kk : Okg G l cc nL own rt R X Z k0 n0 (pc + 1) L (.int (σ k i.toNatClampNeg) :: S) σ E) : Okg G l cc nL own rt R X Z k0 n0 pc L (.int i :: k_rr G k :: S) σ (e_gd (k_in i n) E) := by
  intro a ha p e s m args below meth c H locs ls C X0 ⟨hP, hD⟩ hS hl
  by_cases h : k_in i n = true
  · rw [e_gd, if_pos h] at ha
    exact va_iald C.1 C.2.1 C.2.2.2.2.2.2.2.1 hP k 0 (by rw [wl_at hk.1, entf_a hk.2.1]) rfl (by rw [hk.2.2]; exact inb_in h) d (kk a ha p e s m args below meth c H locs ls C X0 ⟨hP, hD⟩ hS hl)
  · rw [e_gd, if_neg h] at ha; cases ha
theorem ok_zald {k n : Nat} {i : Int32} (hk : k < 123 ∧ k_kd k = 9 ∧ k_ln k = n) (d : decode cc pc = .ok (.baload, 1)) (kk : Okg G l cc nL own rt R X Z k0 n0 (pc + 1) L (.int (σ k i.toNatClampNeg) :: S) σ E) : Okg G l cc nL own rt R X Z k0 n0 pc L (.int i :: k_rr G k :: S) σ (e_gd (k_in i n) E) := by
  intro a ha p e s m args below meth c H locs ls C X0 ⟨hP, hD⟩ hS hl
  by_cases h : k_in i n = true
  · rw [e_gd, if_pos h] at ha
    exact va_zald C.1 C.2.1 C.2.2.2.2.2.2.2.1 hP k 1 (by rw [wl_at hk.1, entf_z hk.2.1]) rfl (by rw [hk.2.2]; exact inb_in h) d (kk a ha p e s m args below meth c H locs ls C X0 ⟨hP, hD⟩ hS hl)
  · rw [e_gd, if_neg h] at ha; cases ha
theorem ok_iast {k n : Nat} {i x : Int32} {F : Sg → Option α} (hk : k < 123 ∧ k_kd k = 8 ∧ k_ln k = n) (d : decode cc pc = .ok (.iastore, 1)) (kk : ∀ σ' : Sg, Okg G l cc nL own rt R X Z k0 n0 (pc + 1) L S σ' (F σ')) : Okg G l cc nL own rt R X Z k0 n0 pc L (.int x :: .int i :: k_rr G k :: S) σ (e_wr σ k i n x F) := by
  intro a ha p e s m args below meth c H locs ls C X0 ⟨hP, hD⟩ hS hl
  by_cases h : k_in i n = true
  · rw [e_wr, if_pos h] at ha
    refine va_iast C.1 C.2.1 C.2.2.2.2.2.2.2.1 hP hD hS k 0 (by rw [wl_at hk.1, entf_a hk.2.1]) rfl (by rw [hk.2.2]; exact inb_in h) d (fun H1 locs1 hP1 hD1 hS1 => ?_)
    rw [← entf_a hk.2.1, wl_ups] at hP1 hD1
    exact kk _ a ha p e s m args below meth c H1 locs1 ls C X0 ⟨hP1, hD1⟩ hS1 hl
  · rw [e_wr, if_neg h] at ha; cases ha
theorem ok_zast {k n : Nat} {i x : Int32} {F : Sg → Option α} (hk : k < 123 ∧ k_kd k = 9 ∧ k_ln k = n) (hx : vp_nar .boolean x = x) (d : decode cc pc = .ok (.bastore, 1)) (kk : ∀ σ' : Sg, Okg G l cc nL own rt R X Z k0 n0 (pc + 1) L S σ' (F σ')) : Okg G l cc nL own rt R X Z k0 n0 pc L (.int x :: .int i :: k_rr G k :: S) σ (e_wr σ k i n x F) := by
  intro a ha p e s m args below meth c H locs ls C X0 ⟨hP, hD⟩ hS hl
  by_cases h : k_in i n = true
  · rw [e_wr, if_pos h] at ha
    refine va_zast C.1 C.2.1 C.2.2.2.2.2.2.2.1 hP hD hS k 1 (by rw [wl_at hk.1, entf_z hk.2.1]) rfl (by rw [hk.2.2]; exact inb_in h) d (fun H1 locs1 hP1 hD1 hS1 => ?_)
    rw [hx, ← entf_z hk.2.1, wl_ups] at hP1 hD1
    exact kk _ a ha p e s m args below meth c H1 locs1 ls C X0 ⟨hP1, hD1⟩ hS1 hl
  · rw [e_wr, if_neg h] at ha; cases ha
/-- a static row: its reference, its places -/
theorem ok_gets {t index : Nat} (ht : t < 3) (hl0 : Cond.fieldLink own index "CoatDinner" (snm t) "[I" ∈ k_gw ∨ ∃ host, Cond.fieldLinkNest own index "CoatDinner" (snm t) "[I" host ∈ k_nw) (d : decode cc pc = .ok (.getstatic index, 3)) (kk : Okg G l cc nL own rt R X Z k0 n0 (pc + 3) L (k_sr G t :: S) σ E) : Okg G l cc nL own rt R X Z k0 n0 pc L S σ E := by
  intro a ha p e s m args below meth c H locs ls C X0 ⟨hP, hD⟩ hS hl
  have kk' := kk a ha p e s m args below meth c H locs ls C X0 ⟨hP, hD⟩ hS hl
  have hZ := (C.2.2.2.2.2.2.2.2.2 t ht).1
  rcases hl0 with h4 | ⟨host, h4⟩
  · exact va_gets C.1 C.2.1 hZ hS C.2.2.2.1 (C.2.2.2.2.1 _ h4) (fun _ q => q) d kk'
  · exact va_getsN C.1 C.2.1 hZ hS C.2.2.2.1 (nest_use h4 (C.2.2.2.2.2.2.2.2.1 _ h4)) (fun _ q => q) d kk'
theorem ok_sald {t n : Nat} {i : Int32} (ht : t < 3) (hn : sln t = n) (d : decode cc pc = .ok (.iaload, 1)) (kk : Okg G l cc nL own rt R X Z k0 n0 (pc + 1) L (.int (stv t i.toNatClampNeg) :: S) σ E) : Okg G l cc nL own rt R X Z k0 n0 pc L (.int i :: k_sr G t :: S) σ (e_gd (k_in i n) E) := by
  intro a ha p e s m args below meth c H locs ls C X0 ⟨hP, hD⟩ hS hl
  by_cases h : k_in i n = true
  · rw [e_gd, if_pos h] at ha
    exact va_ti C.1 C.2.1 (C.2.2.2.2.2.2.2.2.2 t ht).2 hS (by rw [hn]; exact inb_in h) rfl d (kk a ha p e s m args below meth c H locs ls C X0 ⟨hP, hD⟩ hS hl)
  · rw [e_gd, if_neg h] at ha; cases ha
end OK
section RET
variable {G : KW} {l : Launch} {cc : ByteArray} {nL : Nat} {own : String} {R : Room} {pc : Nat} {L : List (Option Value)} {σ : Sg}
theorem ok_iret {x : Int32} (d : decode cc pc = .ok (.ireturn, 1)) : Okk G l cc nL own (some .int) R ccI pc L [.int x] σ (some (x, σ)) := by
  intro a ha p e s m args below meth c H locs ls C X0 ⟨hP, hD⟩ hS hl
  cases ha
  exact W.iret C.1 C.2.1 C.2.2.2.2.2.2.1 (fun t ht hw => ⟨_, _, rfl, ⟨rfl, rfl⟩, by rw [ht]; exact hP, hD, hS.F ht⟩) hS.2.2 d (hlocks := C.2.2.2.2.2.1)
theorem ok_lret {x : Int64} (d : decode cc pc = .ok (.lreturn, 1)) : Okk G l cc nL own (some .long) R ccJ pc L [.long x] σ (some (x, σ)) := by
  intro a ha p e s m args below meth c H locs ls C X0 ⟨hP, hD⟩ hS hl
  cases ha
  exact W.lret C.1 C.2.1 C.2.2.2.2.2.2.1 (fun t ht hw => ⟨_, _, rfl, ⟨rfl, rfl⟩, by rw [ht]; exact hP, hD, hS.F ht⟩) hS.2.2 d (hlocks := C.2.2.2.2.2.1)
theorem ok_vret (d : decode cc pc = .ok (.return_, 1)) : Okk G l cc nL own none R ccV pc L [] σ (some σ) := by
  intro a ha p e s m args below meth c H locs ls C X0 ⟨hP, hD⟩ hS hl
  cases ha
  exact W.vret C.1 C.2.1 C.2.2.2.2.2.2.1 (fun t ht hw => ⟨_, _, rfl, ⟨rfl, rfl⟩, by rw [ht]; exact hP, hD, hS.F ht⟩) hS.2.2 d (hlocks := C.2.2.2.2.2.1)
theorem nar_z {x : Int32} (h : x = 0 ∨ x = 1) : narrow .boolean (.int x) = .int x := by rcases h with rfl | rfl <;> decide
theorem ok_zret {x : Int32} (d : decode cc pc = .ok (.ireturn, 1)) : Okk G l cc nL own (some .boolean) R ccI pc L [.int x] σ (e_rz x σ) := by
  intro a ha p e s m args below meth c H locs ls C X0 ⟨hP, hD⟩ hS hl
  by_cases h : x = 0 ∨ x = 1
  · rw [e_rz, if_pos h] at ha
    cases ha
    exact W.zret C.1 C.2.1 C.2.2.2.2.2.2.1 (nar_z h) (fun t ht hw => ⟨_, _, rfl, ⟨rfl, rfl⟩, by rw [ht]; exact hP, hD, hS.F ht⟩) hS.2.2 d (hlocks := C.2.2.2.2.2.1)
  · rw [e_rz, if_neg h] at ha; cases ha
theorem ok_aret {k : Nat} {ft : FieldType} (hft : (∃ n, ft = .object n) ∨ ∃ t, ft = .array t) (d : decode cc pc = .ok (.areturn, 1)) : Okk G l cc nL own (some ft) R (ccR G) pc L [k_rr G k] σ (some (k, σ)) := by
  intro a ha p e s m args below meth c H locs ls C X0 ⟨hP, hD⟩ hS hl
  cases ha
  exact W.aret C.1 C.2.1 C.2.2.2.2.2.2.1 hft (Or.inr ⟨_, rfl⟩) (fun t ht hw => ⟨_, _, rfl, ⟨rfl, rfl⟩, by rw [ht]; exact hP, hD, hS.F ht⟩) hS.2.2 d (hlocks := C.2.2.2.2.2.1)
end RET
/-! ===== calls ===== -/
def MOk (y : MethodName) (cb : ByteArray) (mL : Nat) (rt : Option FieldType) (n : Nat) : Prop := Cond.code y cb mL rt ∈ k_gw ∧ Cond.initialized y.cls ∈ k_gw ∧ (y.cls ≠ "java/lang/invoke/MethodHandle" ∧ y.cls ≠ "java/lang/invoke/VarHandle" ∧ (parseMethodDescriptor y.desc).map (fun d => d.parameters.length) = some n)
def MLk (own : String) (index : Nat) (y : MethodName) : Prop := Cond.methodLink own index y ∈ k_gw ∨ ∃ host, Cond.methodLinkNest own index y host ∈ k_nw
section CALL
variable {p : Program} {l : Launch} {e : Env} {R : Room} {s : State} {m : MethodId} {args : Array Value} {below : List Frame} {meth : Method} {c : Code} {H : Heap} {locs : List Loc} {cells slots : Nat} {Q : State → Prop}
theorem W_call {G : KW} {pc mc ms : Nat} {ls : Array Slot} {st0 rest : List Value} {Q0 : Option Value → va_W → Prop} {a : Array Value} (hr : va_Run p l e R s m args below meth c H locs cells slots mc ms (F0 m pc ls st0) rest (QQq G Q0 a) (gA G)) (hS : va_S (gA G) s.heap H locs)
    (kk : ∀ (v : Option Value) (ws : va_W) (H1 : Heap) (locs1 : List Loc), Q0 v ws → va_P G.2.1 cls8 ws H1 → va_D (gA G) ws → va_S (gA G) s.heap H1 locs1 → W p l e R s m args below meth c H1 locs1 (cells + mc) (slots + ms) Q (F0 m (pc + 3) ls (v.toList ++ rest))) : W p l e R s m args below meth c H locs cells slots Q (F0 m pc ls st0) := by
  intro T hT X
  obtain ⟨v, st₀, t, T', L, h0, X', hL, e1, e2, ⟨v', ws, hv, hq, hP, hD, hz, hk⟩, st⟩ := hr T hT X
  cases hv
  rw [h0] at hz hk
  obtain ⟨t2, a1, b1⟩ := kk v ws T'.heap (locs ++ L) hq (by rw [e1]; exact hP) hD
    ⟨Nat.le_trans hS.1 (by rw [e1]; exact hz), fun q h1 h2 => by rw [e1, hk q (Nat.lt_of_lt_of_le h1 hS.1) h2]; exact hS.2.1 q h1 h2, fun q hq => by
      rcases List.mem_append.mp hq with h | h
      · exact hS.2.2 q h
      · exact hL q h⟩ T' rfl X'
  exact ⟨t2, st t2 a1, b1⟩
theorem St_call {G : KW} (hSt : k_St G s) (hS : va_S (gA G) s.heap H locs) {U : State} (hU : U.heap = H) (hW : s.WarmedH U.vm) : k_St G U :=
  hSt.to hW.alike (fun w hw => nest_warm hw hW (hSt.2.1 w hw)) (fun a h1 h2 => by rw [hU]; exact hS.2.1 a h1 h2)
end CALL
section CALL2
variable {G : KW} {l : Launch} {cc : ByteArray} {nL : Nat} {own : String} {rt : Option FieldType} {R : Room} {α β : Type} {X : State → Array Value → Method → Prop} {Z : α → List Frame → Array Value → State → State → Prop} {k0 n0 : Nat} {cv : α → Option Value × Sg} {cb : β → Option Value × Sg} {pc : Nat} {L : List (Option Value)} {S : List Value} {σ : Sg}
  {y : MethodName} {code2 : ByteArray} {mL fr lo index : Nat} {rt2 : Option FieldType} {fE : Option β} {F : β → Option α}
theorem ok_cV {As S' : List Value} {k ci N n : Nat} {C : String} {T : u_T} (ct : ∀ b, fE = some b → MetF G l y code2 mL rt2 fr lo (k_rr G k :: As) (k_wl G σ) (cb b).1 (k_wl G (cb b).2)) (mo : MOk y code2 mL rt2 n) (hi : Cond.instanceMethod y ∈ k_gw ∧ Cond.selects y.cls y y ∈ k_gw) (lk : MLk own index y) (hn : As.length = n)
    (hc : cls8[ci]? = some (C, T, N)) (hC : C = y.cls) (h8 : ci < 8) (hk : k < 123 ∧ k_kd k = ci) (hR : R.frames ≥ fr + 1 ∧ R.locals ≥ 8 + (mL + 11) + lo) (hst : S = As.reverse ++ k_rr G k :: S') (hcs : k0 ≤ R.cells ∧ n0 ≤ R.slots) (hro : (S'.map fun v => v.category).sum ≤ 8) (d : decode cc pc = .ok (.invokevirtual index, 3))
    (kk : ∀ b, Okg G l cc nL own rt R X Z k0 n0 (pc + 3) L ((cb b).1.toList ++ S') (cb b).2 (F b)) : Okg G l cc nL own rt R X Z k0 n0 pc L S σ (fE.bind F) := by
  intro a ha p e s m args below meth c H locs ls Cc X0 ⟨hP, hD⟩ hS hl
  subst hst; subst hC
  cases hb : fE with
  | none => rw [hb] at ha; cases ha
  | some b =>
    rw [hb] at ha
    have hM := ct b hb
    have he : (k_wl G σ)[k]? = some (gad G k, .inr (ci, k_fv G ci k (σ k))) := by rw [wl_at hk.1, entf_o hk.2 h8]
    have ht := Cc.2.2.2.2.1
    have hcf : CallFix p m c cc nL s args k_gw own := ⟨Cc.1, Cc.2.1, Cc.2.2.1, Cc.2.2.2.1, ht⟩
    have hpre : PreV s H y.cls (gad G k) (PPp G (k_rr G k :: As) (k_wl G σ)) As := ⟨PP_blind, va_recv Cc.2.2.2.2.2.2.2.1 hP hc he, fun U hU hW => ⟨rfl, St_call Cc.2.2.2.2.2.2.2 hS hU hW, by rw [hU]; exact hP, hD⟩⟩
    have hrun : va_Run p l e R s m args below meth c H locs k0 n0 0 0 (F0 m pc ls (As.reverse ++ k_rr G k :: S')) S' (QQq G (fun v' w' => v' = (cb b).1 ∧ w' = k_wl G (cb b).2) (k_rr G k :: As).toArray) (gA G) := by
      rcases lk with lk | ⟨host, lk⟩
      · exact va_runV hcf hM ⟨callB_of n ht (good_gw mo.1) rfl rfl rfl (ht _ mo.2.1) (ht _ lk) mo.2.2 ⟨hR.1, hR.2⟩, ht _ hi.1, ht _ hi.2⟩ hpre rfl hn hl.1 rfl (lv_room hro) d hcs
      · exact va_runVN hcf hM ⟨va_cnB n ht (good_gw mo.1) rfl rfl rfl (Cc.2.2.2.2.2.2.2.2.1 _ lk) (ht _ mo.2.1) mo.2.2 ⟨hR.1, hR.2⟩, ht _ hi.1, ht _ hi.2⟩ hpre rfl hn hl.1 rfl (lv_room hro) d hcs
    refine W_call hrun hS (fun v ws H1 locs1 hq hP1 hD1 hS1 => ?_)
    obtain ⟨rfl, rfl⟩ := hq
    exact kk b a ha p e s m args below meth c H1 locs1 ls Cc X0 ⟨hP1, hD1⟩ hS1 hl
theorem ok_cS {As S' : List Value} {n : Nat} (ct : ∀ b, fE = some b → MetF G l y code2 mL rt2 fr lo As (k_wl G σ) (cb b).1 (k_wl G (cb b).2)) (mo : MOk y code2 mL rt2 n) (hi : Cond.static y ∈ k_gw) (lk : MLk own index y) (hn : As.length = n)
    (hR : R.frames ≥ fr + 1 ∧ R.locals ≥ 8 + (mL + 11) + lo) (hst : S = As.reverse ++ S') (hcs : k0 ≤ R.cells ∧ n0 ≤ R.slots) (hro : (S'.map fun v => v.category).sum ≤ 8) (d : decode cc pc = .ok (.invokestatic index, 3))
    (kk : ∀ b, Okg G l cc nL own rt R X Z k0 n0 (pc + 3) L ((cb b).1.toList ++ S') (cb b).2 (F b)) : Okg G l cc nL own rt R X Z k0 n0 pc L S σ (fE.bind F) := by
  intro a ha p e s m args below meth c H locs ls Cc X0 ⟨hP, hD⟩ hS hl
  subst hst
  cases hb : fE with
  | none => rw [hb] at ha; cases ha
  | some b =>
    rw [hb] at ha
    have hM := ct b hb
    have ht := Cc.2.2.2.2.1
    have hcf : CallFix p m c cc nL s args k_gw own := ⟨Cc.1, Cc.2.1, Cc.2.2.1, Cc.2.2.2.1, ht⟩
    have hpre : PreS s H (PPp G As (k_wl G σ)) As := ⟨PP_blind, fun U hU hW => ⟨rfl, St_call Cc.2.2.2.2.2.2.2 hS hU hW, by rw [hU]; exact hP, hD⟩⟩
    have hrun : va_Run p l e R s m args below meth c H locs k0 n0 0 0 (F0 m pc ls (As.reverse ++ S')) S' (QQq G (fun v' w' => v' = (cb b).1 ∧ w' = k_wl G (cb b).2) As.toArray) (gA G) := by
      rcases lk with lk | ⟨host, lk⟩
      · exact va_runS hcf hM ⟨callB_of n ht (good_gw mo.1) rfl rfl rfl (ht _ mo.2.1) (ht _ lk) mo.2.2 ⟨hR.1, hR.2⟩, ht _ hi⟩ hpre rfl hn hl.1 rfl (lv_room hro) d hcs
      · exact va_runSN hcf hM ⟨va_cnB n ht (good_gw mo.1) rfl rfl rfl (Cc.2.2.2.2.2.2.2.2.1 _ lk) (ht _ mo.2.1) mo.2.2 ⟨hR.1, hR.2⟩, ht _ hi, trivial⟩ hpre rfl hn hl.1 rfl (lv_room hro) d hcs
    refine W_call hrun hS (fun v ws H1 locs1 hq hP1 hD1 hS1 => ?_)
    obtain ⟨rfl, rfl⟩ := hq
    exact kk b a ha p e s m args below meth c H1 locs1 ls Cc X0 ⟨hP1, hD1⟩ hS1 hl
/-- a method's contract, out of its walk -/
theorem met_of {As : List Value} {E : Option α} (hy : plainName y.cls = true) (hle : (lg_sl As).length ≤ nL) (hL : asL 0 L = lv_args 0 As) (h : Okk G l cc nL y.cls rt (rmo fr lo) cv 0 L [] σ E) : ∀ a, E = some a → MetF G l y cc nL rt fr lo As (k_wl G σ) (cv a).1 (k_wl G (cv a).2) := by
  intro a ha
  refine Met.ofW (cc := cc) (maxL := nL) (ret := rt) hy rfl ?_
  intro p e s m args below meth c s₁ B hml hv
  obtain ⟨rfl, hSt, hP, hD⟩ := hv
  have hts := atoms_spec (ws := (Cond.code y cc nL rt :: k_gw)) B.pre
  have hown : s.vm.findClass y.cls = some m.cls := findClass_of_methodNamed B.named
  have hl := lv_entry As (n := nL) hle
  rw [lg_entry_eq]
  rw [← hL] at hl
  exact h a ha p e s m _ below meth c s.heap [] _ ⟨B.exec, B.bytes, hml, hown, fun w hw => hts w (List.mem_cons_of_mem _ hw), B.notSynchronized, B.returns, hSt⟩ trivial ⟨hP, hD⟩ va_S.rf hl
end CALL2

