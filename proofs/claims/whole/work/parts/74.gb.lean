/-! ===== single bits of an int ===== -/
def gb (x : Int32) (b : Nat) : Bool := x.toBitVec.getLsbD b
theorem jsl1 {b : Nat} (hb : b < 32) : jsl 1 (nI b) = nI (2 ^ b) := by
  have : jsl 1 (nI b) = nI (1 * 2 ^ b) := jsl_nI (m := 1) hb
  rw [this, Nat.one_mul]
theorem gb_pow {b i : Nat} (hi : i < 32) : gb (nI (2 ^ b)) i = decide (b = i) := by
  unfold gb
  rw [nI_bv, BitVec.getLsbD_ofNat, Nat.testBit_two_pow]
  simp [hi]
theorem gb_0 (b : Nat) : gb 0 b = false := by
  unfold gb
  simp
theorem gb_or {x : Int32} {b i : Nat} (hb : b < 32) (hi : i < 32) : gb (x ||| jsl 1 (nI b)) i = (gb x i || decide (b = i)) := by
  rw [jsl1 hb, ← gb_pow hi]
  unfold gb
  rw [Int32.toBitVec_or, BitVec.getLsbD_or]
theorem gb_ext {x y : Int32} (h : ∀ i, i < 32 → gb x i = gb y i) : x = y := by
  apply Int32.toBitVec_inj.mp
  exact BitVec.eq_of_getLsbD_eq (fun i hi => h i hi)
theorem gb_and {x : Int32} {b : Nat} (hb : b < 32) : (x &&& jsl 1 (nI b) = 0) ↔ gb x b = false := by
  rw [jsl1 hb]
  have e : ∀ i, i < 32 → gb (x &&& nI (2 ^ b)) i = (gb x i && decide (b = i)) := fun i hi => by
    rw [← gb_pow hi]
    unfold gb
    rw [Int32.toBitVec_and, BitVec.getLsbD_and]
  constructor
  · intro h
    have := e b hb
    rw [h, gb_0] at this
    simpa using this.symm
  · intro h
    refine gb_ext (fun i hi => ?_)
    rw [e i hi, gb_0]
    by_cases q : b = i
    · subst q; rw [h]; rfl
    · rw [decide_eq_false q, Bool.and_false]
theorem gb_jsr {x : Int32} {b : Nat} (hb : b < 32) : (jsr x (nI b) &&& 1 = 1) ↔ gb x b = true := by
  have e0 : gb (jsr x (nI b)) 0 = gb x b := by
    unfold gb jsr
    rw [Int32.toBitVec_shiftRight]
    unfold BitVec.sshiftRight'
    rw [k32 b hb, BitVec.getLsbD_sshiftRight]
    simp [hb]
  have e1 : ∀ i, i < 32 → gb (jsr x (nI b) &&& 1) i = (gb (jsr x (nI b)) i && decide (0 = i)) := fun i hi => by
    have : (1 : Int32) = nI (2 ^ 0) := rfl
    rw [this, ← gb_pow hi]
    unfold gb
    rw [Int32.toBitVec_and, BitVec.getLsbD_and]
  have e2 : ∀ i, i < 32 → gb 1 i = decide (0 = i) := fun i hi => gb_pow (b := 0) hi
  constructor
  · intro h
    have := e1 0 (by decide)
    rw [h, e0, e2 0 (by decide)] at this
    simpa using this.symm
  · intro h
    refine gb_ext (fun i hi => ?_)
    rw [e1 i hi, e2 i hi]
    by_cases q : 0 = i
    · subst q; rw [e0, h]; rfl
    · rw [decide_eq_false q, Bool.and_false]
theorem gb_z {x : Int32} (h : x = 0) (b : Nat) : gb x b = false := by rw [h]; exact gb_0 b
/-- a row of words as a set of numbers -/
def Bs (f : Nat → Int32) (W : Nat) (S : Nat → Bool) : Prop := ∀ w, w < W → ∀ b, b < 32 → gb (f w) b = S (32 * w + b)
theorem Bs_get {f : Nat → Int32} {W : Nat} {S : Nat → Bool} (h : Bs f W S) {r : Nat} (hr : r < 32 * W) : gb (f (r / 32)) (r % 32) = S r := by
  rw [h (r / 32) (by omega) (r % 32) (by omega)]
  congr 1
  omega
theorem Bs_add {f : Nat → Int32} {W : Nat} {S : Nat → Bool} (h : Bs f W S) {r : Nat} : Bs (upd f (r / 32) (f (r / 32) ||| jsl 1 (nI (r % 32)))) W (fun x => S x || decide (r = x)) := by
  intro w hw b hb
  by_cases e : w = r / 32
  · subst e
    rw [upd_s, gb_or (by omega) hb, h _ hw b hb]
    congr 1
    exact decide_eq_decide.mpr (by omega)
  · rw [upd_n e, h w hw b hb]
    show S (32 * w + b) = (S (32 * w + b) || decide (r = 32 * w + b))
    rw [decide_eq_false (show ¬ r = 32 * w + b by omega), Bool.or_false]
/-- how many of the first -/
def cS' (S : Nat → Bool) : Nat → Nat := su nAdd 0 (fun r => bN (S r))
theorem cS'_s (S : Nat → Bool) (n : Nat) : cS' S (n + 1) = cS' S n + bN (S n) := rfl
theorem cS'_cong {S T : Nat → Bool} {n : Nat} (h : ∀ r, r < n → S r = T r) : cS' S n = cS' T n := su_cong n (fun r hr => by rw [h r hr])
theorem cS'_add {S : Nat → Bool} {r : Nat} (h : S r = false) : ∀ n, cS' (fun x => S x || decide (r = x)) n = cS' S n + bN (decide (r < n))
  | 0 => rfl
  | n + 1 => by
    rw [cS'_s, cS'_s, cS'_add h n]
    by_cases e : r = n
    · subst e
      rw [h, decide_eq_true (show r < r + 1 by omega), decide_eq_false (show ¬ r < r by omega)]
      simp [bN]
    · have : bN (S n || decide (r = n)) = bN (S n) := by rw [decide_eq_false e, Bool.or_false]
      rw [this]
      by_cases q : r < n
      · rw [decide_eq_true q, decide_eq_true (show r < n + 1 by omega)]; omega
      · rw [decide_eq_false q, decide_eq_false (show ¬ r < n + 1 by omega)]; omega
theorem cS'_le (S : Nat → Bool) : ∀ n, cS' S n ≤ n
  | 0 => Nat.le_refl _
  | n + 1 => by
    rw [cS'_s]
    have := cS'_le S n
    have hb : ∀ b : Bool, bN b ≤ 1 := fun b => by cases b <;> decide
    have := hb (S n)
    omega
