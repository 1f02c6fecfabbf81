/-! ===== steps: what all wear as a number, and what a step reaches ===== -/
def dc (a p : Nat) : Nat := a / 6 ^ p % 6
def cc (D : Nat → Nat) : Nat := D 0 + 6 * D 1 + 36 * D 2 + 216 * D 3 + 1296 * D 4
def dok (D : Nat → Nat) : Prop := ∀ p, p < 5 → D p < 6
theorem dc_lt (a p : Nat) : dc a p < 6 := Nat.mod_lt _ (by decide)
theorem dc_ok (a : Nat) : dok (dc a) := fun p _ => dc_lt a p
theorem dR_ok (a : Nat) : dok (dR a) := fun p _ => dR_lt a p
theorem cc_lt {D : Nat → Nat} (h : dok D) : cc D < 7776 := by
  have h0 := h 0 (by decide); have h1 := h 1 (by decide); have h2 := h 2 (by decide); have h3 := h 3 (by decide); have h4 := h 4 (by decide)
  unfold cc
  omega
theorem cc_cong {D E : Nat → Nat} (h : ∀ q, q < 5 → D q = E q) : cc D = cc E := by
  unfold cc
  rw [h 0 (by decide), h 1 (by decide), h 2 (by decide), h 3 (by decide), h 4 (by decide)]
theorem dc_cc {D : Nat → Nat} (h : dok D) : ∀ p, p < 5 → dc (cc D) p = D p := by
  intro p hp
  have h0 := h 0 (by decide); have h1 := h 1 (by decide); have h2 := h 2 (by decide); have h3 := h 3 (by decide); have h4 := h 4 (by decide)
  have : p = 0 ∨ p = 1 ∨ p = 2 ∨ p = 3 ∨ p = 4 := by omega
  unfold cc dc
  rcases this with rfl | rfl | rfl | rfl | rfl <;> simp only [Nat.reducePow, Nat.pow_zero, Nat.div_one] <;> omega
theorem cc_dc {a : Nat} (h : a < 7776) : cc (dc a) = a := by
  unfold cc dc
  simp only [Nat.reducePow, Nat.pow_zero, Nat.div_one]
  have e2 : a / 36 = a / 6 / 6 := by omega
  have e3 : a / 216 = a / 6 / 6 / 6 := by omega
  have e4 : a / 1296 = a / 6 / 6 / 6 / 6 := by omega
  rw [e2, e3, e4]
  have g1 := Nat.div_add_mod a 6
  have g2 := Nat.div_add_mod (a / 6) 6
  have g3 := Nat.div_add_mod (a / 6 / 6) 6
  have g4 := Nat.div_add_mod (a / 6 / 6 / 6) 6
  have g5 : a / 6 / 6 / 6 / 6 % 6 = a / 6 / 6 / 6 / 6 := Nat.mod_eq_of_lt (by omega)
  rw [g5]
  generalize a / 6 / 6 / 6 / 6 = r4 at *
  generalize a / 6 / 6 / 6 % 6 = f4 at *
  generalize a / 6 / 6 / 6 = r3 at *
  generalize a / 6 / 6 % 6 = f3 at *
  generalize a / 6 / 6 = r2 at *
  generalize a / 6 % 6 = f2 at *
  generalize a / 6 = r1 at *
  omega
theorem cc_up {D : Nat → Nat} {p x : Nat} (hp : p < 5) : cc (uN' D p x) + D p * 6 ^ p = cc D + x * 6 ^ p := by
  have : p = 0 ∨ p = 1 ∨ p = 2 ∨ p = 3 ∨ p = 4 := by omega
  unfold cc uN'
  rcases this with rfl | rfl | rfl | rfl | rfl <;> simp only [if_true, if_false, Nat.reduceEqDiff, reduceCtorEq, Nat.zero_ne_one, Nat.one_ne_zero, Nat.reducePow, Nat.pow_zero] <;> omega
theorem dok_up {D : Nat → Nat} {p x : Nat} (h : dok D) (hx : x < 6) : dok (uN' D p x) := fun q hq => by
  unfold uN'
  split
  · exact hx
  · exact h q hq
theorem dc_mk {a b c d e : Nat} (ha : a < 6) (hb : b < 6) (hc : c < 6) (hd : d < 6) (he : e < 6) : ∀ q, q < 5 → dc (6 * (6 * (6 * (6 * a + b) + c) + d) + e) q = mkD e d c b a q := by
  intro q hq
  have : q = 0 ∨ q = 1 ∨ q = 2 ∨ q = 3 ∨ q = 4 := by omega
  rcases this with rfl | rfl | rfl | rfl | rfl <;> simp only [dc, mkD, Nat.reducePow, Nat.pow_zero, Nat.div_one, if_true, if_false, Nat.reduceEqDiff, reduceCtorEq, Nat.zero_ne_one, Nat.one_ne_zero] <;> omega
theorem fold_swap2 {A : Type} {op : A → A → A} {u : A} (hm : cM op u) {G : (Nat → Nat) → A} (hG : ∀ D E : Nat → Nat, (∀ q, q < 5 → D q = E q) → G D = G E) : su op u (fun k => G (dc k)) 7776 = su op u (fun k => G (dR k)) 7776 := by
  have e : 7776 = 6 * (6 * (6 * (6 * 6))) := rfl
  rw [e, su_s5 hm, su_s5 hm]
  rw [s5_cong (G := fun a b c d e => G (mkD e d c b a)) (fun a b c d e ha hb hc hd he => hG _ _ (dc_mk ha hb hc hd he))]
  rw [s5_cong (F := fun a b c d e => G (dR (6 * (6 * (6 * (6 * a + b) + c) + d) + e))) (G := fun a b c d e => (fun a b c d e => (fun a b c d e => G (mkD e d c b a)) ((a + 1) % 6) ((b + 1) % 6) ((c + 1) % 6) ((d + 1) % 6) ((e + 1) % 6)) a b c d e) (fun a b c d e ha hb hc hd he => hG _ _ (dR_mk ha hb hc hd he))]
  rw [s5_rot hm (fun a b c d e => G (mkD e d c b a))]
theorem fd_swap2 {A : Type} {op : A → A → A} {u : A} (hm : cM op u) {V : (Nat → Nat) → Bool} {f : (Nat → Nat) → A} (hV : ∀ D E : Nat → Nat, (∀ q, q < 5 → D q = E q) → V D = V E) (hf : ∀ D E : Nat → Nat, (∀ q, q < 5 → D q = E q) → f D = f E) :
    fd op u (fun k => V (dc k)) (fun k => f (dc k)) 7776 = fd op u (fun k => V (dR k)) (fun k => f (dR k)) 7776 := by
  rw [fd_su hm, fd_su hm]
  exact fold_swap2 hm (G := fun D => if V D = true then f D else u) (fun D E h => by rw [hV D E h, hf D E h])
/-! what a step reaches -/
def ad (T : Nat → Bool) (b a : Nat) : Bool := T a || decide (b = a)
def hN (σ : Sg) (c : Nat) : Nat := if σ 12 c = 1 then 1 else 0
def cT (σ : Sg) (D : Nat → Nat) (x : Nat) : Bool := peS σ x && !decide (D x = 0)
def cP (σ : Sg) (D : Nat → Nat) (x c : Nat) : Bool := peS σ x && (decide (D x = 0) && (tB (σ 1 1) (nI c) && (decide (σ 9 c = nI x) && decide (cD D c ≤ hN σ c))))
def cL (σ : Sg) (D : Nat → Nat) (x y : Nat) : Bool := peS σ x && (!decide (D x = 0) && (peS σ y && (!decide (x = y) && decide (D y = 0))))
def tT (σ : Sg) (D : Nat → Nat) (x : Nat) (T : Nat → Bool) : Nat → Bool := if cT σ D x = true then ad T (cc (uN' D x 0)) else T
def tP (σ : Sg) (D : Nat → Nat) (x c : Nat) (T : Nat → Bool) : Nat → Bool := if cP σ D x c = true then ad T (cc (uN' D x (c + 1))) else T
def tL (σ : Sg) (D : Nat → Nat) (x y : Nat) (T : Nat → Bool) : Nat → Bool := if cL σ D x y = true then ad T (cc (uN' (uN' D x 0) y (D x))) else T
def spr (σ : Sg) (D : Nat → Nat) (x : Nat) (T : Nat → Bool) : Nat → Bool := fo (tL σ D x) (fo (tP σ D x) (tT σ D x T) 5) 5
def stp (σ : Sg) (D : Nat → Nat) (T : Nat → Bool) : Nat → Bool := fo (spr σ D) T 5
def em : Nat → Bool := fun _ => false
def suc (σ : Sg) (D : Nat → Nat) : Nat → Bool := stp σ D em
def un (f : (Nat → Bool) → Nat → Bool) : Prop := ∀ T a, f T a = (T a || f em a)
theorem un_ad (b : Nat) : un (fun T => ad T b) := fun T a => by simp [ad, em]
theorem un_id : un (fun T => T) := fun T a => by simp [em]
theorem un_comp {f g : (Nat → Bool) → Nat → Bool} (hf : un f) (hg : un g) : un (fun T => f (g T)) := fun T a => by
  show f (g T) a = (T a || f (g em) a)
  rw [hf (g T), hf (g em), hg T, Bool.or_assoc]
theorem un_fo {F : Nat → (Nat → Bool) → Nat → Bool} (h : ∀ i, un (F i)) : ∀ n, un (fun T => fo F T n)
  | 0 => un_id
  | n + 1 => un_comp (f := F n) (h n) (un_fo h n)
theorem un_T (σ : Sg) (D : Nat → Nat) (x : Nat) : un (tT σ D x) := by
  unfold tT
  by_cases h : cT σ D x = true
  · simp only [h, if_true]; exact un_ad _
  · simp only [h, if_false, Bool.false_eq_true]; exact un_id
theorem un_P (σ : Sg) (D : Nat → Nat) (x c : Nat) : un (tP σ D x c) := by
  unfold tP
  by_cases h : cP σ D x c = true
  · simp only [h, if_true]; exact un_ad _
  · simp only [h, if_false, Bool.false_eq_true]; exact un_id
theorem un_L (σ : Sg) (D : Nat → Nat) (x y : Nat) : un (tL σ D x y) := by
  unfold tL
  by_cases h : cL σ D x y = true
  · simp only [h, if_true]; exact un_ad _
  · simp only [h, if_false, Bool.false_eq_true]; exact un_id
theorem un_spr (σ : Sg) (D : Nat → Nat) (x : Nat) : un (spr σ D x) := un_comp (f := fun T => fo (tL σ D x) T 5) (un_fo (fun y => un_L σ D x y) 5) (un_comp (f := fun T => fo (tP σ D x) T 5) (un_fo (fun c => un_P σ D x c) 5) (un_T σ D x))
theorem un_stp (σ : Sg) (D : Nat → Nat) : un (stp σ D) := un_fo (fun x => un_spr σ D x) 5
theorem fo_cong {A : Type} {g h : Nat → A → A} {a : A} : ∀ n, (∀ i, i < n → ∀ b, g i b = h i b) → fo g a n = fo h a n
  | 0, _ => rfl
  | n + 1, e => by rw [fo_s, fo_s, fo_cong n (fun i hi => e i (by omega)), e n (by omega)]
theorem stp_cong {σ : Sg} {D E : Nat → Nat} (h : ∀ q, q < 5 → D q = E q) (T : Nat → Bool) : stp σ D T = stp σ E T := by
  have hu : ∀ p x q, q < 5 → uN' D p x q = uN' E p x q := fun p x q hq => by unfold uN'; rw [h q hq]
  have huu : ∀ p x y z q, q < 5 → uN' (uN' D p x) y z q = uN' (uN' E p x) y z q := fun p x y z q hq => by
    show (if q = y then z else uN' D p x q) = (if q = y then z else uN' E p x q)
    rw [hu p x q hq]
  refine fo_cong 5 (fun x hx T => ?_)
  unfold spr
  have e1 : tT σ D x T = tT σ E x T := by
    unfold tT cT
    rw [h x hx, cc_cong (hu x 0)]
  rw [e1]
  have e2 : fo (tP σ D x) (tT σ E x T) 5 = fo (tP σ E x) (tT σ E x T) 5 := fo_cong 5 (fun c hc T => by
    unfold tP cP
    rw [h x hx, cc_cong (hu x (c + 1)), cD_cong h])
  rw [e2]
  exact fo_cong 5 (fun y hy T => by
    unfold tL cL
    rw [h x hx, h y hy, cc_cong (huu x 0 y (E x))])
theorem suc_cong {σ : Sg} {D E : Nat → Nat} (h : ∀ q, q < 5 → D q = E q) : suc σ D = suc σ E := stp_cong h em
/-! who is not there wears nothing -/
def gD (σ : Sg) (D : Nat → Nat) : Prop := ∀ p, p < 5 → D p = 0 ∨ peS σ p = true
def gN (σ : Sg) (a : Nat) : Prop := a < 7776 ∧ gD σ (dc a)
def pG (σ : Sg) (T : Nat → Bool) : Prop := ∀ a, T a = true → gN σ a
theorem gN_cc {σ : Sg} {D : Nat → Nat} (h : dok D) (g : gD σ D) : gN σ (cc D) := ⟨cc_lt h, fun p hp => by rw [dc_cc h p hp]; exact g p hp⟩
theorem pG_ad {σ : Sg} {T : Nat → Bool} {b : Nat} (h : pG σ T) (hb : gN σ b) : pG σ (ad T b) := fun a ha => by
  unfold ad at ha
  rw [Bool.or_eq_true] at ha
  rcases ha with q | q
  · exact h a q
  · have := of_decide_eq_true q
    subst this; exact hb
theorem pG_fo {σ : Sg} {F : Nat → (Nat → Bool) → Nat → Bool} {T : Nat → Bool} (hT : pG σ T) : ∀ n, (∀ i, i < n → ∀ T, pG σ T → pG σ (F i T)) → pG σ (fo F T n)
  | 0, _ => hT
  | n + 1, h => h n (by omega) _ (pG_fo hT n (fun i hi => h i (by omega)))
theorem gD_up {σ : Sg} {D : Nat → Nat} {p x : Nat} (g : gD σ D) (h : x = 0 ∨ peS σ p = true) : gD σ (uN' D p x) := fun q hq => by
  unfold uN'
  by_cases e : q = p
  · subst e; rw [if_pos rfl]; exact h
  · rw [if_neg e]; exact g q hq
theorem pG_spr {σ : Sg} {D : Nat → Nat} {T : Nat → Bool} (h : dok D) (g : gD σ D) (hT : pG σ T) {x : Nat} (hx : x < 5) : pG σ (spr σ D x T) := by
  unfold spr
  refine pG_fo (pG_fo ?_ 5 (fun c hc T hT => ?_)) 5 (fun y hy T hT => ?_)
  · unfold tT
    split
    · exact pG_ad hT (gN_cc (dok_up h (by decide)) (gD_up g (Or.inl rfl)))
    · exact hT
  · unfold tP
    split
    · rename_i q
      unfold cP at q
      rw [Bool.and_eq_true] at q
      exact pG_ad hT (gN_cc (dok_up h (by omega)) (gD_up g (Or.inr q.1)))
    · exact hT
  · unfold tL
    split
    · rename_i q
      unfold cL at q
      simp only [Bool.and_eq_true] at q
      exact pG_ad hT (gN_cc (dok_up (dok_up h (by decide)) (h x hx)) (gD_up (gD_up g (Or.inl rfl)) (Or.inr q.2.2.1)))
    · exact hT
theorem pG_stp {σ : Sg} {D : Nat → Nat} {T : Nat → Bool} (h : dok D) (g : gD σ D) (hT : pG σ T) : pG σ (stp σ D T) := pG_fo hT 5 (fun x hx T hT => pG_spr h g hT hx)
/-! the search, level by level -/
def lT (σ : Sg) (N : Nat → Bool) : Nat → Nat → Bool := fd sOr em N (fun a => suc σ (dc a))
theorem em_set : cM (fun (a b : Nat → Bool) r => a r || b r) em := cM_set
theorem lT_t {σ : Sg} {N : Nat → Bool} {a : Nat} (h : N a = true) : lT σ N (a + 1) = stp σ (dc a) (lT σ N a) := by
  have e : lT σ N (a + 1) = fun r => lT σ N a r || suc σ (dc a) r := fd_t (op := sOr) h
  rw [e]
  funext r
  rw [un_stp σ (dc a) (lT σ N a) r]
  rfl
theorem lT_f {σ : Sg} {N : Nat → Bool} {a : Nat} (h : N a = false) : lT σ N (a + 1) = lT σ N a := fd_f h
theorem lT_G {σ : Sg} {N : Nat → Bool} (hN : pG σ N) : ∀ n, pG σ (lT σ N n)
  | 0 => fun a ha => by cases ha
  | n + 1 => by
    cases e : N n
    · rw [lT_f e]; exact lT_G hN n
    · rw [lT_t e]; exact pG_stp (dc_ok n) (hN n e).2 (lT_G hN n)
/-- known, newest behind n steps -/
def lv2 (σ : Sg) (c0 : Nat) : Nat → (Nat → Bool) × (Nat → Bool)
  | 0 => (ad em c0, ad em c0)
  | n + 1 => (fun a => (lv2 σ c0 n).1 a || lT σ (lv2 σ c0 n).2 7776 a, fun a => lT σ (lv2 σ c0 n).2 7776 a && !(lv2 σ c0 n).1 a)
theorem pG_em {σ : Sg} : pG σ em := fun a ha => by cases ha
theorem lv2_G {σ : Sg} {c0 : Nat} (h : gN σ c0) : ∀ n, pG σ (lv2 σ c0 n).1 ∧ pG σ (lv2 σ c0 n).2
  | 0 => ⟨show pG σ (ad em c0) from pG_ad pG_em h, show pG σ (ad em c0) from pG_ad pG_em h⟩
  | n + 1 => by
    obtain ⟨h1, h2⟩ := lv2_G h n
    have h3 := lT_G h2 7776
    refine ⟨fun a ha => ?_, fun a ha => ?_⟩
    · have ha' : ((lv2 σ c0 n).1 a || lT σ (lv2 σ c0 n).2 7776 a) = true := ha
      rw [Bool.or_eq_true] at ha'
      exact ha'.elim (h1 a) (h3 a)
    · have ha' : (lT σ (lv2 σ c0 n).2 7776 a && !(lv2 σ c0 n).1 a) = true := ha
      rw [Bool.and_eq_true] at ha'
      exact h3 a ha'.1
/-- the reference's order -/
def lam (e : Nat) : Nat := cc (dR e)
def lTR (σ : Sg) (N : Nat → Bool) : Nat → Nat → Bool := fd sOr em (fun e => N (lam e)) (fun e => suc σ (dR e))
theorem lTR_t {σ : Sg} {N : Nat → Bool} {e : Nat} (h : N (lam e) = true) : lTR σ N (e + 1) = stp σ (dR e) (lTR σ N e) := by
  have e1 : lTR σ N (e + 1) = fun r => lTR σ N e r || suc σ (dR e) r := fd_t (op := sOr) (V := fun e => N (lam e)) h
  rw [e1]
  funext r
  rw [un_stp σ (dR e) (lTR σ N e) r]
  rfl
theorem lTR_f {σ : Sg} {N : Nat → Bool} {e : Nat} (h : N (lam e) = false) : lTR σ N (e + 1) = lTR σ N e := fd_f (V := fun e => N (lam e)) h
theorem fd_congV {A : Type} {op : A → A → A} {u : A} {V V' : Nat → Bool} {f : Nat → A} : ∀ n, (∀ k, k < n → V k = V' k) → fd op u V f n = fd op u V' f n
  | 0, _ => rfl
  | n + 1, h => by
    unfold fd
    rw [fd_congV n (fun k hk => h k (by omega)), h n (by omega)]
theorem lT_swap {σ : Sg} {N : Nat → Bool} : lT σ N 7776 = lTR σ N 7776 := by
  have e1 : lT σ N 7776 = fd sOr em (fun k => N (cc (dc k))) (fun k => suc σ (dc k)) 7776 := fd_congV 7776 (fun k hk => by rw [cc_dc hk])
  rw [e1]
  exact fd_swap2 em_set (V := fun D => N (cc D)) (f := suc σ) (fun D E h => by show N (cc D) = N (cc E); rw [cc_cong h]) (fun D E h => suc_cong h)
theorem cM_bool : cM (fun a b : Bool => a || b) false := ⟨fun a b c => Bool.or_assoc a b c, fun a b => Bool.or_comm a b, fun a => Bool.or_false a⟩
abbrev bOr : Bool → Bool → Bool := fun a b => a || b
def anC (N : Nat → Bool) (F : (Nat → Nat) → Bool) : Nat → Bool := fd bOr false N (fun a => F (dc a))
def anR (N : Nat → Bool) (F : (Nat → Nat) → Bool) : Nat → Bool := fd bOr false (fun e => N (lam e)) (fun e => F (dR e))
theorem an_swap {N : Nat → Bool} {F : (Nat → Nat) → Bool} (hF : ∀ D E : Nat → Nat, (∀ q, q < 5 → D q = E q) → F D = F E) : anC N F 7776 = anR N F 7776 := by
  have e1 : anC N F 7776 = fd bOr false (fun k => N (cc (dc k))) (fun k => F (dc k)) 7776 := fd_congV 7776 (fun k hk => by rw [cc_dc hk])
  rw [e1]
  exact fd_swap2 cM_bool (V := fun D => N (cc D)) (f := F) (fun D E h => by show N (cc D) = N (cc E); rw [cc_cong h]) hF
theorem anC_mono {N : Nat → Bool} {F : (Nat → Nat) → Bool} {a : Nat} (h1 : N a = true) (h2 : F (dc a) = true) : ∀ j, anC N F (a + 1 + j) = true
  | 0 => by
    have e : anC N F (a + 1) = (anC N F a || F (dc a)) := fd_t (op := bOr) h1
    show anC N F (a + 1) = true
    rw [e, h2, Bool.or_true]
  | j + 1 => by
    have ih := anC_mono h1 h2 j
    rw [← Nat.add_assoc]
    cases q : N (a + 1 + j)
    · have e : anC N F (a + 1 + j + 1) = anC N F (a + 1 + j) := fd_f q
      rw [e]; exact ih
    · have e : anC N F (a + 1 + j + 1) = (anC N F (a + 1 + j) || F (dc (a + 1 + j))) := fd_t (op := bOr) q
      rw [e, ih, Bool.true_or]
theorem anR_mono {N : Nat → Bool} {F : (Nat → Nat) → Bool} {a : Nat} (h1 : N (lam a) = true) (h2 : F (dR a) = true) : ∀ j, anR N F (a + 1 + j) = true
  | 0 => by
    have e : anR N F (a + 1) = (anR N F a || F (dR a)) := fd_t (op := bOr) (V := fun e => N (lam e)) h1
    show anR N F (a + 1) = true
    rw [e, h2, Bool.or_true]
  | j + 1 => by
    have ih := anR_mono h1 h2 j
    rw [← Nat.add_assoc]
    cases q : N (lam (a + 1 + j))
    · have e : anR N F (a + 1 + j + 1) = anR N F (a + 1 + j) := fd_f (V := fun e => N (lam e)) q
      rw [e]; exact ih
    · have e : anR N F (a + 1 + j + 1) = (anR N F (a + 1 + j) || F (dR (a + 1 + j))) := fd_t (op := bOr) (V := fun e => N (lam e)) q
      rw [e, ih, Bool.true_or]
