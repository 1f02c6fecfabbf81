/-! ===== sums in any order ===== -/
def su {A : Type} (op : A → A → A) (u : A) (g : Nat → A) : Nat → A
  | 0 => u
  | n + 1 => op (su op u g n) (g n)
def cM {A : Type} (op : A → A → A) (u : A) : Prop := (∀ a b c, op (op a b) c = op a (op b c)) ∧ (∀ a b, op a b = op b a) ∧ ∀ a, op a u = a
theorem su_cong {A : Type} {op : A → A → A} {u : A} {g h : Nat → A} : ∀ n, (∀ i, i < n → g i = h i) → su op u g n = su op u h n
  | 0, _ => rfl
  | n + 1, e => by
    show op (su op u g n) (g n) = op (su op u h n) (h n)
    rw [su_cong n (fun i hi => e i (by omega)), e n (by omega)]
theorem su_add {A : Type} {op : A → A → A} {u : A} (hm : cM op u) {g : Nat → A} {a : Nat} : ∀ b, su op u g (a + b) = op (su op u g a) (su op u (fun d => g (a + d)) b)
  | 0 => (hm.2.2 _).symm
  | b + 1 => by
    show op (su op u g (a + b)) (g (a + b)) = op (su op u g a) (op (su op u (fun d => g (a + d)) b) (g (a + b)))
    rw [su_add hm b, hm.1]
theorem su_mulB {A : Type} {op : A → A → A} {u : A} (hm : cM op u) {g : Nat → A} {B : Nat} : ∀ n, su op u g (B * n) = su op u (fun i => su op u (fun d => g (B * i + d)) B) n
  | 0 => rfl
  | n + 1 => by
    show su op u g (B * (n + 1)) = op (su op u (fun i => su op u (fun d => g (B * i + d)) B) n) (su op u (fun d => g (B * n + d)) B)
    rw [Nat.mul_succ, su_add hm, su_mulB hm n]
theorem su_u {A : Type} {op : A → A → A} {u : A} (hm : cM op u) : ∀ n, su op u (fun _ => u) n = u
  | 0 => rfl
  | n + 1 => by
    show op (su op u (fun _ => u) n) u = u
    rw [hm.2.2, su_u hm n]
theorem su_op {A : Type} {op : A → A → A} {u : A} (hm : cM op u) {g h : Nat → A} : ∀ n, su op u (fun i => op (g i) (h i)) n = op (su op u g n) (su op u h n)
  | 0 => (hm.2.2 _).symm
  | n + 1 => by
    show op (su op u (fun i => op (g i) (h i)) n) (op (g n) (h n)) = op (op (su op u g n) (g n)) (op (su op u h n) (h n))
    rw [su_op hm n, hm.1, hm.1]
    congr 1
    rw [← hm.1, ← hm.1, hm.2.1 (su op u h n) (g n)]
theorem su_comm {A : Type} {op : A → A → A} {u : A} (hm : cM op u) {h : Nat → Nat → A} {m : Nat} : ∀ n, su op u (fun a => su op u (fun b => h a b) m) n = su op u (fun b => su op u (fun a => h a b) n) m
  | 0 => (su_u hm m).symm
  | n + 1 => by
    show op (su op u (fun a => su op u (fun b => h a b) m) n) (su op u (fun b => h n b) m) = su op u (fun b => op (su op u (fun a => h a b) n) (h n b)) m
    rw [su_op hm, su_comm hm n]
def s5 {A : Type} (op : A → A → A) (u : A) (B : Nat) (F : Nat → Nat → Nat → Nat → Nat → A) : A := su op u (fun a => su op u (fun b => su op u (fun c => su op u (fun d => su op u (fun e => F a b c d e) B) B) B) B) B
theorem s5_cong {A : Type} {op : A → A → A} {u : A} {B : Nat} {F G : Nat → Nat → Nat → Nat → Nat → A} (h : ∀ a b c d e, a < B → b < B → c < B → d < B → e < B → F a b c d e = G a b c d e) : s5 op u B F = s5 op u B G :=
  su_cong B (fun a ha => su_cong B (fun b hb => su_cong B (fun c hc => su_cong B (fun d hd => su_cong B (fun e he => h a b c d e ha hb hc hd he)))))
theorem s5_1 {A : Type} {op : A → A → A} {u : A} (hm : cM op u) {B : Nat} (F : Nat → Nat → Nat → Nat → Nat → A) : s5 op u B F = s5 op u B (fun a b c d e => F b a c d e) := su_comm hm B
theorem s5_2 {A : Type} {op : A → A → A} {u : A} (hm : cM op u) {B : Nat} (F : Nat → Nat → Nat → Nat → Nat → A) : s5 op u B F = s5 op u B (fun a b c d e => F a c b d e) := su_cong B (fun _ _ => su_comm hm B)
theorem s5_3 {A : Type} {op : A → A → A} {u : A} (hm : cM op u) {B : Nat} (F : Nat → Nat → Nat → Nat → Nat → A) : s5 op u B F = s5 op u B (fun a b c d e => F a b d c e) := su_cong B (fun _ _ => su_cong B (fun _ _ => su_comm hm B))
theorem s5_4 {A : Type} {op : A → A → A} {u : A} (hm : cM op u) {B : Nat} (F : Nat → Nat → Nat → Nat → Nat → A) : s5 op u B F = s5 op u B (fun a b c d e => F a b c e d) := su_cong B (fun _ _ => su_cong B (fun _ _ => su_cong B (fun _ _ => su_comm hm B)))
theorem s5_rev {A : Type} {op : A → A → A} {u : A} (hm : cM op u) {B : Nat} (F : Nat → Nat → Nat → Nat → Nat → A) : s5 op u B F = s5 op u B (fun a b c d e => F e d c b a) := by
  rw [s5_1 hm, s5_2 hm, s5_3 hm, s5_4 hm, s5_1 hm, s5_2 hm, s5_3 hm, s5_1 hm, s5_2 hm, s5_1 hm]
theorem su_rot {A : Type} {op : A → A → A} {u : A} (hm : cM op u) {h : Nat → A} : su op u (fun d => h ((d + 1) % 6)) 6 = su op u h 6 := by
  show op (op (op (op (op (op u (h 1)) (h 2)) (h 3)) (h 4)) (h 5)) (h 0) = op (op (op (op (op (op u (h 0)) (h 1)) (h 2)) (h 3)) (h 4)) (h 5)
  have e := su_add hm (g := h) (a := 1) 5
  have e1 : su op u h 1 = h 0 := by
    show op u (h 0) = h 0
    rw [hm.2.1, hm.2.2]
  rw [e1] at e
  have e2 : su op u h (1 + 5) = op (op (op (op (op (op u (h 0)) (h 1)) (h 2)) (h 3)) (h 4)) (h 5) := rfl
  rw [← e2, e, hm.2.1]
  rfl
theorem s5_rot {A : Type} {op : A → A → A} {u : A} (hm : cM op u) (F : Nat → Nat → Nat → Nat → Nat → A) : s5 op u 6 (fun a b c d e => F ((a + 1) % 6) ((b + 1) % 6) ((c + 1) % 6) ((d + 1) % 6) ((e + 1) % 6)) = s5 op u 6 F := by
  unfold s5
  rw [su_rot hm (h := fun a => su op u (fun b => su op u (fun c => su op u (fun d => su op u (fun e => F a ((b + 1) % 6) ((c + 1) % 6) ((d + 1) % 6) ((e + 1) % 6)) 6) 6) 6) 6)]
  refine su_cong 6 (fun a _ => ?_)
  rw [su_rot hm (h := fun b => su op u (fun c => su op u (fun d => su op u (fun e => F a b ((c + 1) % 6) ((d + 1) % 6) ((e + 1) % 6)) 6) 6) 6)]
  refine su_cong 6 (fun b _ => ?_)
  rw [su_rot hm (h := fun c => su op u (fun d => su op u (fun e => F a b c ((d + 1) % 6) ((e + 1) % 6)) 6) 6)]
  refine su_cong 6 (fun c _ => ?_)
  rw [su_rot hm (h := fun d => su op u (fun e => F a b c d ((e + 1) % 6)) 6)]
  refine su_cong 6 (fun d _ => ?_)
  rw [su_rot hm (h := fun e => F a b c d e)]
theorem su_s5 {A : Type} {op : A → A → A} {u : A} (hm : cM op u) {B : Nat} (g : Nat → A) : su op u g (B * (B * (B * (B * B)))) = s5 op u B (fun a b c d e => g (B * (B * (B * (B * a + b) + c) + d) + e)) := by
  unfold s5
  rw [su_mulB hm, su_mulB hm, su_mulB hm, su_mulB hm]
/-- five digits as a row -/
def mkD (a b c d e q : Nat) : Nat := if q = 0 then a else if q = 1 then b else if q = 2 then c else if q = 3 then d else e
/-- the digits of the reference's number, told as the class's -/
def dR (k p : Nat) : Nat := (k / 6 ^ p % 6 + 1) % 6
theorem dg_mk {a b c d e : Nat} (ha : a < 6) (hb : b < 6) (hc : c < 6) (hd : d < 6) (he : e < 6) : ∀ q, q < 5 → dg (6 * (6 * (6 * (6 * a + b) + c) + d) + e) q = mkD a b c d e q := by
  intro q hq
  have : q = 0 ∨ q = 1 ∨ q = 2 ∨ q = 3 ∨ q = 4 := by omega
  rcases this with rfl | rfl | rfl | rfl | rfl <;> simp only [dg, mkD, Nat.reduceSub, Nat.reducePow, if_true, if_false, Nat.reduceEqDiff, reduceCtorEq, Nat.zero_ne_one, Nat.one_ne_zero] <;> omega
theorem dR_mk {a b c d e : Nat} (ha : a < 6) (hb : b < 6) (hc : c < 6) (hd : d < 6) (he : e < 6) : ∀ q, q < 5 → dR (6 * (6 * (6 * (6 * a + b) + c) + d) + e) q = mkD ((e + 1) % 6) ((d + 1) % 6) ((c + 1) % 6) ((b + 1) % 6) ((a + 1) % 6) q := by
  intro q hq
  have : q = 0 ∨ q = 1 ∨ q = 2 ∨ q = 3 ∨ q = 4 := by omega
  rcases this with rfl | rfl | rfl | rfl | rfl <;> simp only [dR, mkD, Nat.reducePow, Nat.pow_zero, Nat.div_one, if_true, if_false, Nat.reduceEqDiff, reduceCtorEq, Nat.zero_ne_one, Nat.one_ne_zero] <;> omega
theorem fold_swap {A : Type} {op : A → A → A} {u : A} (hm : cM op u) {G : (Nat → Nat) → A} (hG : ∀ D E : Nat → Nat, (∀ q, q < 5 → D q = E q) → G D = G E) : su op u (fun k => G (dg k)) 7776 = su op u (fun k => G (dR k)) 7776 := by
  have e : 7776 = 6 * (6 * (6 * (6 * 6))) := rfl
  rw [e, su_s5 hm, su_s5 hm]
  rw [s5_cong (G := fun a b c d e => G (mkD a b c d e)) (fun a b c d e ha hb hc hd he => hG _ _ (dg_mk ha hb hc hd he))]
  rw [s5_cong (F := fun a b c d e => G (dR (6 * (6 * (6 * (6 * a + b) + c) + d) + e))) (G := fun a b c d e => (fun a b c d e => (fun a b c d e => G (mkD e d c b a)) ((a + 1) % 6) ((b + 1) % 6) ((c + 1) % 6) ((d + 1) % 6) ((e + 1) % 6)) a b c d e) (fun a b c d e ha hb hc hd he => hG _ _ (dR_mk ha hb hc hd he))]
  rw [s5_rot hm (fun a b c d e => G (mkD e d c b a))]
  exact s5_rev hm (fun a b c d e => G (mkD a b c d e))
/-- a fold over what fits -/
def fd {A : Type} (op : A → A → A) (u : A) (V : Nat → Bool) (f : Nat → A) : Nat → A
  | 0 => u
  | n + 1 => if V n = true then op (fd op u V f n) (f n) else fd op u V f n
theorem fd_su {A : Type} {op : A → A → A} {u : A} (hm : cM op u) {V : Nat → Bool} {f : Nat → A} : ∀ n, fd op u V f n = su op u (fun k => if V k = true then f k else u) n
  | 0 => rfl
  | n + 1 => by
    show (if V n = true then op (fd op u V f n) (f n) else fd op u V f n) = op (su op u (fun k => if V k = true then f k else u) n) (if V n = true then f n else u)
    rw [fd_su hm n]
    split
    · rfl
    · rw [hm.2.2]
theorem fd_t {A : Type} {op : A → A → A} {u : A} {V : Nat → Bool} {f : Nat → A} {n : Nat} (h : V n = true) : fd op u V f (n + 1) = op (fd op u V f n) (f n) := by
  simp only [fd, h, if_true]
theorem fd_f {A : Type} {op : A → A → A} {u : A} {V : Nat → Bool} {f : Nat → A} {n : Nat} (h : V n = false) : fd op u V f (n + 1) = fd op u V f n := by
  simp only [fd, h, Bool.false_eq_true, if_false]
theorem fd_skip {A : Type} {op : A → A → A} {u : A} {V : Nat → Bool} {f : Nat → A} {k : Nat} : ∀ j, (∀ e, k < e → e < k + 1 + j → V e = false) → fd op u V f (k + 1 + j) = fd op u V f (k + 1)
  | 0, _ => rfl
  | j + 1, h => by
    rw [← Nat.add_assoc, fd_f (h _ (by omega) (by omega))]
    exact fd_skip j (fun e e1 e2 => h e e1 (by omega))
theorem fd_to {A : Type} {op : A → A → A} {u : A} {V : Nat → Bool} {f : Nat → A} {k k' : Nat} (hk : k < k') (h : ∀ e, k < e → e < k' → V e = false) : fd op u V f k' = fd op u V f (k + 1) := by
  have : k' = k + 1 + (k' - (k + 1)) := by omega
  rw [this]
  exact fd_skip _ (fun e e1 e2 => h e e1 (by omega))
theorem fd_swap {A : Type} {op : A → A → A} {u : A} (hm : cM op u) {V : (Nat → Nat) → Bool} {f : (Nat → Nat) → A} (hV : ∀ D E : Nat → Nat, (∀ q, q < 5 → D q = E q) → V D = V E) (hf : ∀ D E : Nat → Nat, (∀ q, q < 5 → D q = E q) → f D = f E) :
    fd op u (fun k => V (dg k)) (fun k => f (dg k)) 7776 = fd op u (fun k => V (dR k)) (fun k => f (dR k)) 7776 := by
  rw [fd_su hm, fd_su hm]
  exact fold_swap hm (G := fun D => if V D = true then f D else u) (fun D E h => by rw [hV D E h, hf D E h])
