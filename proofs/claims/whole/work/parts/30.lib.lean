/-! ===== the pure side: rules for the combinators ===== -/
theorem p_cI {α : Type} {r : Int32} {s : Sg} {F : Int32 → Sg → Option α} : e_cI (some (r, s)) F = F r s := by simp [e_cI]
theorem p_cJ {α : Type} {r : Int64} {s : Sg} {F : Int64 → Sg → Option α} : e_cJ (some (r, s)) F = F r s := by simp [e_cJ]
theorem p_cR {α : Type} {r : Nat} {s : Sg} {F : Nat → Sg → Option α} : e_cR (some (r, s)) F = F r s := by simp [e_cR]
theorem p_cV {α : Type} {s : Sg} {F : Sg → Option α} : e_cV (some s) F = F s := by simp [e_cV]
theorem p_lt {α β : Type} {x : β} {F : β → Option α} : e_lt x F = F x := by unfold e_lt; exact Eq.trans rfl rfl
theorem p_gd {α : Type} {b : Bool} {E : Option α} (h : b = true) : e_gd b E = E := by rw [h]; rfl
theorem p_wr {α : Type} {σ : Sg} {k n : Nat} {i x : Int32} {F : Sg → Option α} (h : k_in i n = true) : e_wr σ k i n x F = F (k_up σ k i.toNatClampNeg x) := by simp [e_wr, h]
theorem p_rz0 {σ : Sg} : e_rz 0 σ = some (0, σ) := by simp [e_rz]
theorem p_rz1 {σ : Sg} : e_rz 1 σ = some (1, σ) := by simp [e_rz]
/-- a truth as the machine's int -/
def zI (b : Bool) : Int32 := if b then 1 else 0
theorem zI_t : zI true = 1 := rfl
theorem zI_f : zI false = 0 := rfl
theorem zI_0 {b : Bool} : zI b = 0 ↔ b = false := by cases b <;> decide
theorem zI_1 {b : Bool} : zI b = 1 ↔ b = true := by cases b <;> decide
theorem p_rzz {b : Bool} {σ : Sg} : e_rz (zI b) σ = some (zI b, σ) := by cases b <;> simp [zI, e_rz]
theorem p_ifz {α : Sort _} {b : Bool} {x y : α} : (if zI b = 0 then x else y) = if b then y else x := by cases b <;> simp [zI]
/-! ===== indices ===== -/
theorem x_ix {i : Nat} (h : i < 2 ^ 31) : Int32.toNatClampNeg (nI i) = i := nI_clamp h
theorem x_in {i n : Nat} (h : i < n) (hn : n < 2 ^ 31) : k_in (nI i) n = true := by
  unfold k_in
  exact decide_eq_true (nI_in h hn)
theorem x_lit (n : Nat) : (OfNat.ofNat n : Int32) = nI n := rfl
theorem x_ge {i n : Nat} (h : i < n) (hn : n < 2 ^ 31) : ¬ nI n ≤ nI i := nI_ge h hn
theorem x_le {i n : Nat} (h : n ≤ i) (hi : i < 2 ^ 31) : nI n ≤ nI i := nI_le h hi
theorem x_s (i : Nat) : nI i + 1 = nI (i + 1) := nI_1 i
/-! ===== loops ===== -/
theorem lp1_wp {α : Type} {f : (Int32 → Sg → Option α) → Int32 → Sg → Option α} (Post : Option α → Prop) (I : Nat → Sg → Prop) (N : Nat)
    (hend : ∀ H s, I N s → Post (f H (nI N) s)) (hstep : ∀ H i s, i < N → I i s → (∀ s', I (i + 1) s' → Post (H (nI (i + 1)) s')) → Post (f H (nI i) s)) :
    ∀ n i s, i ≤ N → N - i < n → I i s → Post (e_lp1 f n (nI i) s) := by
  intro n
  induction n with
  | zero => intro i s h1 h2; omega
  | succ n ih =>
    intro i s h1 h2 h3
    show Post (f (e_lp1 f n) (nI i) s)
    by_cases e : i = N
    · subst e; exact hend _ _ h3
    · exact hstep _ i s (by omega) h3 (fun s' h' => ih (i + 1) s' (by omega) (by omega) h')
theorem lp2_wp {α A : Type} {f : (A → Int32 → Sg → Option α) → A → Int32 → Sg → Option α} (Post : Option α → Prop) (I : Nat → A → Sg → Prop) (N : Nat)
    (hend : ∀ H a s, I N a s → Post (f H a (nI N) s)) (hstep : ∀ H i a s, i < N → I i a s → (∀ a' s', I (i + 1) a' s' → Post (H a' (nI (i + 1)) s')) → Post (f H a (nI i) s)) :
    ∀ n i a s, i ≤ N → N - i < n → I i a s → Post (e_lp2 f n a (nI i) s) := by
  intro n
  induction n with
  | zero => intro i a s h1 h2; omega
  | succ n ih =>
    intro i a s h1 h2 h3
    show Post (f (e_lp2 f n) a (nI i) s)
    by_cases e : i = N
    · subst e; exact hend _ _ _ h3
    · exact hstep _ i a s (by omega) h3 (fun a' s' h' => ih (i + 1) a' s' (by omega) (by omega) h')
theorem lp3_wp {α A B : Type} {f : (A → B → Int32 → Sg → Option α) → A → B → Int32 → Sg → Option α} (Post : Option α → Prop) (I : Nat → A → B → Sg → Prop) (N : Nat)
    (hend : ∀ H a b s, I N a b s → Post (f H a b (nI N) s)) (hstep : ∀ H i a b s, i < N → I i a b s → (∀ a' b' s', I (i + 1) a' b' s' → Post (H a' b' (nI (i + 1)) s')) → Post (f H a b (nI i) s)) :
    ∀ n i a b s, i ≤ N → N - i < n → I i a b s → Post (e_lp3 f n a b (nI i) s) := by
  intro n
  induction n with
  | zero => intro i a b s h1 h2; omega
  | succ n ih =>
    intro i a b s h1 h2 h3
    show Post (f (e_lp3 f n) a b (nI i) s)
    by_cases e : i = N
    · subst e; exact hend _ _ _ _ h3
    · exact hstep _ i a b s (by omega) h3 (fun a' b' s' h' => ih (i + 1) a' b' s' (by omega) (by omega) h')
theorem lp4_wp {α A B C : Type} {f : (A → B → C → Int32 → Sg → Option α) → A → B → C → Int32 → Sg → Option α} (Post : Option α → Prop) (I : Nat → A → B → C → Sg → Prop) (N : Nat)
    (hend : ∀ H a b c s, I N a b c s → Post (f H a b c (nI N) s)) (hstep : ∀ H i a b c s, i < N → I i a b c s → (∀ a' b' c' s', I (i + 1) a' b' c' s' → Post (H a' b' c' (nI (i + 1)) s')) → Post (f H a b c (nI i) s)) :
    ∀ n i a b c s, i ≤ N → N - i < n → I i a b c s → Post (e_lp4 f n a b c (nI i) s) := by
  intro n
  induction n with
  | zero => intro i a b c s h1 h2; omega
  | succ n ih =>
    intro i a b c s h1 h2 h3
    show Post (f (e_lp4 f n) a b c (nI i) s)
    by_cases e : i = N
    · subst e; exact hend _ _ _ _ _ h3
    · exact hstep _ i a b c s (by omega) h3 (fun a' b' c' s' h' => ih (i + 1) a' b' c' s' (by omega) (by omega) h')
theorem lp5_wp {α A B C D : Type} {f : (A → B → C → D → Int32 → Sg → Option α) → A → B → C → D → Int32 → Sg → Option α} (Post : Option α → Prop) (I : Nat → A → B → C → D → Sg → Prop) (N : Nat)
    (hend : ∀ H a b c d s, I N a b c d s → Post (f H a b c d (nI N) s)) (hstep : ∀ H i a b c d s, i < N → I i a b c d s → (∀ a' b' c' d' s', I (i + 1) a' b' c' d' s' → Post (H a' b' c' d' (nI (i + 1)) s')) → Post (f H a b c d (nI i) s)) :
    ∀ n i a b c d s, i ≤ N → N - i < n → I i a b c d s → Post (e_lp5 f n a b c d (nI i) s) := by
  intro n
  induction n with
  | zero => intro i a b c d s h1 h2; omega
  | succ n ih =>
    intro i a b c d s h1 h2 h3
    show Post (f (e_lp5 f n) a b c d (nI i) s)
    by_cases e : i = N
    · subst e; exact hend _ _ _ _ _ _ h3
    · exact hstep _ i a b c d s (by omega) h3 (fun a' b' c' d' s' h' => ih (i + 1) a' b' c' d' s' (by omega) (by omega) h')
theorem e_F_lt {n : Nat} (h : n < 10000) : n < e_F := h
/-! ===== folds over the first numbers ===== -/
def fo {A : Type} (g : Nat → A → A) (a : A) : Nat → A
  | 0 => a
  | n + 1 => g n (fo g a n)
theorem fo_s {A : Type} (g : Nat → A → A) (a : A) (n : Nat) : fo g a (n + 1) = g n (fo g a n) := rfl
/-- rows -/
def rw1 (σ : Sg) (c : Nat) (f : Nat → Int32) : Sg := fun k => if k = c then f else σ k
theorem rw1_eq {σ : Sg} {c : Nat} {f : Nat → Int32} : rw1 σ c f c = f := by simp [rw1]
theorem rw1_ne {σ : Sg} {c k : Nat} {f : Nat → Int32} (h : k ≠ c) : rw1 σ c f k = σ k := by simp [rw1, h]
theorem rw1_self {σ : Sg} {c : Nat} : rw1 σ c (σ c) = σ := by funext k; by_cases h : k = c <;> simp [rw1, h]
theorem rw1_rw1 {σ : Sg} {c : Nat} {f g : Nat → Int32} : rw1 (rw1 σ c f) c g = rw1 σ c g := by funext k; by_cases h : k = c <;> simp [rw1, h]
theorem up_rw {σ : Sg} {c j : Nat} {x : Int32} : k_up σ c j x = rw1 σ c (upd (σ c) j x) := by funext k; simp [k_up, rw1]
