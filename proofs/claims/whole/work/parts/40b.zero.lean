/-! ===== loops that begin at the number 0 ===== -/
theorem lp1_z {α : Type} {f : (Int32 → Sg → Option α) → Int32 → Sg → Option α} {n : Nat} {s : Sg} (Post : Option α → Prop) (I : Nat → Sg → Prop) (N : Nat)
    (hend : ∀ H s, I N s → Post (f H (nI N) s)) (hstep : ∀ H i s, i < N → I i s → (∀ s', I (i + 1) s' → Post (H (nI (i + 1)) s')) → Post (f H (nI i) s)) (hn : N < n) (h0 : I 0 s) : Post (e_lp1 f n 0 s) :=
  lp1_wp Post I N hend hstep n 0 s (Nat.zero_le _) (by omega) h0
theorem lp2_z {α A : Type} {f : (A → Int32 → Sg → Option α) → A → Int32 → Sg → Option α} {n : Nat} {a : A} {s : Sg} (Post : Option α → Prop) (I : Nat → A → Sg → Prop) (N : Nat)
    (hend : ∀ H a s, I N a s → Post (f H a (nI N) s)) (hstep : ∀ H i a s, i < N → I i a s → (∀ a' s', I (i + 1) a' s' → Post (H a' (nI (i + 1)) s')) → Post (f H a (nI i) s)) (hn : N < n) (h0 : I 0 a s) : Post (e_lp2 f n a 0 s) :=
  lp2_wp Post I N hend hstep n 0 a s (Nat.zero_le _) (by omega) h0
theorem lp3_z {α A B : Type} {f : (A → B → Int32 → Sg → Option α) → A → B → Int32 → Sg → Option α} {n : Nat} {a : A} {b : B} {s : Sg} (Post : Option α → Prop) (I : Nat → A → B → Sg → Prop) (N : Nat)
    (hend : ∀ H a b s, I N a b s → Post (f H a b (nI N) s)) (hstep : ∀ H i a b s, i < N → I i a b s → (∀ a' b' s', I (i + 1) a' b' s' → Post (H a' b' (nI (i + 1)) s')) → Post (f H a b (nI i) s)) (hn : N < n) (h0 : I 0 a b s) : Post (e_lp3 f n a b 0 s) :=
  lp3_wp Post I N hend hstep n 0 a b s (Nat.zero_le _) (by omega) h0
theorem lp4_z {α A B C : Type} {f : (A → B → C → Int32 → Sg → Option α) → A → B → C → Int32 → Sg → Option α} {n : Nat} {a : A} {b : B} {c : C} {s : Sg} (Post : Option α → Prop) (I : Nat → A → B → C → Sg → Prop) (N : Nat)
    (hend : ∀ H a b c s, I N a b c s → Post (f H a b c (nI N) s)) (hstep : ∀ H i a b c s, i < N → I i a b c s → (∀ a' b' c' s', I (i + 1) a' b' c' s' → Post (H a' b' c' (nI (i + 1)) s')) → Post (f H a b c (nI i) s)) (hn : N < n) (h0 : I 0 a b c s) : Post (e_lp4 f n a b c 0 s) :=
  lp4_wp Post I N hend hstep n 0 a b c s (Nat.zero_le _) (by omega) h0
theorem lp5_z {α A B C D : Type} {f : (A → B → C → D → Int32 → Sg → Option α) → A → B → C → D → Int32 → Sg → Option α} {n : Nat} {a : A} {b : B} {c : C} {d : D} {s : Sg} (Post : Option α → Prop) (I : Nat → A → B → C → D → Sg → Prop) (N : Nat)
    (hend : ∀ H a b c d s, I N a b c d s → Post (f H a b c d (nI N) s)) (hstep : ∀ H i a b c d s, i < N → I i a b c d s → (∀ a' b' c' d' s', I (i + 1) a' b' c' d' s' → Post (H a' b' c' d' (nI (i + 1)) s')) → Post (f H a b c d (nI i) s)) (hn : N < n) (h0 : I 0 a b c d s) : Post (e_lp5 f n a b c d 0 s) :=
  lp5_wp Post I N hend hstep n 0 a b c d s (Nat.zero_le _) (by omega) h0
theorem lp2_accz {α A : Type} {f : (A → Int32 → Sg → Option α) → A → Int32 → Sg → Option α} {σ : Sg} {n : Nat} {a : A} (g : Nat → A → A) (N : Nat) (K : A → Option α)
    (hend : ∀ H a, f H a (nI N) σ = K a) (hstep : ∀ H i a, i < N → f H a (nI i) σ = H (g i a) (nI (i + 1)) σ) (hn : N < n) : e_lp2 f n a 0 σ = K (fo g a N) := lp2_acc g N K hend hstep hn a
